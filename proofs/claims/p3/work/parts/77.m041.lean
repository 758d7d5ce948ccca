
set_option maxHeartbeats 4000000 in
theorem vc_Ho_writeDrawing_0_0 (x3 : Int) (x4 : Int) (spareLength_0 : Int) (k3 : 0 ≤ x3 ∧ x3 ≤ 99977752) (k4 : 0 ≤ x4 ∧ x4 ≤ 0) (f0 : 1 * spareLength_0 + ((-1) * x3 + 0) ≤ 0) (kz_0_12 : 0 ≤ spareLength_0 ∧ spareLength_0 ≤ 100000000) : 1 * spareLength_0 + ((-1) * x3 + ((-27) * x4 + 0)) ≤ 0 := by
  first | assumption | omega | grind
def o_Ho_writeDrawing_0 : or_T := (2, 5, [(0, (2, 0, 0, [12])), (3, (0, 0, 99977752, [])), (4, (0, 0, 0, []))], [(20, [0, 3], [30, 0, 1, 1, 12, -1, 0, 0])], [], [], [(20, [0, 3, 4], [30, 0, 1, 1, 12, -1, 0, 0, -27, 0, 0]), (24, [0, 0], [])], [], [])
theorem oo_Ho_writeDrawing_0 {kA : Nat → ClassId} : or_ok PRD kA GG o_Ho_writeDrawing_0 := by
  refine or_mk fun A ta ws vs hD hth hl => ?_
  intro t0 r0 t3 k3 t4 k4 f0
  have kz_0_12 := fdq_0 hD hth r0
  have nf0 : fc_1 PRD (20, [0, 3, 4], [30, 0, 1, 1, 12, -1, 0, 0, -27, 0, 0]) ws (vs) := ⟨nf_in hl rfl, sgq_1766 (vc_Ho_writeDrawing_0_0 (v_iv (n_v vs 3)) (v_iv (n_v vs 4)) (w_fi ws (n_v vs 0) 12) k3 k4 (shm_104 f0) kz_0_12)⟩
  have nf1 : fc_1 PRD (24, [0, 0], []) ws (vs) := by
    refine ⟨nf_in hl rfl, sgq_1 ?_⟩
    · show n_v vs 0 = n_v vs 0
      first | rfl | simp only [true_and]
  refine ⟨(fun _ h => (by cases h)), [], trivial, ?_, (fun _ h => (by cases h))⟩
  rw [List.append_nil]
  exact List.forall_mem_cons.mpr ⟨⟨show (20 : Nat) < 100 from by decide, nf0⟩, List.forall_mem_cons.mpr ⟨⟨show (24 : Nat) < 100 from by decide, nf1⟩, (fun _ h => (by cases h))⟩⟩
set_option maxHeartbeats 4000000 in
theorem vc_Ho_writeDrawing_1_0 (x3 : Int) (x7 : Int) (x9 : Int) (spareLength_0 : Int) (k3 : 0 ≤ x3 ∧ x3 ≤ 99977752) (k7 : 0 ≤ x7 ∧ x7 ≤ 24) (k9 : 0 ≤ x9 ∧ x9 ≤ 0) (f2 : 1 * spareLength_0 + ((-1) * x3 + ((-27) * x7 + 0)) ≤ 0) (kz_0_12 : 0 ≤ spareLength_0 ∧ spareLength_0 ≤ 100000000) : 1 * spareLength_0 + ((-1) * x3 + ((-450) * x9 + 0)) ≤ 648 := by
  first | assumption | omega | grind
def o_Ho_writeDrawing_1 : or_T := (55, 10, [(0, (2, 0, 0, [12])), (3, (0, 0, 99977752, [])), (7, (0, 0, 24, [])), (9, (0, 0, 0, []))], [(20, [4, 3, 7], [30, 0, 1, 1, 12, -1, 0, 0, -27, 0, 0]), (24, [0, 4], [])], [], [], [(20, [4, 3, 9], [30, 648, 1, 1, 12, -1, 0, 0, -450, 0, 0])], [], [])
theorem oo_Ho_writeDrawing_1 {kA : Nat → ClassId} : or_ok PRD kA GG o_Ho_writeDrawing_1 := by
  refine or_mk fun A ta ws vs hD hth hl => ?_
  intro t0 r0 t3 k3 t7 k7 t9 k9 f2 f3
  replace f2 := shm_1766 f2
  replace f3 := shm_5 f3
  have q4 : n_v vs 4 = n_v vs 0 := f3.symm
  simp only [q4] at f2
  have kz_0_12 := fdq_0 hD hth r0
  have nf0 : fc_1 PRD (20, [4, 3, 9], [30, 648, 1, 1, 12, -1, 0, 0, -450, 0, 0]) ws (vs) := by
    refine ⟨nf_in hl rfl, sgq_1767 ?_⟩
    · show 1 * w_fi ws (n_v vs 4) 12 + ((-1) * v_iv (n_v vs 3) + ((-450) * v_iv (n_v vs 9) + 0)) ≤ 648
      rw [q4]
      exact vc_Ho_writeDrawing_1_0 (v_iv (n_v vs 3)) (v_iv (n_v vs 7)) (v_iv (n_v vs 9)) (w_fi ws (n_v vs 0) 12) k3 k7 k9 f2 kz_0_12
  refine ⟨(fun _ h => (by cases h)), [], trivial, ?_, (fun _ h => (by cases h))⟩
  rw [List.append_nil]
  exact List.forall_mem_cons.mpr ⟨⟨show (20 : Nat) < 100 from by decide, nf0⟩, (fun _ h => (by cases h))⟩
set_option maxHeartbeats 4000000 in
theorem vc_Ho_writeDrawing_2_0 (spareLength_0 : Int) (gx : Int) (kz_0_12 : 0 ≤ spareLength_0 ∧ spareLength_0 ≤ 100000000) (ex2 : gx = spareLength_0) : 1 * spareLength_0 + ((-1) * gx + 0) ≤ 0 := by
  first | assumption | omega | grind
set_option maxHeartbeats 4000000 in
theorem vc_Ho_writeDrawing_2_1 (x3 : Int) (x7 : Int) (spareLength_0 : Int) (gx : Int) (k3 : 0 ≤ x3 ∧ x3 ≤ 99977752) (k7 : 0 ≤ x7 ∧ x7 ≤ 23) (f2 : 1 * spareLength_0 + ((-1) * x3 + ((-27) * x7 + 0)) ≤ 0) (kz_0_12 : 0 ≤ spareLength_0 ∧ spareLength_0 ≤ 100000000) (ex2 : gx = spareLength_0) : 1 * gx + ((-1) * x3 + ((-27) * x7 + 0)) ≤ 0 := by
  first | assumption | omega | grind
def o_Ho_writeDrawing_2 : or_T := (22, 12, [(0, (2, 0, 0, [12])), (3, (0, 0, 99977752, [])), (4, (2, 0, 0, [12])), (5, (2, 0, 0, [3])), (7, (0, 0, 23, [])), (8, (0, 1, 24, []))], [(7, [7, 8], [2]), (9, [8, 5], [0]), (20, [4, 3, 7], [30, 0, 1, 1, 12, -1, 0, 0, -27, 0, 0]), (24, [0, 4], [])], [], [(0, 0, 99999992, [])], [(20, [4, 12], [30, 0, 1, 1, 12, -1, 0, 0]), (23, [12, 3, 7], [0, 1, -1, -27])], [], [(7, 8, -4294967296, -1)])
theorem oo_Ho_writeDrawing_2 {kA : Nat → ClassId} : or_ok PRD kA GG o_Ho_writeDrawing_2 := by
  refine or_mk fun A ta ws vs hD hth hl => ?_
  intro t0 r0 t3 k3 t4 r4 t5 r5 t7 k7 t8 k8 d0 f0 f1 f2 f3
  replace f0 := shm_6 f0
  replace f1 := shm_163 f1
  replace f2 := shm_1766 f2
  replace f3 := shm_5 f3
  have q4 : n_v vs 4 = n_v vs 0 := f3.symm
  simp only [q4] at f2
  have g1 : v_iv (n_v vs 8) = w_fi ws (n_v vs 5) 0 := congrArg v_iv f1
  have kz_0_12 := fdq_0 hD hth r0
  have kz_5_0 := fdq_21 hD hth r5
  have kv0 := fdq_0 hD hth r0
  obtain ⟨x, ex, hx⟩ := iv_ex (ta := ta) (lo := 0) (hi := 99999992) (z := w_fi ws (n_v vs 0) 12) (by omega) (by omega) (by omega) (by omega)
  have ex2 : v_iv (Value.int x) = w_fi ws (n_v vs 0) 12 := ex
  have ex3 : 0 ≤ v_iv (Value.int x) ∧ v_iv (Value.int x) ≤ 99999992 := tv_rng hx
  have e_3 : n_v (vs ++ [Value.int x]) 3 = n_v vs 3 := n_v_old (by rw [hl]; decide)
  have e_4 : n_v (vs ++ [Value.int x]) 4 = n_v vs 4 := n_v_old (by rw [hl]; decide)
  have e_7 : n_v (vs ++ [Value.int x]) 7 = n_v vs 7 := n_v_old (by rw [hl]; decide)
  have e_12 : n_v (vs ++ [Value.int x]) 12 = Value.int x := n_v_new hl
  have nf0 : fc_1 PRD (20, [4, 12], [30, 0, 1, 1, 12, -1, 0, 0]) ws (vs ++ [Value.int x]) := by
    refine ⟨nf_inA hl rfl, sgq_104 ?_⟩
    · show 1 * w_fi ws (n_v (vs ++ [Value.int x]) 4) 12 + ((-1) * v_iv (n_v (vs ++ [Value.int x]) 12) + 0) ≤ 0
      simp only [e_4, e_12, q4]
      exact vc_Ho_writeDrawing_2_0 (w_fi ws (n_v vs 0) 12) (v_iv (Value.int x)) kz_0_12 ex2
  have nf1 : fc_1 PRD (23, [12, 3, 7], [0, 1, -1, -27]) ws (vs ++ [Value.int x]) := by
    refine ⟨nf_inA hl rfl, sgq_1768 ?_⟩
    · show 1 * v_iv (n_v (vs ++ [Value.int x]) 12) + ((-1) * v_iv (n_v (vs ++ [Value.int x]) 3) + ((-27) * v_iv (n_v (vs ++ [Value.int x]) 7) + 0)) ≤ 0
      simp only [e_3, e_7, e_12]
      exact vc_Ho_writeDrawing_2_1 (v_iv (n_v vs 3)) (v_iv (n_v vs 7)) (w_fi ws (n_v vs 0) 12) (v_iv (Value.int x)) k3 k7 f2 kz_0_12 ex2
  exact ⟨(fun _ h => (by cases h)), [Value.int x], ag_one hx, List.forall_mem_cons.mpr ⟨⟨show (20 : Nat) < 100 from by decide, nf0⟩, List.forall_mem_cons.mpr ⟨⟨show (23 : Nat) < 100 from by decide, nf1⟩, (fun _ h => (by cases h))⟩⟩, (fun _ h => (by cases h))⟩
set_option maxHeartbeats 4000000 in
theorem vc_Ho_writeDrawing_3_0 (spareLength_0 : Int) (gx : Int) (kz_0_12 : 0 ≤ spareLength_0 ∧ spareLength_0 ≤ 100000000) (ex2 : gx = spareLength_0) : 1 * spareLength_0 + ((-1) * gx + 0) ≤ 0 := by
  first | assumption | omega | grind
set_option maxHeartbeats 4000000 in
theorem vc_Ho_writeDrawing_3_1 (x3 : Int) (x7 : Int) (x12 : Int) (spareLength_0 : Int) (gx : Int) (k3 : 0 ≤ x3 ∧ x3 ≤ 99977752) (k7 : 0 ≤ x7 ∧ x7 ≤ 23) (k12 : 0 ≤ x12 ∧ x12 ≤ 99999992) (f0 : 1 * x12 + ((-1) * x3 + ((-27) * x7 + 0)) ≤ 0) (f2 : 1 * spareLength_0 + ((-1) * x12 + 0) ≤ 8) (kz_0_12 : 0 ≤ spareLength_0 ∧ spareLength_0 ≤ 100000000) (ex2 : gx = spareLength_0) : 1 * gx + ((-1) * x3 + ((-27) * x7 + 0)) ≤ 8 := by
  first | assumption | omega | grind
def o_Ho_writeDrawing_3 : or_T := (38, 17, [(0, (2, 0, 0, [12])), (3, (0, 0, 99977752, [])), (4, (2, 0, 0, [12])), (7, (0, 0, 23, [])), (8, (0, 1, 24, [])), (12, (0, 0, 99999992, []))], [(23, [12, 3, 7], [0, 1, -1, -27]), (24, [0, 4], []), (20, [4, 12], [30, 8, 1, 1, 12, -1, 0, 0]), (102, [12], [261336857795280739939871698507597986398208, 12012]), (23, [12, 3, 7], [0, 1, -1, -27]), (7, [7, 8], [2])], [], [(0, 0, 99999982, [])], [(20, [4, 17], [30, 0, 1, 1, 12, -1, 0, 0]), (23, [17, 3, 7], [8, 1, -1, -27])], [], [(7, 8, -4294967296, -1)])
theorem oo_Ho_writeDrawing_3 {kA : Nat → ClassId} : or_ok PRD kA GG o_Ho_writeDrawing_3 := by
  refine or_mk fun A ta ws vs hD hth hl => ?_
  intro t0 r0 t3 k3 t4 r4 t7 k7 t8 k8 t12 k12 d0 f0 f1 f2 ta1 w1 le1 s1 f4 f5
  replace f0 := shm_1768 f0
  replace f1 := shm_5 f1
  replace f2 := shm_135 f2
  replace f4 := shm_1768 f4
  replace f5 := shm_6 f5
  have q4 : n_v vs 4 = n_v vs 0 := f1.symm
  simp only [q4] at f2
  have kz_0_12 := fdq_0 hD hth r0
  have kv0 := fdq_0 hD hth r0
  obtain ⟨x, ex, hx⟩ := iv_ex (ta := ta) (lo := 0) (hi := 99999982) (z := w_fi ws (n_v vs 0) 12) (by omega) (by omega) (by omega) (by omega)
  have ex2 : v_iv (Value.int x) = w_fi ws (n_v vs 0) 12 := ex
  have ex3 : 0 ≤ v_iv (Value.int x) ∧ v_iv (Value.int x) ≤ 99999982 := tv_rng hx
  have e_3 : n_v (vs ++ [Value.int x]) 3 = n_v vs 3 := n_v_old (by rw [hl]; decide)
  have e_4 : n_v (vs ++ [Value.int x]) 4 = n_v vs 4 := n_v_old (by rw [hl]; decide)
  have e_7 : n_v (vs ++ [Value.int x]) 7 = n_v vs 7 := n_v_old (by rw [hl]; decide)
  have e_17 : n_v (vs ++ [Value.int x]) 17 = Value.int x := n_v_new hl
  have nf0 : fc_1 PRD (20, [4, 17], [30, 0, 1, 1, 12, -1, 0, 0]) ws (vs ++ [Value.int x]) := by
    refine ⟨nf_inA hl rfl, sgq_104 ?_⟩
    · show 1 * w_fi ws (n_v (vs ++ [Value.int x]) 4) 12 + ((-1) * v_iv (n_v (vs ++ [Value.int x]) 17) + 0) ≤ 0
      simp only [e_4, e_17, q4]
      exact vc_Ho_writeDrawing_3_0 (w_fi ws (n_v vs 0) 12) (v_iv (Value.int x)) kz_0_12 ex2
  have nf1 : fc_1 PRD (23, [17, 3, 7], [8, 1, -1, -27]) ws (vs ++ [Value.int x]) := by
    refine ⟨nf_inA hl rfl, sgq_1769 ?_⟩
    · show 1 * v_iv (n_v (vs ++ [Value.int x]) 17) + ((-1) * v_iv (n_v (vs ++ [Value.int x]) 3) + ((-27) * v_iv (n_v (vs ++ [Value.int x]) 7) + 0)) ≤ 8
      simp only [e_3, e_7, e_17]
      exact vc_Ho_writeDrawing_3_1 (v_iv (n_v vs 3)) (v_iv (n_v vs 7)) (v_iv (n_v vs 12)) (w_fi ws (n_v vs 0) 12) (v_iv (Value.int x)) k3 k7 k12 f0 f2 kz_0_12 ex2
  exact ⟨(fun _ h => (by cases h)), [Value.int x], ag_one hx, List.forall_mem_cons.mpr ⟨⟨show (20 : Nat) < 100 from by decide, nf0⟩, List.forall_mem_cons.mpr ⟨⟨show (23 : Nat) < 100 from by decide, nf1⟩, (fun _ h => (by cases h))⟩⟩, (fun _ h => (by cases h))⟩
set_option maxHeartbeats 4000000 in
theorem vc_Ho_writeDrawing_4_0 (spareLength_0 : Int) (gx : Int) (kz_0_12 : 0 ≤ spareLength_0 ∧ spareLength_0 ≤ 100000000) (ex2 : gx = spareLength_0) : 1 * spareLength_0 + ((-1) * gx + 0) ≤ 0 := by
  first | assumption | omega | grind
set_option maxHeartbeats 4000000 in
theorem vc_Ho_writeDrawing_4_1 (x3 : Int) (x7 : Int) (x17 : Int) (spareLength_0 : Int) (gx : Int) (k3 : 0 ≤ x3 ∧ x3 ≤ 99977752) (k7 : 0 ≤ x7 ∧ x7 ≤ 23) (k17 : 0 ≤ x17 ∧ x17 ≤ 99999982) (f0 : 1 * x17 + ((-1) * x3 + ((-27) * x7 + 0)) ≤ 8) (f3 : 1 * spareLength_0 + ((-1) * x17 + 0) ≤ 18) (kz_0_12 : 0 ≤ spareLength_0 ∧ spareLength_0 ≤ 100000000) (ex2 : gx = spareLength_0) : 1 * gx + ((-1) * x3 + ((-27) * x7 + 0)) ≤ 26 := by
  first | assumption | omega | grind
def o_Ho_writeDrawing_4 : or_T := (44, 19, [(0, (2, 0, 0, [12])), (3, (0, 0, 99977752, [])), (4, (2, 0, 0, [12])), (7, (0, 0, 23, [])), (8, (0, 1, 24, [])), (12, (0, 0, 99999992, [])), (17, (0, 0, 99999982, []))], [(23, [17, 3, 7], [8, 1, -1, -27]), (23, [12, 3, 7], [0, 1, -1, -27]), (24, [0, 4], []), (20, [4, 17], [30, 18, 1, 1, 12, -1, 0, 0]), (102, [17], [261336857795280739939871698507597986398208, 12012]), (23, [17, 3, 7], [8, 1, -1, -27]), (23, [12, 3, 7], [0, 1, -1, -27]), (102, [12], [261336857795280739939871698507597986398208, 12012]), (23, [12, 3, 7], [0, 1, -1, -27]), (7, [7, 8], [2])], [], [(0, 0, 99999999, [])], [(20, [4, 19], [30, 0, 1, 1, 12, -1, 0, 0]), (23, [19, 3, 7], [26, 1, -1, -27])], [], [(7, 8, -4294967296, -1)])
theorem oo_Ho_writeDrawing_4 {kA : Nat → ClassId} : or_ok PRD kA GG o_Ho_writeDrawing_4 := by
  refine or_mk fun A ta ws vs hD hth hl => ?_
  intro t0 r0 t3 k3 t4 r4 t7 k7 t8 k8 t12 k12 t17 k17 d0 f0 f1 f2 f3 ta1 w1 le1 s1 f5 f6 ta2 w2 le2 s2 f8 f9
  replace f0 := shm_1769 f0
  replace f1 := shm_1768 f1
  replace f2 := shm_5 f2
  replace f3 := shm_181 f3
  replace f5 := shm_1769 f5
  replace f6 := shm_1768 f6
  replace f8 := shm_1768 f8
  replace f9 := shm_6 f9
  have q4 : n_v vs 4 = n_v vs 0 := f2.symm
  simp only [q4] at f3
  have kz_0_12 := fdq_0 hD hth r0
  have kv0 := fdq_0 hD hth r0
  obtain ⟨x, ex, hx⟩ := iv_ex (ta := ta) (lo := 0) (hi := 99999999) (z := w_fi ws (n_v vs 0) 12) (by omega) (by omega) (by omega) (by omega)
  have ex2 : v_iv (Value.int x) = w_fi ws (n_v vs 0) 12 := ex
  have ex3 : 0 ≤ v_iv (Value.int x) ∧ v_iv (Value.int x) ≤ 99999999 := tv_rng hx
  have e_3 : n_v (vs ++ [Value.int x]) 3 = n_v vs 3 := n_v_old (by rw [hl]; decide)
  have e_4 : n_v (vs ++ [Value.int x]) 4 = n_v vs 4 := n_v_old (by rw [hl]; decide)
  have e_7 : n_v (vs ++ [Value.int x]) 7 = n_v vs 7 := n_v_old (by rw [hl]; decide)
  have e_19 : n_v (vs ++ [Value.int x]) 19 = Value.int x := n_v_new hl
  have nf0 : fc_1 PRD (20, [4, 19], [30, 0, 1, 1, 12, -1, 0, 0]) ws (vs ++ [Value.int x]) := by
    refine ⟨nf_inA hl rfl, sgq_104 ?_⟩
    · show 1 * w_fi ws (n_v (vs ++ [Value.int x]) 4) 12 + ((-1) * v_iv (n_v (vs ++ [Value.int x]) 19) + 0) ≤ 0
      simp only [e_4, e_19, q4]
      exact vc_Ho_writeDrawing_4_0 (w_fi ws (n_v vs 0) 12) (v_iv (Value.int x)) kz_0_12 ex2
  have nf1 : fc_1 PRD (23, [19, 3, 7], [26, 1, -1, -27]) ws (vs ++ [Value.int x]) := by
    refine ⟨nf_inA hl rfl, sgq_1770 ?_⟩
    · show 1 * v_iv (n_v (vs ++ [Value.int x]) 19) + ((-1) * v_iv (n_v (vs ++ [Value.int x]) 3) + ((-27) * v_iv (n_v (vs ++ [Value.int x]) 7) + 0)) ≤ 26
      simp only [e_3, e_7, e_19]
      exact vc_Ho_writeDrawing_4_1 (v_iv (n_v vs 3)) (v_iv (n_v vs 7)) (v_iv (n_v vs 17)) (w_fi ws (n_v vs 0) 12) (v_iv (Value.int x)) k3 k7 k17 f0 f3 kz_0_12 ex2
  exact ⟨(fun _ h => (by cases h)), [Value.int x], ag_one hx, List.forall_mem_cons.mpr ⟨⟨show (20 : Nat) < 100 from by decide, nf0⟩, List.forall_mem_cons.mpr ⟨⟨show (23 : Nat) < 100 from by decide, nf1⟩, (fun _ h => (by cases h))⟩⟩, (fun _ h => (by cases h))⟩
set_option maxHeartbeats 4000000 in
theorem vc_Ho_writeDrawing_5_0 (x3 : Int) (x7 : Int) (x19 : Int) (x20 : Int) (spareLength_0 : Int) (k3 : 0 ≤ x3 ∧ x3 ≤ 99977752) (k7 : 0 ≤ x7 ∧ x7 ≤ 23) (k19 : 0 ≤ x19 ∧ x19 ≤ 99999999) (k20 : 1 ≤ x20 ∧ x20 ≤ 24) (d0 : x7 + 1 ≤ x20 ∧ x20 ≤ x7 + 1) (f1 : 1 * x19 + ((-1) * x3 + ((-27) * x7 + 0)) ≤ 26) (f5 : 1 * spareLength_0 + ((-1) * x19 + 0) ≤ 1) (kz_0_12 : 0 ≤ spareLength_0 ∧ spareLength_0 ≤ 100000000) : 1 * spareLength_0 + ((-1) * x3 + ((-27) * x20 + 0)) ≤ 0 := by
  first | assumption | omega | grind
def o_Ho_writeDrawing_5 : or_T := (2, 21, [(0, (2, 0, 0, [12])), (3, (0, 0, 99977752, [])), (7, (0, 0, 23, [])), (19, (0, 0, 99999999, [])), (20, (0, 1, 24, []))], [(23, [19, 3, 7], [26, 1, -1, -27]), (24, [0, 4], []), (20, [4, 19], [30, 1, 1, 1, 12, -1, 0, 0])], [], [], [(20, [4, 3, 20], [30, 0, 1, 1, 12, -1, 0, 0, -27, 0, 0])], [], [(20, 7, 1, 1)])
theorem oo_Ho_writeDrawing_5 {kA : Nat → ClassId} : or_ok PRD kA GG o_Ho_writeDrawing_5 := by
  refine or_mk fun A ta ws vs hD hth hl => ?_
  intro t0 r0 t3 k3 t7 k7 t19 k19 t20 k20 d0 f1 f4 f5
  replace f1 := shm_1770 f1
  replace f4 := shm_5 f4
  replace f5 := shm_105 f5
  have q4 : n_v vs 4 = n_v vs 0 := f4.symm
  simp only [q4] at f5
  have kz_0_12 := fdq_0 hD hth r0
  have nf0 : fc_1 PRD (20, [4, 3, 20], [30, 0, 1, 1, 12, -1, 0, 0, -27, 0, 0]) ws (vs) := by
    refine ⟨nf_in hl rfl, sgq_1766 ?_⟩
    · show 1 * w_fi ws (n_v vs 4) 12 + ((-1) * v_iv (n_v vs 3) + ((-27) * v_iv (n_v vs 20) + 0)) ≤ 0
      rw [q4]
      exact vc_Ho_writeDrawing_5_0 (v_iv (n_v vs 3)) (v_iv (n_v vs 7)) (v_iv (n_v vs 19)) (v_iv (n_v vs 20)) (w_fi ws (n_v vs 0) 12) k3 k7 k19 k20 d0 f1 f5 kz_0_12
  refine ⟨(fun _ h => (by cases h)), [], trivial, ?_, (fun _ h => (by cases h))⟩
  rw [List.append_nil]
  exact List.forall_mem_cons.mpr ⟨⟨show (20 : Nat) < 100 from by decide, nf0⟩, (fun _ h => (by cases h))⟩
set_option maxHeartbeats 4000000 in
theorem vc_Ho_writeDrawing_6_0 (x3 : Int) (x7 : Int) (spareLength_0 : Int) (k3 : 0 ≤ x3 ∧ x3 ≤ 99977752) (k7 : 0 ≤ x7 ∧ x7 ≤ 48) (f2 : 1 * spareLength_0 + ((-1) * x3 + ((-450) * x7 + 0)) ≤ 648) (kz_0_12 : 0 ≤ spareLength_0 ∧ spareLength_0 ≤ 100000000) : 1 * spareLength_0 + ((-1) * x3 + 0) ≤ 22248 := by
  first | assumption | omega | grind
def o_Ho_writeDrawing_6 : or_T := (139, 9, [(0, (2, 0, 0, [12])), (3, (0, 0, 99977752, [])), (7, (0, 0, 48, []))], [(20, [4, 3, 7], [30, 648, 1, 1, 12, -1, 0, 0, -450, 0, 0]), (24, [0, 4], [])], [], [], [(20, [0, 3], [30, 22248, 1, 1, 12, -1, 0, 0])], [], [])
theorem oo_Ho_writeDrawing_6 {kA : Nat → ClassId} : or_ok PRD kA GG o_Ho_writeDrawing_6 := by
  refine or_mk fun A ta ws vs hD hth hl => ?_
  intro t0 r0 t3 k3 t7 k7 f2 f3
  replace f2 := shm_1767 f2
  replace f3 := shm_5 f3
  have q4 : n_v vs 4 = n_v vs 0 := f3.symm
  simp only [q4] at f2
  have kz_0_12 := fdq_0 hD hth r0
  have nf0 : fc_1 PRD (20, [0, 3], [30, 22248, 1, 1, 12, -1, 0, 0]) ws (vs) := ⟨nf_in hl rfl, sgq_1771 (vc_Ho_writeDrawing_6_0 (v_iv (n_v vs 3)) (v_iv (n_v vs 7)) (w_fi ws (n_v vs 0) 12) k3 k7 f2 kz_0_12)⟩
  refine ⟨(fun _ h => (by cases h)), [], trivial, ?_, (fun _ h => (by cases h))⟩
  rw [List.append_nil]
  exact List.forall_mem_cons.mpr ⟨⟨show (20 : Nat) < 100 from by decide, nf0⟩, (fun _ h => (by cases h))⟩
set_option maxHeartbeats 4000000 in
theorem vc_Ho_writeDrawing_7_0 (spareLength_0 : Int) (gx : Int) (kz_0_12 : 0 ≤ spareLength_0 ∧ spareLength_0 ≤ 100000000) (ex2 : gx = spareLength_0) : 1 * spareLength_0 + ((-1) * gx + 0) ≤ 0 := by
  first | assumption | omega | grind
set_option maxHeartbeats 4000000 in
theorem vc_Ho_writeDrawing_7_1 (x3 : Int) (x7 : Int) (spareLength_0 : Int) (gx : Int) (k3 : 0 ≤ x3 ∧ x3 ≤ 99977752) (k7 : 0 ≤ x7 ∧ x7 ≤ 47) (f2 : 1 * spareLength_0 + ((-1) * x3 + ((-450) * x7 + 0)) ≤ 648) (kz_0_12 : 0 ≤ spareLength_0 ∧ spareLength_0 ≤ 100000000) (ex2 : gx = spareLength_0) : 1 * gx + ((-1) * x3 + ((-450) * x7 + 0)) ≤ 648 := by
  first | assumption | omega | grind
def o_Ho_writeDrawing_7 : or_T := (70, 11, [(0, (2, 0, 0, [12])), (3, (0, 0, 99977752, [])), (4, (2, 0, 0, [12])), (5, (2, 0, 0, [3])), (7, (0, 0, 47, [])), (8, (0, 1, 48, []))], [(7, [7, 8], [2]), (9, [8, 5], [1]), (20, [4, 3, 7], [30, 648, 1, 1, 12, -1, 0, 0, -450, 0, 0]), (24, [0, 4], [])], [], [(0, 0, 99999992, [])], [(20, [4, 11], [30, 0, 1, 1, 12, -1, 0, 0]), (23, [11, 3, 7], [648, 1, -1, -450])], [], [(7, 8, -4294967296, -1)])
theorem oo_Ho_writeDrawing_7 {kA : Nat → ClassId} : or_ok PRD kA GG o_Ho_writeDrawing_7 := by
  refine or_mk fun A ta ws vs hD hth hl => ?_
  intro t0 r0 t3 k3 t4 r4 t5 r5 t7 k7 t8 k8 d0 f0 f1 f2 f3
  replace f0 := shm_6 f0
  replace f1 := shm_215 f1
  replace f2 := shm_1767 f2
  replace f3 := shm_5 f3
  have q4 : n_v vs 4 = n_v vs 0 := f3.symm
  simp only [q4] at f2
  have g1 : v_iv (n_v vs 8) = w_fi ws (n_v vs 5) 1 := congrArg v_iv f1
  have kz_0_12 := fdq_0 hD hth r0
  have kz_5_1 := fdq_30 hD hth r5
  have kv0 := fdq_0 hD hth r0
  obtain ⟨x, ex, hx⟩ := iv_ex (ta := ta) (lo := 0) (hi := 99999992) (z := w_fi ws (n_v vs 0) 12) (by omega) (by omega) (by omega) (by omega)
  have ex2 : v_iv (Value.int x) = w_fi ws (n_v vs 0) 12 := ex
  have ex3 : 0 ≤ v_iv (Value.int x) ∧ v_iv (Value.int x) ≤ 99999992 := tv_rng hx
  have e_3 : n_v (vs ++ [Value.int x]) 3 = n_v vs 3 := n_v_old (by rw [hl]; decide)
  have e_4 : n_v (vs ++ [Value.int x]) 4 = n_v vs 4 := n_v_old (by rw [hl]; decide)
  have e_7 : n_v (vs ++ [Value.int x]) 7 = n_v vs 7 := n_v_old (by rw [hl]; decide)
  have e_11 : n_v (vs ++ [Value.int x]) 11 = Value.int x := n_v_new hl
  have nf0 : fc_1 PRD (20, [4, 11], [30, 0, 1, 1, 12, -1, 0, 0]) ws (vs ++ [Value.int x]) := by
    refine ⟨nf_inA hl rfl, sgq_104 ?_⟩
    · show 1 * w_fi ws (n_v (vs ++ [Value.int x]) 4) 12 + ((-1) * v_iv (n_v (vs ++ [Value.int x]) 11) + 0) ≤ 0
      simp only [e_4, e_11, q4]
      exact vc_Ho_writeDrawing_7_0 (w_fi ws (n_v vs 0) 12) (v_iv (Value.int x)) kz_0_12 ex2
  have nf1 : fc_1 PRD (23, [11, 3, 7], [648, 1, -1, -450]) ws (vs ++ [Value.int x]) := by
    refine ⟨nf_inA hl rfl, sgq_1772 ?_⟩
    · show 1 * v_iv (n_v (vs ++ [Value.int x]) 11) + ((-1) * v_iv (n_v (vs ++ [Value.int x]) 3) + ((-450) * v_iv (n_v (vs ++ [Value.int x]) 7) + 0)) ≤ 648
      simp only [e_3, e_7, e_11]
      exact vc_Ho_writeDrawing_7_1 (v_iv (n_v vs 3)) (v_iv (n_v vs 7)) (w_fi ws (n_v vs 0) 12) (v_iv (Value.int x)) k3 k7 f2 kz_0_12 ex2
  exact ⟨(fun _ h => (by cases h)), [Value.int x], ag_one hx, List.forall_mem_cons.mpr ⟨⟨show (20 : Nat) < 100 from by decide, nf0⟩, List.forall_mem_cons.mpr ⟨⟨show (23 : Nat) < 100 from by decide, nf1⟩, (fun _ h => (by cases h))⟩⟩, (fun _ h => (by cases h))⟩
set_option maxHeartbeats 4000000 in
theorem vc_Ho_writeDrawing_8_0 (spareLength_0 : Int) (gx : Int) (kz_0_12 : 0 ≤ spareLength_0 ∧ spareLength_0 ≤ 100000000) (ex2 : gx = spareLength_0) : 1 * spareLength_0 + ((-1) * gx + 0) ≤ 0 := by
  first | assumption | omega | grind
set_option maxHeartbeats 4000000 in
theorem vc_Ho_writeDrawing_8_1 (x3 : Int) (x7 : Int) (x11 : Int) (spareLength_0 : Int) (gx : Int) (k3 : 0 ≤ x3 ∧ x3 ≤ 99977752) (k7 : 0 ≤ x7 ∧ x7 ≤ 47) (k11 : 0 ≤ x11 ∧ x11 ≤ 99999992) (f0 : 1 * x11 + ((-1) * x3 + ((-450) * x7 + 0)) ≤ 648) (f2 : 1 * spareLength_0 + ((-1) * x11 + 0) ≤ 8) (kz_0_12 : 0 ≤ spareLength_0 ∧ spareLength_0 ≤ 100000000) (ex2 : gx = spareLength_0) : 1 * gx + ((-1) * x3 + ((-450) * x7 + 0)) ≤ 656 := by
  first | assumption | omega | grind
def o_Ho_writeDrawing_8 : or_T := (76, 13, [(0, (2, 0, 0, [12])), (3, (0, 0, 99977752, [])), (4, (2, 0, 0, [12])), (7, (0, 0, 47, [])), (8, (0, 1, 48, [])), (11, (0, 0, 99999992, []))], [(23, [11, 3, 7], [648, 1, -1, -450]), (24, [0, 4], []), (20, [4, 11], [30, 8, 1, 1, 12, -1, 0, 0]), (102, [11], [261336857795280739939871698507597986398208, 12012]), (23, [11, 3, 7], [648, 1, -1, -450]), (7, [7, 8], [2])], [], [(0, 0, 99999999, [])], [(20, [4, 13], [30, 0, 1, 1, 12, -1, 0, 0]), (23, [13, 3, 7], [656, 1, -1, -450])], [], [(7, 8, -4294967296, -1)])
theorem oo_Ho_writeDrawing_8 {kA : Nat → ClassId} : or_ok PRD kA GG o_Ho_writeDrawing_8 := by
  refine or_mk fun A ta ws vs hD hth hl => ?_
  intro t0 r0 t3 k3 t4 r4 t7 k7 t8 k8 t11 k11 d0 f0 f1 f2 ta1 w1 le1 s1 f4 f5
  replace f0 := shm_1772 f0
  replace f1 := shm_5 f1
  replace f2 := shm_135 f2
  replace f4 := shm_1772 f4
  replace f5 := shm_6 f5
  have q4 : n_v vs 4 = n_v vs 0 := f1.symm
  simp only [q4] at f2
  have kz_0_12 := fdq_0 hD hth r0
  have kv0 := fdq_0 hD hth r0
  obtain ⟨x, ex, hx⟩ := iv_ex (ta := ta) (lo := 0) (hi := 99999999) (z := w_fi ws (n_v vs 0) 12) (by omega) (by omega) (by omega) (by omega)
  have ex2 : v_iv (Value.int x) = w_fi ws (n_v vs 0) 12 := ex
  have ex3 : 0 ≤ v_iv (Value.int x) ∧ v_iv (Value.int x) ≤ 99999999 := tv_rng hx
  have e_3 : n_v (vs ++ [Value.int x]) 3 = n_v vs 3 := n_v_old (by rw [hl]; decide)
  have e_4 : n_v (vs ++ [Value.int x]) 4 = n_v vs 4 := n_v_old (by rw [hl]; decide)
  have e_7 : n_v (vs ++ [Value.int x]) 7 = n_v vs 7 := n_v_old (by rw [hl]; decide)
  have e_13 : n_v (vs ++ [Value.int x]) 13 = Value.int x := n_v_new hl
  have nf0 : fc_1 PRD (20, [4, 13], [30, 0, 1, 1, 12, -1, 0, 0]) ws (vs ++ [Value.int x]) := by
    refine ⟨nf_inA hl rfl, sgq_104 ?_⟩
    · show 1 * w_fi ws (n_v (vs ++ [Value.int x]) 4) 12 + ((-1) * v_iv (n_v (vs ++ [Value.int x]) 13) + 0) ≤ 0
      simp only [e_4, e_13, q4]
      exact vc_Ho_writeDrawing_8_0 (w_fi ws (n_v vs 0) 12) (v_iv (Value.int x)) kz_0_12 ex2
  have nf1 : fc_1 PRD (23, [13, 3, 7], [656, 1, -1, -450]) ws (vs ++ [Value.int x]) := by
    refine ⟨nf_inA hl rfl, sgq_1773 ?_⟩
    · show 1 * v_iv (n_v (vs ++ [Value.int x]) 13) + ((-1) * v_iv (n_v (vs ++ [Value.int x]) 3) + ((-450) * v_iv (n_v (vs ++ [Value.int x]) 7) + 0)) ≤ 656
      simp only [e_3, e_7, e_13]
      exact vc_Ho_writeDrawing_8_1 (v_iv (n_v vs 3)) (v_iv (n_v vs 7)) (v_iv (n_v vs 11)) (w_fi ws (n_v vs 0) 12) (v_iv (Value.int x)) k3 k7 k11 f0 f2 kz_0_12 ex2
  exact ⟨(fun _ h => (by cases h)), [Value.int x], ag_one hx, List.forall_mem_cons.mpr ⟨⟨show (20 : Nat) < 100 from by decide, nf0⟩, List.forall_mem_cons.mpr ⟨⟨show (23 : Nat) < 100 from by decide, nf1⟩, (fun _ h => (by cases h))⟩⟩, (fun _ h => (by cases h))⟩
set_option maxHeartbeats 4000000 in
theorem vc_Ho_writeDrawing_9_0 (spareLength_0 : Int) (gx : Int) (kz_0_12 : 0 ≤ spareLength_0 ∧ spareLength_0 ≤ 100000000) (ex2 : gx = spareLength_0) : 1 * spareLength_0 + ((-1) * gx + 0) ≤ 0 := by
  first | assumption | omega | grind
set_option maxHeartbeats 4000000 in
theorem vc_Ho_writeDrawing_9_1 (x3 : Int) (x7 : Int) (x13 : Int) (spareLength_0 : Int) (gx : Int) (k3 : 0 ≤ x3 ∧ x3 ≤ 99977752) (k7 : 0 ≤ x7 ∧ x7 ≤ 47) (k13 : 0 ≤ x13 ∧ x13 ≤ 99999999) (f0 : 1 * x13 + ((-1) * x3 + ((-450) * x7 + 0)) ≤ 656) (f3 : 1 * spareLength_0 + ((-1) * x13 + 0) ≤ 1) (kz_0_12 : 0 ≤ spareLength_0 ∧ spareLength_0 ≤ 100000000) (ex2 : gx = spareLength_0) : 1 * gx + ((-1) * x3 + ((-450) * x7 + 0)) ≤ 657 := by
  first | assumption | omega | grind
def o_Ho_writeDrawing_9 : or_T := (86, 16, [(0, (2, 0, 0, [12])), (3, (0, 0, 99977752, [])), (4, (2, 0, 0, [12])), (7, (0, 0, 47, [])), (8, (0, 1, 48, [])), (11, (0, 0, 99999992, [])), (13, (0, 0, 99999999, []))], [(23, [13, 3, 7], [656, 1, -1, -450]), (23, [11, 3, 7], [648, 1, -1, -450]), (24, [0, 4], []), (20, [4, 13], [30, 1, 1, 1, 12, -1, 0, 0]), (102, [13], [261336857795280739939871698507597986398208, 12012]), (23, [13, 3, 7], [656, 1, -1, -450]), (23, [11, 3, 7], [648, 1, -1, -450]), (102, [11], [261336857795280739939871698507597986398208, 12012]), (23, [11, 3, 7], [648, 1, -1, -450]), (7, [7, 8], [2])], [], [(0, 0, 99999992, [])], [(20, [4, 16], [30, 0, 1, 1, 12, -1, 0, 0]), (23, [16, 3, 7], [657, 1, -1, -450])], [], [(7, 8, -4294967296, -1)])
theorem oo_Ho_writeDrawing_9 {kA : Nat → ClassId} : or_ok PRD kA GG o_Ho_writeDrawing_9 := by
  refine or_mk fun A ta ws vs hD hth hl => ?_
  intro t0 r0 t3 k3 t4 r4 t7 k7 t8 k8 t11 k11 t13 k13 d0 f0 f1 f2 f3 ta1 w1 le1 s1 f5 f6 ta2 w2 le2 s2 f8 f9
  replace f0 := shm_1773 f0
  replace f1 := shm_1772 f1
  replace f2 := shm_5 f2
  replace f3 := shm_105 f3
  replace f5 := shm_1773 f5
  replace f6 := shm_1772 f6
  replace f8 := shm_1772 f8
  replace f9 := shm_6 f9
  have q4 : n_v vs 4 = n_v vs 0 := f2.symm
  simp only [q4] at f3
  have kz_0_12 := fdq_0 hD hth r0
  have kv0 := fdq_0 hD hth r0
  obtain ⟨x, ex, hx⟩ := iv_ex (ta := ta) (lo := 0) (hi := 99999992) (z := w_fi ws (n_v vs 0) 12) (by omega) (by omega) (by omega) (by omega)
  have ex2 : v_iv (Value.int x) = w_fi ws (n_v vs 0) 12 := ex
  have ex3 : 0 ≤ v_iv (Value.int x) ∧ v_iv (Value.int x) ≤ 99999992 := tv_rng hx
  have e_3 : n_v (vs ++ [Value.int x]) 3 = n_v vs 3 := n_v_old (by rw [hl]; decide)
  have e_4 : n_v (vs ++ [Value.int x]) 4 = n_v vs 4 := n_v_old (by rw [hl]; decide)
  have e_7 : n_v (vs ++ [Value.int x]) 7 = n_v vs 7 := n_v_old (by rw [hl]; decide)
  have e_16 : n_v (vs ++ [Value.int x]) 16 = Value.int x := n_v_new hl
  have nf0 : fc_1 PRD (20, [4, 16], [30, 0, 1, 1, 12, -1, 0, 0]) ws (vs ++ [Value.int x]) := by
    refine ⟨nf_inA hl rfl, sgq_104 ?_⟩
    · show 1 * w_fi ws (n_v (vs ++ [Value.int x]) 4) 12 + ((-1) * v_iv (n_v (vs ++ [Value.int x]) 16) + 0) ≤ 0
      simp only [e_4, e_16, q4]
      exact vc_Ho_writeDrawing_9_0 (w_fi ws (n_v vs 0) 12) (v_iv (Value.int x)) kz_0_12 ex2
  have nf1 : fc_1 PRD (23, [16, 3, 7], [657, 1, -1, -450]) ws (vs ++ [Value.int x]) := by
    refine ⟨nf_inA hl rfl, sgq_1774 ?_⟩
    · show 1 * v_iv (n_v (vs ++ [Value.int x]) 16) + ((-1) * v_iv (n_v (vs ++ [Value.int x]) 3) + ((-450) * v_iv (n_v (vs ++ [Value.int x]) 7) + 0)) ≤ 657
      simp only [e_3, e_7, e_16]
      exact vc_Ho_writeDrawing_9_1 (v_iv (n_v vs 3)) (v_iv (n_v vs 7)) (v_iv (n_v vs 13)) (w_fi ws (n_v vs 0) 12) (v_iv (Value.int x)) k3 k7 k13 f0 f3 kz_0_12 ex2
  exact ⟨(fun _ h => (by cases h)), [Value.int x], ag_one hx, List.forall_mem_cons.mpr ⟨⟨show (20 : Nat) < 100 from by decide, nf0⟩, List.forall_mem_cons.mpr ⟨⟨show (23 : Nat) < 100 from by decide, nf1⟩, (fun _ h => (by cases h))⟩⟩, (fun _ h => (by cases h))⟩
set_option maxHeartbeats 4000000 in
theorem vc_Ho_writeDrawing_10_0 (x3 : Int) (x7 : Int) (x16 : Int) (x17 : Int) (spareLength_0 : Int) (k3 : 0 ≤ x3 ∧ x3 ≤ 99977752) (k7 : 0 ≤ x7 ∧ x7 ≤ 47) (k16 : 0 ≤ x16 ∧ x16 ≤ 99999992) (k17 : 1 ≤ x17 ∧ x17 ≤ 1) (f0 : 1 * x16 + ((-1) * x3 + ((-450) * x7 + 0)) ≤ 657) (f4 : 1 * spareLength_0 + ((-1) * x16 + 0) ≤ 8) (kz_0_12 : 0 ≤ spareLength_0 ∧ spareLength_0 ≤ 100000000) : 1 * spareLength_0 + ((-1) * x3 + ((-450) * x7 + ((-18) * x17 + 0))) ≤ 647 := by
  first | assumption | omega | grind
def o_Ho_writeDrawing_10 : or_T := (92, 18, [(0, (2, 0, 0, [12])), (3, (0, 0, 99977752, [])), (7, (0, 0, 47, [])), (16, (0, 0, 99999992, [])), (17, (0, 1, 1, []))], [(23, [16, 3, 7], [657, 1, -1, -450]), (24, [0, 4], []), (20, [4, 16], [30, 8, 1, 1, 12, -1, 0, 0])], [], [], [(20, [4, 3, 7, 17], [30, 647, 1, 1, 12, -1, 0, 0, -450, 0, 0, -18, 0, 0])], [], [])
theorem oo_Ho_writeDrawing_10 {kA : Nat → ClassId} : or_ok PRD kA GG o_Ho_writeDrawing_10 := by
  refine or_mk fun A ta ws vs hD hth hl => ?_
  intro t0 r0 t3 k3 t7 k7 t16 k16 t17 k17 f0 f3 f4
  replace f0 := shm_1774 f0
  replace f3 := shm_5 f3
  replace f4 := shm_135 f4
  have q4 : n_v vs 4 = n_v vs 0 := f3.symm
  simp only [q4] at f4
  have kz_0_12 := fdq_0 hD hth r0
  have nf0 : fc_1 PRD (20, [4, 3, 7, 17], [30, 647, 1, 1, 12, -1, 0, 0, -450, 0, 0, -18, 0, 0]) ws (vs) := by
    refine ⟨nf_in hl rfl, sgq_1775 ?_⟩
    · show 1 * w_fi ws (n_v vs 4) 12 + ((-1) * v_iv (n_v vs 3) + ((-450) * v_iv (n_v vs 7) + ((-18) * v_iv (n_v vs 17) + 0))) ≤ 647
      rw [q4]
      exact vc_Ho_writeDrawing_10_0 (v_iv (n_v vs 3)) (v_iv (n_v vs 7)) (v_iv (n_v vs 16)) (v_iv (n_v vs 17)) (w_fi ws (n_v vs 0) 12) k3 k7 k16 k17 f0 f4 kz_0_12
  refine ⟨(fun _ h => (by cases h)), [], trivial, ?_, (fun _ h => (by cases h))⟩
  rw [List.append_nil]
  exact List.forall_mem_cons.mpr ⟨⟨show (20 : Nat) < 100 from by decide, nf0⟩, (fun _ h => (by cases h))⟩
set_option maxHeartbeats 4000000 in
theorem vc_Ho_writeDrawing_11_0 (spareLength_0 : Int) (gx : Int) (kz_0_12 : 0 ≤ spareLength_0 ∧ spareLength_0 ≤ 100000000) (ex2 : gx = spareLength_0) : 1 * spareLength_0 + ((-1) * gx + 0) ≤ 0 := by
  first | assumption | omega | grind
set_option maxHeartbeats 4000000 in
theorem vc_Ho_writeDrawing_11_1 (x3 : Int) (x7 : Int) (x8 : Int) (spareLength_0 : Int) (gx : Int) (k3 : 0 ≤ x3 ∧ x3 ≤ 99977752) (k7 : 0 ≤ x7 ∧ x7 ≤ 47) (k8 : 1 ≤ x8 ∧ x8 ≤ 25) (f3 : 1 * spareLength_0 + ((-1) * x3 + ((-450) * x7 + ((-18) * x8 + 0))) ≤ 647) (kz_0_12 : 0 ≤ spareLength_0 ∧ spareLength_0 ≤ 100000000) (ex2 : gx = spareLength_0) : 1 * gx + ((-1) * x3 + ((-450) * x7 + 0)) ≤ 1097 := by
  first | assumption | omega | grind
def o_Ho_writeDrawing_11 : or_T := (130, 12, [(0, (2, 0, 0, [12])), (3, (0, 0, 99977752, [])), (4, (2, 0, 0, [12])), (6, (2, 0, 0, [0])), (7, (0, 0, 47, [])), (8, (0, 1, 25, [])), (9, (2, 0, 0, [16])), (10, (0, 0, 24, []))], [(7, [8, 10], [4]), (10, [10, 9, 7], []), (9, [9, 6], [4]), (20, [4, 3, 7, 8], [30, 647, 1, 1, 12, -1, 0, 0, -450, 0, 0, -18, 0, 0]), (24, [0, 4], [])], [], [(0, 0, 99999999, [])], [(20, [4, 12], [30, 0, 1, 1, 12, -1, 0, 0]), (23, [12, 3, 7], [1097, 1, -1, -450])], [], [(8, 10, 1, 4294967296)])
theorem oo_Ho_writeDrawing_11 {kA : Nat → ClassId} : or_ok PRD kA GG o_Ho_writeDrawing_11 := by
  refine or_mk fun A ta ws vs hD hth hl => ?_
  intro t0 r0 t3 k3 t4 r4 t6 r6 t7 k7 t8 k8 t9 r9 t10 k10 d0 f0 f1 f2 f3 f4
  replace f0 := shm_21 f0
  replace f1 := shm_107 f1
  replace f2 := shm_108 f2
  replace f3 := shm_1775 f3
  replace f4 := shm_5 f4
  have q4 : n_v vs 4 = n_v vs 0 := f4.symm
  simp only [q4] at f3
  have cr_6_4 := fdq_1 hD hth r6
  have ad_9 : v_ad (n_v vs 9) = w_ar ws (n_v vs 6) 4 := congrArg v_ad f2
  simp only [ad_9] at f1
  have h1 : v_iv (n_v vs 10) = w_ei ws (w_ar ws (n_v vs 6) 4) (v_iv (n_v vs 7)) := f1
  have kz_0_12 := fdq_0 hD hth r0
  have kv0 := fdq_0 hD hth r0
  obtain ⟨x, ex, hx⟩ := iv_ex (ta := ta) (lo := 0) (hi := 99999999) (z := w_fi ws (n_v vs 0) 12) (by omega) (by omega) (by omega) (by omega)
  have ex2 : v_iv (Value.int x) = w_fi ws (n_v vs 0) 12 := ex
  have ex3 : 0 ≤ v_iv (Value.int x) ∧ v_iv (Value.int x) ≤ 99999999 := tv_rng hx
  have e_3 : n_v (vs ++ [Value.int x]) 3 = n_v vs 3 := n_v_old (by rw [hl]; decide)
  have e_4 : n_v (vs ++ [Value.int x]) 4 = n_v vs 4 := n_v_old (by rw [hl]; decide)
  have e_7 : n_v (vs ++ [Value.int x]) 7 = n_v vs 7 := n_v_old (by rw [hl]; decide)
  have e_12 : n_v (vs ++ [Value.int x]) 12 = Value.int x := n_v_new hl
  have nf0 : fc_1 PRD (20, [4, 12], [30, 0, 1, 1, 12, -1, 0, 0]) ws (vs ++ [Value.int x]) := by
    refine ⟨nf_inA hl rfl, sgq_104 ?_⟩
    · show 1 * w_fi ws (n_v (vs ++ [Value.int x]) 4) 12 + ((-1) * v_iv (n_v (vs ++ [Value.int x]) 12) + 0) ≤ 0
      simp only [e_4, e_12, q4]
      exact vc_Ho_writeDrawing_11_0 (w_fi ws (n_v vs 0) 12) (v_iv (Value.int x)) kz_0_12 ex2
  have nf1 : fc_1 PRD (23, [12, 3, 7], [1097, 1, -1, -450]) ws (vs ++ [Value.int x]) := by
    refine ⟨nf_inA hl rfl, sgq_1776 ?_⟩
    · show 1 * v_iv (n_v (vs ++ [Value.int x]) 12) + ((-1) * v_iv (n_v (vs ++ [Value.int x]) 3) + ((-450) * v_iv (n_v (vs ++ [Value.int x]) 7) + 0)) ≤ 1097
      simp only [e_3, e_7, e_12]
      exact vc_Ho_writeDrawing_11_1 (v_iv (n_v vs 3)) (v_iv (n_v vs 7)) (v_iv (n_v vs 8)) (w_fi ws (n_v vs 0) 12) (v_iv (Value.int x)) k3 k7 k8 f3 kz_0_12 ex2
  exact ⟨(fun _ h => (by cases h)), [Value.int x], ag_one hx, List.forall_mem_cons.mpr ⟨⟨show (20 : Nat) < 100 from by decide, nf0⟩, List.forall_mem_cons.mpr ⟨⟨show (23 : Nat) < 100 from by decide, nf1⟩, (fun _ h => (by cases h))⟩⟩, (fun _ h => (by cases h))⟩
set_option maxHeartbeats 4000000 in
theorem vc_Ho_writeDrawing_12_0 (x3 : Int) (x7 : Int) (x12 : Int) (x13 : Int) (spareLength_0 : Int) (k3 : 0 ≤ x3 ∧ x3 ≤ 99977752) (k7 : 0 ≤ x7 ∧ x7 ≤ 47) (k12 : 0 ≤ x12 ∧ x12 ≤ 99999999) (k13 : 1 ≤ x13 ∧ x13 ≤ 48) (d0 : x7 + 1 ≤ x13 ∧ x13 ≤ x7 + 1) (f1 : 1 * x12 + ((-1) * x3 + ((-450) * x7 + 0)) ≤ 1097) (f3 : 1 * spareLength_0 + ((-1) * x12 + 0) ≤ 1) (kz_0_12 : 0 ≤ spareLength_0 ∧ spareLength_0 ≤ 100000000) : 1 * spareLength_0 + ((-1) * x3 + ((-450) * x13 + 0)) ≤ 648 := by
  first | assumption | omega | grind
def o_Ho_writeDrawing_12 : or_T := (55, 14, [(0, (2, 0, 0, [12])), (3, (0, 0, 99977752, [])), (7, (0, 0, 47, [])), (12, (0, 0, 99999999, [])), (13, (0, 1, 48, []))], [(23, [12, 3, 7], [1097, 1, -1, -450]), (24, [0, 4], []), (20, [4, 12], [30, 1, 1, 1, 12, -1, 0, 0])], [], [], [(20, [4, 3, 13], [30, 648, 1, 1, 12, -1, 0, 0, -450, 0, 0])], [], [(13, 7, 1, 1)])
theorem oo_Ho_writeDrawing_12 {kA : Nat → ClassId} : or_ok PRD kA GG o_Ho_writeDrawing_12 := by
  refine or_mk fun A ta ws vs hD hth hl => ?_
  intro t0 r0 t3 k3 t7 k7 t12 k12 t13 k13 d0 f1 f2 f3
  replace f1 := shm_1776 f1
  replace f2 := shm_5 f2
  replace f3 := shm_105 f3
  have q4 : n_v vs 4 = n_v vs 0 := f2.symm
  simp only [q4] at f3
  have kz_0_12 := fdq_0 hD hth r0
  have nf0 : fc_1 PRD (20, [4, 3, 13], [30, 648, 1, 1, 12, -1, 0, 0, -450, 0, 0]) ws (vs) := by
    refine ⟨nf_in hl rfl, sgq_1767 ?_⟩
    · show 1 * w_fi ws (n_v vs 4) 12 + ((-1) * v_iv (n_v vs 3) + ((-450) * v_iv (n_v vs 13) + 0)) ≤ 648
      rw [q4]
      exact vc_Ho_writeDrawing_12_0 (v_iv (n_v vs 3)) (v_iv (n_v vs 7)) (v_iv (n_v vs 12)) (v_iv (n_v vs 13)) (w_fi ws (n_v vs 0) 12) k3 k7 k12 k13 d0 f1 f3 kz_0_12
  refine ⟨(fun _ h => (by cases h)), [], trivial, ?_, (fun _ h => (by cases h))⟩
  rw [List.append_nil]
  exact List.forall_mem_cons.mpr ⟨⟨show (20 : Nat) < 100 from by decide, nf0⟩, (fun _ h => (by cases h))⟩
set_option maxHeartbeats 4000000 in
theorem vc_Ho_writeDrawing_13_0 (spareLength_0 : Int) (gx : Int) (kz_0_12 : 0 ≤ spareLength_0 ∧ spareLength_0 ≤ 100000000) (ex2 : gx = spareLength_0) : 1 * spareLength_0 + ((-1) * gx + 0) ≤ 0 := by
  first | assumption | omega | grind
set_option maxHeartbeats 4000000 in
theorem vc_Ho_writeDrawing_13_1 (x3 : Int) (x7 : Int) (x8 : Int) (spareLength_0 : Int) (gx : Int) (k3 : 0 ≤ x3 ∧ x3 ≤ 99977752) (k7 : 0 ≤ x7 ∧ x7 ≤ 47) (k8 : 1 ≤ x8 ∧ x8 ≤ 24) (f5 : 1 * spareLength_0 + ((-1) * x3 + ((-450) * x7 + ((-18) * x8 + 0))) ≤ 647) (kz_0_12 : 0 ≤ spareLength_0 ∧ spareLength_0 ≤ 100000000) (ex2 : gx = spareLength_0) : 1 * gx + ((-1) * x3 + ((-450) * x7 + ((-18) * x8 + 0))) ≤ 647 := by
  first | assumption | omega | grind
def o_Ho_writeDrawing_13 : or_T := (118, 14, [(0, (2, 0, 0, [12])), (3, (0, 0, 99977752, [])), (4, (2, 0, 0, [12])), (6, (2, 0, 0, [0])), (7, (0, 0, 47, [])), (8, (0, 1, 24, [])), (9, (2, 0, 0, [16])), (10, (0, 1, 24, [])), (11, (2, 0, 0, [3])), (12, (0, -40000000, 690000000, [])), (13, (0, -40000000, 690000000, []))], [(20, [6, 11, 7, 8, 13], [60, 0, 5, 940, 3, 4, 6, 1007, 1008]), (20, [6, 11, 7, 8, 12], [60, 0, 5, 933, 2, 4, 5, 1007, 1008]), (7, [8, 10], [5]), (10, [10, 9, 7], []), (9, [9, 6], [4]), (20, [4, 3, 7, 8], [30, 647, 1, 1, 12, -1, 0, 0, -450, 0, 0, -18, 0, 0]), (24, [0, 4], [])], [], [(0, 0, 99999982, [])], [(20, [4, 14], [30, 0, 1, 1, 12, -1, 0, 0]), (23, [14, 3, 7, 8], [647, 1, -1, -450, -18])], [], [(8, 10, -4294967296, 0)])
theorem oo_Ho_writeDrawing_13 {kA : Nat → ClassId} : or_ok PRD kA GG o_Ho_writeDrawing_13 := by
  refine or_mk fun A ta ws vs hD hth hl => ?_
  intro t0 r0 t3 k3 t4 r4 t6 r6 t7 k7 t8 k8 t9 r9 t10 k10 t11 r11 t12 k12 t13 k13 d0 f0 f1 f2 f3 f4 f5 f6
  replace f0 := shm_344 f0
  replace f1 := shm_343 f1
  replace f2 := shm_24 f2
  replace f3 := shm_107 f3
  replace f4 := shm_108 f4
  replace f5 := shm_1775 f5
  replace f6 := shm_5 f6
  have q4 : n_v vs 4 = n_v vs 0 := f6.symm
  simp only [q4] at f5
  have cr_6_2 := fdq_45 hD hth r6
  have cr_6_3 := fdq_48 hD hth r6
  have cr_6_4 := fdq_1 hD hth r6
  have cr_6_5 := fdq_2 hD hth r6
  have cr_6_6 := fdq_3 hD hth r6
  have cr_11_7 := fdq_46 hD hth r11
  have cr_11_8 := fdq_47 hD hth r11
  have ad_9 : v_ad (n_v vs 9) = w_ar ws (n_v vs 6) 4 := congrArg v_ad f4
  simp only [ad_9] at f3
  have h3 : v_iv (n_v vs 10) = w_ei ws (w_ar ws (n_v vs 6) 4) (v_iv (n_v vs 7)) := f3
  have br_6_4_7_0 : w_ei ws (w_ar ws (n_v vs 6) 4) (v_iv (n_v vs 7)) = w_el ws (w_ar ws (n_v vs 6) 4) (v_iv (n_v vs 7)).toNat := rfl
  have hK_6_2 := elq_10 hD hth cr_6_2
  have hK_6_3 := elq_13 hD hth cr_6_3
  have hK_6_4 := elq_0 hD hth cr_6_4
  have hK_6_5 := elq_1 hD hth cr_6_5
  have hK_6_6 := elq_2 hD hth cr_6_6
  have hK_11_7 := elq_11 hD hth cr_11_7
  have hK_11_8 := elq_12 hD hth cr_11_8
  have kz_0_12 := fdq_0 hD hth r0
  have kv0 := fdq_0 hD hth r0
  obtain ⟨x, ex, hx⟩ := iv_ex (ta := ta) (lo := 0) (hi := 99999982) (z := w_fi ws (n_v vs 0) 12) (by omega) (by omega) (by omega) (by omega)
  have ex2 : v_iv (Value.int x) = w_fi ws (n_v vs 0) 12 := ex
  have ex3 : 0 ≤ v_iv (Value.int x) ∧ v_iv (Value.int x) ≤ 99999982 := tv_rng hx
  have e_3 : n_v (vs ++ [Value.int x]) 3 = n_v vs 3 := n_v_old (by rw [hl]; decide)
  have e_4 : n_v (vs ++ [Value.int x]) 4 = n_v vs 4 := n_v_old (by rw [hl]; decide)
  have e_7 : n_v (vs ++ [Value.int x]) 7 = n_v vs 7 := n_v_old (by rw [hl]; decide)
  have e_8 : n_v (vs ++ [Value.int x]) 8 = n_v vs 8 := n_v_old (by rw [hl]; decide)
  have e_14 : n_v (vs ++ [Value.int x]) 14 = Value.int x := n_v_new hl
  have nf0 : fc_1 PRD (20, [4, 14], [30, 0, 1, 1, 12, -1, 0, 0]) ws (vs ++ [Value.int x]) := by
    refine ⟨nf_inA hl rfl, sgq_104 ?_⟩
    · show 1 * w_fi ws (n_v (vs ++ [Value.int x]) 4) 12 + ((-1) * v_iv (n_v (vs ++ [Value.int x]) 14) + 0) ≤ 0
      simp only [e_4, e_14, q4]
      exact vc_Ho_writeDrawing_13_0 (w_fi ws (n_v vs 0) 12) (v_iv (Value.int x)) kz_0_12 ex2
  have nf1 : fc_1 PRD (23, [14, 3, 7, 8], [647, 1, -1, -450, -18]) ws (vs ++ [Value.int x]) := by
    refine ⟨nf_inA hl rfl, sgq_1777 ?_⟩
    · show 1 * v_iv (n_v (vs ++ [Value.int x]) 14) + ((-1) * v_iv (n_v (vs ++ [Value.int x]) 3) + ((-450) * v_iv (n_v (vs ++ [Value.int x]) 7) + ((-18) * v_iv (n_v (vs ++ [Value.int x]) 8) + 0))) ≤ 647
      simp only [e_3, e_7, e_8, e_14]
      exact vc_Ho_writeDrawing_13_1 (v_iv (n_v vs 3)) (v_iv (n_v vs 7)) (v_iv (n_v vs 8)) (w_fi ws (n_v vs 0) 12) (v_iv (Value.int x)) k3 k7 k8 f5 kz_0_12 ex2
  exact ⟨(fun _ h => (by cases h)), [Value.int x], ag_one hx, List.forall_mem_cons.mpr ⟨⟨show (20 : Nat) < 100 from by decide, nf0⟩, List.forall_mem_cons.mpr ⟨⟨show (23 : Nat) < 100 from by decide, nf1⟩, (fun _ h => (by cases h))⟩⟩, (fun _ h => (by cases h))⟩
set_option maxHeartbeats 4000000 in
theorem vc_Ho_writeDrawing_14_0 (x3 : Int) (x7 : Int) (x8 : Int) (x14 : Int) (x15 : Int) (spareLength_0 : Int) (k3 : 0 ≤ x3 ∧ x3 ≤ 99977752) (k7 : 0 ≤ x7 ∧ x7 ≤ 47) (k8 : 1 ≤ x8 ∧ x8 ≤ 24) (k14 : 0 ≤ x14 ∧ x14 ≤ 99999982) (k15 : 2 ≤ x15 ∧ x15 ≤ 25) (d0 : x8 + 1 ≤ x15 ∧ x15 ≤ x8 + 1) (f1 : 1 * x14 + ((-1) * x3 + ((-450) * x7 + ((-18) * x8 + 0))) ≤ 647) (f5 : 1 * spareLength_0 + ((-1) * x14 + 0) ≤ 18) (kz_0_12 : 0 ≤ spareLength_0 ∧ spareLength_0 ≤ 100000000) : 1 * spareLength_0 + ((-1) * x3 + ((-450) * x7 + ((-18) * x15 + 0))) ≤ 647 := by
  first | assumption | omega | grind
def o_Ho_writeDrawing_14 : or_T := (92, 16, [(0, (2, 0, 0, [12])), (3, (0, 0, 99977752, [])), (4, (2, 0, 0, [12])), (6, (2, 0, 0, [0])), (7, (0, 0, 47, [])), (8, (0, 1, 24, [])), (10, (0, 1, 24, [])), (11, (2, 0, 0, [3])), (12, (0, -40000000, 690000000, [])), (13, (0, -40000000, 690000000, [])), (14, (0, 0, 99999982, [])), (15, (0, 2, 25, []))], [(6, [15, 8], [1]), (23, [14, 3, 7, 8], [647, 1, -1, -450, -18]), (20, [6, 11, 7, 8, 13], [60, 0, 5, 940, 3, 4, 6, 1007, 1008]), (20, [6, 11, 7, 8, 12], [60, 0, 5, 933, 2, 4, 5, 1007, 1008]), (24, [0, 4], []), (20, [4, 14], [30, 18, 1, 1, 12, -1, 0, 0]), (102, [14], [261336857795280739939871698507597986398208, 12012]), (23, [14, 3, 7, 8], [647, 1, -1, -450, -18]), (7, [8, 10], [5])], [], [], [(20, [4, 3, 7, 15], [30, 647, 1, 1, 12, -1, 0, 0, -450, 0, 0, -18, 0, 0])], [], [(15, 8, 1, 1), (15, 10, -4294967296, 1), (8, 10, -4294967296, 0)])
theorem oo_Ho_writeDrawing_14 {kA : Nat → ClassId} : or_ok PRD kA GG o_Ho_writeDrawing_14 := by
  refine or_mk fun A ta ws vs hD hth hl => ?_
  intro t0 r0 t3 k3 t4 r4 t6 r6 t7 k7 t8 k8 t10 k10 t11 r11 t12 k12 t13 k13 t14 k14 t15 k15 d0 d1 d2 f0 f1 f2 f3 f4 f5 ta1 w1 le1 s1 f7 f8
  replace f1 := shm_1777 f1
  replace f4 := shm_5 f4
  replace f5 := shm_181 f5
  have q4 : n_v vs 4 = n_v vs 0 := f4.symm
  simp only [q4] at f5
  have kz_0_12 := fdq_0 hD hth r0
  have nf0 : fc_1 PRD (20, [4, 3, 7, 15], [30, 647, 1, 1, 12, -1, 0, 0, -450, 0, 0, -18, 0, 0]) ws (vs) := by
    refine ⟨nf_in hl rfl, sgq_1775 ?_⟩
    · show 1 * w_fi ws (n_v vs 4) 12 + ((-1) * v_iv (n_v vs 3) + ((-450) * v_iv (n_v vs 7) + ((-18) * v_iv (n_v vs 15) + 0))) ≤ 647
      rw [q4]
      exact vc_Ho_writeDrawing_14_0 (v_iv (n_v vs 3)) (v_iv (n_v vs 7)) (v_iv (n_v vs 8)) (v_iv (n_v vs 14)) (v_iv (n_v vs 15)) (w_fi ws (n_v vs 0) 12) k3 k7 k8 k14 k15 d0 f1 f5 kz_0_12
  refine ⟨(fun _ h => (by cases h)), [], trivial, ?_, (fun _ h => (by cases h))⟩
  rw [List.append_nil]
  exact List.forall_mem_cons.mpr ⟨⟨show (20 : Nat) < 100 from by decide, nf0⟩, (fun _ h => (by cases h))⟩
set_option maxHeartbeats 4000000 in
theorem vc_Ho_writeDrawing_15_0 (spareLength_0 : Int) (gx : Int) (kz_0_12 : 0 ≤ spareLength_0 ∧ spareLength_0 ≤ 100000000) (ex2 : gx = spareLength_0) : 1 * spareLength_0 + ((-1) * gx + 0) ≤ 0 := by
  first | assumption | omega | grind
set_option maxHeartbeats 4000000 in
theorem vc_Ho_writeDrawing_15_1 (x3 : Int) (x7 : Int) (x8 : Int) (spareLength_0 : Int) (gx : Int) (k3 : 0 ≤ x3 ∧ x3 ≤ 99977752) (k7 : 0 ≤ x7 ∧ x7 ≤ 47) (k8 : 1 ≤ x8 ∧ x8 ≤ 24) (f5 : 1 * spareLength_0 + ((-1) * x3 + ((-450) * x7 + ((-18) * x8 + 0))) ≤ 647) (kz_0_12 : 0 ≤ spareLength_0 ∧ spareLength_0 ≤ 100000000) (ex2 : gx = spareLength_0) : 1 * gx + ((-1) * x3 + ((-450) * x7 + ((-18) * x8 + 0))) ≤ 647 := by
  first | assumption | omega | grind
def o_Ho_writeDrawing_15 : or_T := (118, 14, [(0, (2, 0, 0, [12])), (3, (0, 0, 99977752, [])), (4, (2, 0, 0, [12])), (6, (2, 0, 0, [0])), (7, (0, 0, 47, [])), (8, (0, 1, 24, [])), (9, (2, 0, 0, [16])), (10, (0, 1, 24, [])), (11, (2, 0, 0, [3])), (12, (0, -40000000, 690000000, [])), (13, (0, -41000000, 1001000000, []))], [(20, [6, 11, 7, 8, 13], [60, 0, 5, 940, 3, 4, 6, 1007, 1008]), (20, [6, 11, 7, 8, 12], [60, 0, 5, 933, 2, 4, 5, 1007, 1008]), (7, [8, 10], [5]), (10, [10, 9, 7], []), (9, [9, 6], [4]), (20, [4, 3, 7, 8], [30, 647, 1, 1, 12, -1, 0, 0, -450, 0, 0, -18, 0, 0]), (24, [0, 4], [])], [], [(0, 0, 99999982, [])], [(20, [4, 14], [30, 0, 1, 1, 12, -1, 0, 0]), (23, [14, 3, 7, 8], [647, 1, -1, -450, -18])], [], [(8, 10, -4294967296, 0)])
theorem oo_Ho_writeDrawing_15 {kA : Nat → ClassId} : or_ok PRD kA GG o_Ho_writeDrawing_15 := by
  refine or_mk fun A ta ws vs hD hth hl => ?_
  intro t0 r0 t3 k3 t4 r4 t6 r6 t7 k7 t8 k8 t9 r9 t10 k10 t11 r11 t12 k12 t13 k13 d0 f0 f1 f2 f3 f4 f5 f6
  replace f0 := shm_344 f0
  replace f1 := shm_343 f1
  replace f2 := shm_24 f2
  replace f3 := shm_107 f3
  replace f4 := shm_108 f4
  replace f5 := shm_1775 f5
  replace f6 := shm_5 f6
  have q4 : n_v vs 4 = n_v vs 0 := f6.symm
  simp only [q4] at f5
  have cr_6_2 := fdq_45 hD hth r6
  have cr_6_3 := fdq_48 hD hth r6
  have cr_6_4 := fdq_1 hD hth r6
  have cr_6_5 := fdq_2 hD hth r6
  have cr_6_6 := fdq_3 hD hth r6
  have cr_11_7 := fdq_46 hD hth r11
  have cr_11_8 := fdq_47 hD hth r11
  have ad_9 : v_ad (n_v vs 9) = w_ar ws (n_v vs 6) 4 := congrArg v_ad f4
  simp only [ad_9] at f3
  have h3 : v_iv (n_v vs 10) = w_ei ws (w_ar ws (n_v vs 6) 4) (v_iv (n_v vs 7)) := f3
  have br_6_4_7_0 : w_ei ws (w_ar ws (n_v vs 6) 4) (v_iv (n_v vs 7)) = w_el ws (w_ar ws (n_v vs 6) 4) (v_iv (n_v vs 7)).toNat := rfl
  have hK_6_2 := elq_10 hD hth cr_6_2
  have hK_6_3 := elq_13 hD hth cr_6_3
  have hK_6_4 := elq_0 hD hth cr_6_4
  have hK_6_5 := elq_1 hD hth cr_6_5
  have hK_6_6 := elq_2 hD hth cr_6_6
  have hK_11_7 := elq_11 hD hth cr_11_7
  have hK_11_8 := elq_12 hD hth cr_11_8
  have kz_0_12 := fdq_0 hD hth r0
  have kv0 := fdq_0 hD hth r0
  obtain ⟨x, ex, hx⟩ := iv_ex (ta := ta) (lo := 0) (hi := 99999982) (z := w_fi ws (n_v vs 0) 12) (by omega) (by omega) (by omega) (by omega)
  have ex2 : v_iv (Value.int x) = w_fi ws (n_v vs 0) 12 := ex
  have ex3 : 0 ≤ v_iv (Value.int x) ∧ v_iv (Value.int x) ≤ 99999982 := tv_rng hx
  have e_3 : n_v (vs ++ [Value.int x]) 3 = n_v vs 3 := n_v_old (by rw [hl]; decide)
  have e_4 : n_v (vs ++ [Value.int x]) 4 = n_v vs 4 := n_v_old (by rw [hl]; decide)
  have e_7 : n_v (vs ++ [Value.int x]) 7 = n_v vs 7 := n_v_old (by rw [hl]; decide)
  have e_8 : n_v (vs ++ [Value.int x]) 8 = n_v vs 8 := n_v_old (by rw [hl]; decide)
  have e_14 : n_v (vs ++ [Value.int x]) 14 = Value.int x := n_v_new hl
  have nf0 : fc_1 PRD (20, [4, 14], [30, 0, 1, 1, 12, -1, 0, 0]) ws (vs ++ [Value.int x]) := by
    refine ⟨nf_inA hl rfl, sgq_104 ?_⟩
    · show 1 * w_fi ws (n_v (vs ++ [Value.int x]) 4) 12 + ((-1) * v_iv (n_v (vs ++ [Value.int x]) 14) + 0) ≤ 0
      simp only [e_4, e_14, q4]
      exact vc_Ho_writeDrawing_15_0 (w_fi ws (n_v vs 0) 12) (v_iv (Value.int x)) kz_0_12 ex2
  have nf1 : fc_1 PRD (23, [14, 3, 7, 8], [647, 1, -1, -450, -18]) ws (vs ++ [Value.int x]) := by
    refine ⟨nf_inA hl rfl, sgq_1777 ?_⟩
    · show 1 * v_iv (n_v (vs ++ [Value.int x]) 14) + ((-1) * v_iv (n_v (vs ++ [Value.int x]) 3) + ((-450) * v_iv (n_v (vs ++ [Value.int x]) 7) + ((-18) * v_iv (n_v (vs ++ [Value.int x]) 8) + 0))) ≤ 647
      simp only [e_3, e_7, e_8, e_14]
      exact vc_Ho_writeDrawing_15_1 (v_iv (n_v vs 3)) (v_iv (n_v vs 7)) (v_iv (n_v vs 8)) (w_fi ws (n_v vs 0) 12) (v_iv (Value.int x)) k3 k7 k8 f5 kz_0_12 ex2
  exact ⟨(fun _ h => (by cases h)), [Value.int x], ag_one hx, List.forall_mem_cons.mpr ⟨⟨show (20 : Nat) < 100 from by decide, nf0⟩, List.forall_mem_cons.mpr ⟨⟨show (23 : Nat) < 100 from by decide, nf1⟩, (fun _ h => (by cases h))⟩⟩, (fun _ h => (by cases h))⟩
set_option maxHeartbeats 4000000 in
theorem vc_Ho_writeDrawing_16_0 (x3 : Int) (x7 : Int) (x8 : Int) (x14 : Int) (x15 : Int) (spareLength_0 : Int) (k3 : 0 ≤ x3 ∧ x3 ≤ 99977752) (k7 : 0 ≤ x7 ∧ x7 ≤ 47) (k8 : 1 ≤ x8 ∧ x8 ≤ 24) (k14 : 0 ≤ x14 ∧ x14 ≤ 99999982) (k15 : 2 ≤ x15 ∧ x15 ≤ 25) (d0 : x8 + 1 ≤ x15 ∧ x15 ≤ x8 + 1) (f1 : 1 * x14 + ((-1) * x3 + ((-450) * x7 + ((-18) * x8 + 0))) ≤ 647) (f5 : 1 * spareLength_0 + ((-1) * x14 + 0) ≤ 18) (kz_0_12 : 0 ≤ spareLength_0 ∧ spareLength_0 ≤ 100000000) : 1 * spareLength_0 + ((-1) * x3 + ((-450) * x7 + ((-18) * x15 + 0))) ≤ 647 := by
  first | assumption | omega | grind
def o_Ho_writeDrawing_16 : or_T := (92, 16, [(0, (2, 0, 0, [12])), (3, (0, 0, 99977752, [])), (4, (2, 0, 0, [12])), (6, (2, 0, 0, [0])), (7, (0, 0, 47, [])), (8, (0, 1, 24, [])), (10, (0, 1, 24, [])), (11, (2, 0, 0, [3])), (12, (0, -40000000, 690000000, [])), (13, (0, -41000000, 1001000000, [])), (14, (0, 0, 99999982, [])), (15, (0, 2, 25, []))], [(6, [15, 8], [1]), (23, [14, 3, 7, 8], [647, 1, -1, -450, -18]), (20, [6, 11, 7, 8, 13], [60, 0, 5, 940, 3, 4, 6, 1007, 1008]), (20, [6, 11, 7, 8, 12], [60, 0, 5, 933, 2, 4, 5, 1007, 1008]), (24, [0, 4], []), (20, [4, 14], [30, 18, 1, 1, 12, -1, 0, 0]), (102, [14], [261336857795280739939871698507597986398208, 12012]), (23, [14, 3, 7, 8], [647, 1, -1, -450, -18]), (7, [8, 10], [5])], [], [], [(20, [4, 3, 7, 15], [30, 647, 1, 1, 12, -1, 0, 0, -450, 0, 0, -18, 0, 0])], [], [(15, 8, 1, 1), (15, 10, -4294967296, 1), (8, 10, -4294967296, 0)])
theorem oo_Ho_writeDrawing_16 {kA : Nat → ClassId} : or_ok PRD kA GG o_Ho_writeDrawing_16 := by
  refine or_mk fun A ta ws vs hD hth hl => ?_
  intro t0 r0 t3 k3 t4 r4 t6 r6 t7 k7 t8 k8 t10 k10 t11 r11 t12 k12 t13 k13 t14 k14 t15 k15 d0 d1 d2 f0 f1 f2 f3 f4 f5 ta1 w1 le1 s1 f7 f8
  replace f1 := shm_1777 f1
  replace f4 := shm_5 f4
  replace f5 := shm_181 f5
  have q4 : n_v vs 4 = n_v vs 0 := f4.symm
  simp only [q4] at f5
  have kz_0_12 := fdq_0 hD hth r0
  have nf0 : fc_1 PRD (20, [4, 3, 7, 15], [30, 647, 1, 1, 12, -1, 0, 0, -450, 0, 0, -18, 0, 0]) ws (vs) := by
    refine ⟨nf_in hl rfl, sgq_1775 ?_⟩
    · show 1 * w_fi ws (n_v vs 4) 12 + ((-1) * v_iv (n_v vs 3) + ((-450) * v_iv (n_v vs 7) + ((-18) * v_iv (n_v vs 15) + 0))) ≤ 647
      rw [q4]
      exact vc_Ho_writeDrawing_16_0 (v_iv (n_v vs 3)) (v_iv (n_v vs 7)) (v_iv (n_v vs 8)) (v_iv (n_v vs 14)) (v_iv (n_v vs 15)) (w_fi ws (n_v vs 0) 12) k3 k7 k8 k14 k15 d0 f1 f5 kz_0_12
  refine ⟨(fun _ h => (by cases h)), [], trivial, ?_, (fun _ h => (by cases h))⟩
  rw [List.append_nil]
  exact List.forall_mem_cons.mpr ⟨⟨show (20 : Nat) < 100 from by decide, nf0⟩, (fun _ h => (by cases h))⟩
set_option maxHeartbeats 4000000 in
theorem vc_Ho_writeDrawing_17_0 (spareLength_0 : Int) (gx : Int) (kz_0_12 : 0 ≤ spareLength_0 ∧ spareLength_0 ≤ 100000000) (ex2 : gx = spareLength_0) : 1 * spareLength_0 + ((-1) * gx + 0) ≤ 0 := by
  first | assumption | omega | grind
set_option maxHeartbeats 4000000 in
theorem vc_Ho_writeDrawing_17_1 (x3 : Int) (x7 : Int) (x8 : Int) (spareLength_0 : Int) (gx : Int) (k3 : 0 ≤ x3 ∧ x3 ≤ 99977752) (k7 : 0 ≤ x7 ∧ x7 ≤ 47) (k8 : 1 ≤ x8 ∧ x8 ≤ 24) (f5 : 1 * spareLength_0 + ((-1) * x3 + ((-450) * x7 + ((-18) * x8 + 0))) ≤ 647) (kz_0_12 : 0 ≤ spareLength_0 ∧ spareLength_0 ≤ 100000000) (ex2 : gx = spareLength_0) : 1 * gx + ((-1) * x3 + ((-450) * x7 + ((-18) * x8 + 0))) ≤ 647 := by
  first | assumption | omega | grind
def o_Ho_writeDrawing_17 : or_T := (118, 14, [(0, (2, 0, 0, [12])), (3, (0, 0, 99977752, [])), (4, (2, 0, 0, [12])), (6, (2, 0, 0, [0])), (7, (0, 0, 47, [])), (8, (0, 1, 24, [])), (9, (2, 0, 0, [16])), (10, (0, 1, 24, [])), (11, (2, 0, 0, [3])), (12, (0, -41000000, 1001000000, [])), (13, (0, -40000000, 690000000, []))], [(20, [6, 11, 7, 8, 13], [60, 0, 5, 940, 3, 4, 6, 1007, 1008]), (20, [6, 11, 7, 8, 12], [60, 0, 5, 933, 2, 4, 5, 1007, 1008]), (7, [8, 10], [5]), (10, [10, 9, 7], []), (9, [9, 6], [4]), (20, [4, 3, 7, 8], [30, 647, 1, 1, 12, -1, 0, 0, -450, 0, 0, -18, 0, 0]), (24, [0, 4], [])], [], [(0, 0, 99999982, [])], [(20, [4, 14], [30, 0, 1, 1, 12, -1, 0, 0]), (23, [14, 3, 7, 8], [647, 1, -1, -450, -18])], [], [(8, 10, -4294967296, 0)])
theorem oo_Ho_writeDrawing_17 {kA : Nat → ClassId} : or_ok PRD kA GG o_Ho_writeDrawing_17 := by
  refine or_mk fun A ta ws vs hD hth hl => ?_
  intro t0 r0 t3 k3 t4 r4 t6 r6 t7 k7 t8 k8 t9 r9 t10 k10 t11 r11 t12 k12 t13 k13 d0 f0 f1 f2 f3 f4 f5 f6
  replace f0 := shm_344 f0
  replace f1 := shm_343 f1
  replace f2 := shm_24 f2
  replace f3 := shm_107 f3
  replace f4 := shm_108 f4
  replace f5 := shm_1775 f5
  replace f6 := shm_5 f6
  have q4 : n_v vs 4 = n_v vs 0 := f6.symm
  simp only [q4] at f5
  have cr_6_2 := fdq_45 hD hth r6
  have cr_6_3 := fdq_48 hD hth r6
  have cr_6_4 := fdq_1 hD hth r6
  have cr_6_5 := fdq_2 hD hth r6
  have cr_6_6 := fdq_3 hD hth r6
  have cr_11_7 := fdq_46 hD hth r11
  have cr_11_8 := fdq_47 hD hth r11
  have ad_9 : v_ad (n_v vs 9) = w_ar ws (n_v vs 6) 4 := congrArg v_ad f4
  simp only [ad_9] at f3
  have h3 : v_iv (n_v vs 10) = w_ei ws (w_ar ws (n_v vs 6) 4) (v_iv (n_v vs 7)) := f3
  have br_6_4_7_0 : w_ei ws (w_ar ws (n_v vs 6) 4) (v_iv (n_v vs 7)) = w_el ws (w_ar ws (n_v vs 6) 4) (v_iv (n_v vs 7)).toNat := rfl
  have hK_6_2 := elq_10 hD hth cr_6_2
  have hK_6_3 := elq_13 hD hth cr_6_3
  have hK_6_4 := elq_0 hD hth cr_6_4
  have hK_6_5 := elq_1 hD hth cr_6_5
  have hK_6_6 := elq_2 hD hth cr_6_6
  have hK_11_7 := elq_11 hD hth cr_11_7
  have hK_11_8 := elq_12 hD hth cr_11_8
  have kz_0_12 := fdq_0 hD hth r0
  have kv0 := fdq_0 hD hth r0
  obtain ⟨x, ex, hx⟩ := iv_ex (ta := ta) (lo := 0) (hi := 99999982) (z := w_fi ws (n_v vs 0) 12) (by omega) (by omega) (by omega) (by omega)
  have ex2 : v_iv (Value.int x) = w_fi ws (n_v vs 0) 12 := ex
  have ex3 : 0 ≤ v_iv (Value.int x) ∧ v_iv (Value.int x) ≤ 99999982 := tv_rng hx
  have e_3 : n_v (vs ++ [Value.int x]) 3 = n_v vs 3 := n_v_old (by rw [hl]; decide)
  have e_4 : n_v (vs ++ [Value.int x]) 4 = n_v vs 4 := n_v_old (by rw [hl]; decide)
  have e_7 : n_v (vs ++ [Value.int x]) 7 = n_v vs 7 := n_v_old (by rw [hl]; decide)
  have e_8 : n_v (vs ++ [Value.int x]) 8 = n_v vs 8 := n_v_old (by rw [hl]; decide)
  have e_14 : n_v (vs ++ [Value.int x]) 14 = Value.int x := n_v_new hl
  have nf0 : fc_1 PRD (20, [4, 14], [30, 0, 1, 1, 12, -1, 0, 0]) ws (vs ++ [Value.int x]) := by
    refine ⟨nf_inA hl rfl, sgq_104 ?_⟩
    · show 1 * w_fi ws (n_v (vs ++ [Value.int x]) 4) 12 + ((-1) * v_iv (n_v (vs ++ [Value.int x]) 14) + 0) ≤ 0
      simp only [e_4, e_14, q4]
      exact vc_Ho_writeDrawing_17_0 (w_fi ws (n_v vs 0) 12) (v_iv (Value.int x)) kz_0_12 ex2
  have nf1 : fc_1 PRD (23, [14, 3, 7, 8], [647, 1, -1, -450, -18]) ws (vs ++ [Value.int x]) := by
    refine ⟨nf_inA hl rfl, sgq_1777 ?_⟩
    · show 1 * v_iv (n_v (vs ++ [Value.int x]) 14) + ((-1) * v_iv (n_v (vs ++ [Value.int x]) 3) + ((-450) * v_iv (n_v (vs ++ [Value.int x]) 7) + ((-18) * v_iv (n_v (vs ++ [Value.int x]) 8) + 0))) ≤ 647
      simp only [e_3, e_7, e_8, e_14]
      exact vc_Ho_writeDrawing_17_1 (v_iv (n_v vs 3)) (v_iv (n_v vs 7)) (v_iv (n_v vs 8)) (w_fi ws (n_v vs 0) 12) (v_iv (Value.int x)) k3 k7 k8 f5 kz_0_12 ex2
  exact ⟨(fun _ h => (by cases h)), [Value.int x], ag_one hx, List.forall_mem_cons.mpr ⟨⟨show (20 : Nat) < 100 from by decide, nf0⟩, List.forall_mem_cons.mpr ⟨⟨show (23 : Nat) < 100 from by decide, nf1⟩, (fun _ h => (by cases h))⟩⟩, (fun _ h => (by cases h))⟩
set_option maxHeartbeats 4000000 in
theorem vc_Ho_writeDrawing_18_0 (x3 : Int) (x7 : Int) (x8 : Int) (x14 : Int) (x15 : Int) (spareLength_0 : Int) (k3 : 0 ≤ x3 ∧ x3 ≤ 99977752) (k7 : 0 ≤ x7 ∧ x7 ≤ 47) (k8 : 1 ≤ x8 ∧ x8 ≤ 24) (k14 : 0 ≤ x14 ∧ x14 ≤ 99999982) (k15 : 2 ≤ x15 ∧ x15 ≤ 25) (d0 : x8 + 1 ≤ x15 ∧ x15 ≤ x8 + 1) (f1 : 1 * x14 + ((-1) * x3 + ((-450) * x7 + ((-18) * x8 + 0))) ≤ 647) (f5 : 1 * spareLength_0 + ((-1) * x14 + 0) ≤ 18) (kz_0_12 : 0 ≤ spareLength_0 ∧ spareLength_0 ≤ 100000000) : 1 * spareLength_0 + ((-1) * x3 + ((-450) * x7 + ((-18) * x15 + 0))) ≤ 647 := by
  first | assumption | omega | grind
def o_Ho_writeDrawing_18 : or_T := (92, 16, [(0, (2, 0, 0, [12])), (3, (0, 0, 99977752, [])), (4, (2, 0, 0, [12])), (6, (2, 0, 0, [0])), (7, (0, 0, 47, [])), (8, (0, 1, 24, [])), (10, (0, 1, 24, [])), (11, (2, 0, 0, [3])), (12, (0, -41000000, 1001000000, [])), (13, (0, -40000000, 690000000, [])), (14, (0, 0, 99999982, [])), (15, (0, 2, 25, []))], [(6, [15, 8], [1]), (23, [14, 3, 7, 8], [647, 1, -1, -450, -18]), (20, [6, 11, 7, 8, 13], [60, 0, 5, 940, 3, 4, 6, 1007, 1008]), (20, [6, 11, 7, 8, 12], [60, 0, 5, 933, 2, 4, 5, 1007, 1008]), (24, [0, 4], []), (20, [4, 14], [30, 18, 1, 1, 12, -1, 0, 0]), (102, [14], [261336857795280739939871698507597986398208, 12012]), (23, [14, 3, 7, 8], [647, 1, -1, -450, -18]), (7, [8, 10], [5])], [], [], [(20, [4, 3, 7, 15], [30, 647, 1, 1, 12, -1, 0, 0, -450, 0, 0, -18, 0, 0])], [], [(15, 8, 1, 1), (15, 10, -4294967296, 1), (8, 10, -4294967296, 0)])
theorem oo_Ho_writeDrawing_18 {kA : Nat → ClassId} : or_ok PRD kA GG o_Ho_writeDrawing_18 := by
  refine or_mk fun A ta ws vs hD hth hl => ?_
  intro t0 r0 t3 k3 t4 r4 t6 r6 t7 k7 t8 k8 t10 k10 t11 r11 t12 k12 t13 k13 t14 k14 t15 k15 d0 d1 d2 f0 f1 f2 f3 f4 f5 ta1 w1 le1 s1 f7 f8
  replace f1 := shm_1777 f1
  replace f4 := shm_5 f4
  replace f5 := shm_181 f5
  have q4 : n_v vs 4 = n_v vs 0 := f4.symm
  simp only [q4] at f5
  have kz_0_12 := fdq_0 hD hth r0
  have nf0 : fc_1 PRD (20, [4, 3, 7, 15], [30, 647, 1, 1, 12, -1, 0, 0, -450, 0, 0, -18, 0, 0]) ws (vs) := by
    refine ⟨nf_in hl rfl, sgq_1775 ?_⟩
    · show 1 * w_fi ws (n_v vs 4) 12 + ((-1) * v_iv (n_v vs 3) + ((-450) * v_iv (n_v vs 7) + ((-18) * v_iv (n_v vs 15) + 0))) ≤ 647
      rw [q4]
      exact vc_Ho_writeDrawing_18_0 (v_iv (n_v vs 3)) (v_iv (n_v vs 7)) (v_iv (n_v vs 8)) (v_iv (n_v vs 14)) (v_iv (n_v vs 15)) (w_fi ws (n_v vs 0) 12) k3 k7 k8 k14 k15 d0 f1 f5 kz_0_12
  refine ⟨(fun _ h => (by cases h)), [], trivial, ?_, (fun _ h => (by cases h))⟩
  rw [List.append_nil]
  exact List.forall_mem_cons.mpr ⟨⟨show (20 : Nat) < 100 from by decide, nf0⟩, (fun _ h => (by cases h))⟩
set_option maxHeartbeats 4000000 in
theorem vc_Ho_writeDrawing_19_0 (spareLength_0 : Int) (gx : Int) (kz_0_12 : 0 ≤ spareLength_0 ∧ spareLength_0 ≤ 100000000) (ex2 : gx = spareLength_0) : 1 * spareLength_0 + ((-1) * gx + 0) ≤ 0 := by
  first | assumption | omega | grind
set_option maxHeartbeats 4000000 in
theorem vc_Ho_writeDrawing_19_1 (x3 : Int) (x7 : Int) (x8 : Int) (spareLength_0 : Int) (gx : Int) (k3 : 0 ≤ x3 ∧ x3 ≤ 99977752) (k7 : 0 ≤ x7 ∧ x7 ≤ 47) (k8 : 1 ≤ x8 ∧ x8 ≤ 24) (f5 : 1 * spareLength_0 + ((-1) * x3 + ((-450) * x7 + ((-18) * x8 + 0))) ≤ 647) (kz_0_12 : 0 ≤ spareLength_0 ∧ spareLength_0 ≤ 100000000) (ex2 : gx = spareLength_0) : 1 * gx + ((-1) * x3 + ((-450) * x7 + ((-18) * x8 + 0))) ≤ 647 := by
  first | assumption | omega | grind
def o_Ho_writeDrawing_19 : or_T := (118, 14, [(0, (2, 0, 0, [12])), (3, (0, 0, 99977752, [])), (4, (2, 0, 0, [12])), (6, (2, 0, 0, [0])), (7, (0, 0, 47, [])), (8, (0, 1, 24, [])), (9, (2, 0, 0, [16])), (10, (0, 1, 24, [])), (11, (2, 0, 0, [3])), (12, (0, -41000000, 1001000000, [])), (13, (0, -41000000, 1001000000, []))], [(20, [6, 11, 7, 8, 13], [60, 0, 5, 940, 3, 4, 6, 1007, 1008]), (20, [6, 11, 7, 8, 12], [60, 0, 5, 933, 2, 4, 5, 1007, 1008]), (7, [8, 10], [5]), (10, [10, 9, 7], []), (9, [9, 6], [4]), (20, [4, 3, 7, 8], [30, 647, 1, 1, 12, -1, 0, 0, -450, 0, 0, -18, 0, 0]), (24, [0, 4], [])], [], [(0, 0, 99999982, [])], [(20, [4, 14], [30, 0, 1, 1, 12, -1, 0, 0]), (23, [14, 3, 7, 8], [647, 1, -1, -450, -18])], [], [(8, 10, -4294967296, 0)])
theorem oo_Ho_writeDrawing_19 {kA : Nat → ClassId} : or_ok PRD kA GG o_Ho_writeDrawing_19 := by
  refine or_mk fun A ta ws vs hD hth hl => ?_
  intro t0 r0 t3 k3 t4 r4 t6 r6 t7 k7 t8 k8 t9 r9 t10 k10 t11 r11 t12 k12 t13 k13 d0 f0 f1 f2 f3 f4 f5 f6
  replace f0 := shm_344 f0
  replace f1 := shm_343 f1
  replace f2 := shm_24 f2
  replace f3 := shm_107 f3
  replace f4 := shm_108 f4
  replace f5 := shm_1775 f5
  replace f6 := shm_5 f6
  have q4 : n_v vs 4 = n_v vs 0 := f6.symm
  simp only [q4] at f5
  have cr_6_2 := fdq_45 hD hth r6
  have cr_6_3 := fdq_48 hD hth r6
  have cr_6_4 := fdq_1 hD hth r6
  have cr_6_5 := fdq_2 hD hth r6
  have cr_6_6 := fdq_3 hD hth r6
  have cr_11_7 := fdq_46 hD hth r11
  have cr_11_8 := fdq_47 hD hth r11
  have ad_9 : v_ad (n_v vs 9) = w_ar ws (n_v vs 6) 4 := congrArg v_ad f4
  simp only [ad_9] at f3
  have h3 : v_iv (n_v vs 10) = w_ei ws (w_ar ws (n_v vs 6) 4) (v_iv (n_v vs 7)) := f3
  have br_6_4_7_0 : w_ei ws (w_ar ws (n_v vs 6) 4) (v_iv (n_v vs 7)) = w_el ws (w_ar ws (n_v vs 6) 4) (v_iv (n_v vs 7)).toNat := rfl
  have hK_6_2 := elq_10 hD hth cr_6_2
  have hK_6_3 := elq_13 hD hth cr_6_3
  have hK_6_4 := elq_0 hD hth cr_6_4
  have hK_6_5 := elq_1 hD hth cr_6_5
  have hK_6_6 := elq_2 hD hth cr_6_6
  have hK_11_7 := elq_11 hD hth cr_11_7
  have hK_11_8 := elq_12 hD hth cr_11_8
  have kz_0_12 := fdq_0 hD hth r0
  have kv0 := fdq_0 hD hth r0
  obtain ⟨x, ex, hx⟩ := iv_ex (ta := ta) (lo := 0) (hi := 99999982) (z := w_fi ws (n_v vs 0) 12) (by omega) (by omega) (by omega) (by omega)
  have ex2 : v_iv (Value.int x) = w_fi ws (n_v vs 0) 12 := ex
  have ex3 : 0 ≤ v_iv (Value.int x) ∧ v_iv (Value.int x) ≤ 99999982 := tv_rng hx
  have e_3 : n_v (vs ++ [Value.int x]) 3 = n_v vs 3 := n_v_old (by rw [hl]; decide)
  have e_4 : n_v (vs ++ [Value.int x]) 4 = n_v vs 4 := n_v_old (by rw [hl]; decide)
  have e_7 : n_v (vs ++ [Value.int x]) 7 = n_v vs 7 := n_v_old (by rw [hl]; decide)
  have e_8 : n_v (vs ++ [Value.int x]) 8 = n_v vs 8 := n_v_old (by rw [hl]; decide)
  have e_14 : n_v (vs ++ [Value.int x]) 14 = Value.int x := n_v_new hl
  have nf0 : fc_1 PRD (20, [4, 14], [30, 0, 1, 1, 12, -1, 0, 0]) ws (vs ++ [Value.int x]) := by
    refine ⟨nf_inA hl rfl, sgq_104 ?_⟩
    · show 1 * w_fi ws (n_v (vs ++ [Value.int x]) 4) 12 + ((-1) * v_iv (n_v (vs ++ [Value.int x]) 14) + 0) ≤ 0
      simp only [e_4, e_14, q4]
      exact vc_Ho_writeDrawing_19_0 (w_fi ws (n_v vs 0) 12) (v_iv (Value.int x)) kz_0_12 ex2
  have nf1 : fc_1 PRD (23, [14, 3, 7, 8], [647, 1, -1, -450, -18]) ws (vs ++ [Value.int x]) := by
    refine ⟨nf_inA hl rfl, sgq_1777 ?_⟩
    · show 1 * v_iv (n_v (vs ++ [Value.int x]) 14) + ((-1) * v_iv (n_v (vs ++ [Value.int x]) 3) + ((-450) * v_iv (n_v (vs ++ [Value.int x]) 7) + ((-18) * v_iv (n_v (vs ++ [Value.int x]) 8) + 0))) ≤ 647
      simp only [e_3, e_7, e_8, e_14]
      exact vc_Ho_writeDrawing_19_1 (v_iv (n_v vs 3)) (v_iv (n_v vs 7)) (v_iv (n_v vs 8)) (w_fi ws (n_v vs 0) 12) (v_iv (Value.int x)) k3 k7 k8 f5 kz_0_12 ex2
  exact ⟨(fun _ h => (by cases h)), [Value.int x], ag_one hx, List.forall_mem_cons.mpr ⟨⟨show (20 : Nat) < 100 from by decide, nf0⟩, List.forall_mem_cons.mpr ⟨⟨show (23 : Nat) < 100 from by decide, nf1⟩, (fun _ h => (by cases h))⟩⟩, (fun _ h => (by cases h))⟩
set_option maxHeartbeats 4000000 in
theorem vc_Ho_writeDrawing_20_0 (x3 : Int) (x7 : Int) (x8 : Int) (x14 : Int) (x15 : Int) (spareLength_0 : Int) (k3 : 0 ≤ x3 ∧ x3 ≤ 99977752) (k7 : 0 ≤ x7 ∧ x7 ≤ 47) (k8 : 1 ≤ x8 ∧ x8 ≤ 24) (k14 : 0 ≤ x14 ∧ x14 ≤ 99999982) (k15 : 2 ≤ x15 ∧ x15 ≤ 25) (d0 : x8 + 1 ≤ x15 ∧ x15 ≤ x8 + 1) (f1 : 1 * x14 + ((-1) * x3 + ((-450) * x7 + ((-18) * x8 + 0))) ≤ 647) (f5 : 1 * spareLength_0 + ((-1) * x14 + 0) ≤ 18) (kz_0_12 : 0 ≤ spareLength_0 ∧ spareLength_0 ≤ 100000000) : 1 * spareLength_0 + ((-1) * x3 + ((-450) * x7 + ((-18) * x15 + 0))) ≤ 647 := by
  first | assumption | omega | grind
def o_Ho_writeDrawing_20 : or_T := (92, 16, [(0, (2, 0, 0, [12])), (3, (0, 0, 99977752, [])), (4, (2, 0, 0, [12])), (6, (2, 0, 0, [0])), (7, (0, 0, 47, [])), (8, (0, 1, 24, [])), (10, (0, 1, 24, [])), (11, (2, 0, 0, [3])), (12, (0, -41000000, 1001000000, [])), (13, (0, -41000000, 1001000000, [])), (14, (0, 0, 99999982, [])), (15, (0, 2, 25, []))], [(6, [15, 8], [1]), (23, [14, 3, 7, 8], [647, 1, -1, -450, -18]), (20, [6, 11, 7, 8, 13], [60, 0, 5, 940, 3, 4, 6, 1007, 1008]), (20, [6, 11, 7, 8, 12], [60, 0, 5, 933, 2, 4, 5, 1007, 1008]), (24, [0, 4], []), (20, [4, 14], [30, 18, 1, 1, 12, -1, 0, 0]), (102, [14], [261336857795280739939871698507597986398208, 12012]), (23, [14, 3, 7, 8], [647, 1, -1, -450, -18]), (7, [8, 10], [5])], [], [], [(20, [4, 3, 7, 15], [30, 647, 1, 1, 12, -1, 0, 0, -450, 0, 0, -18, 0, 0])], [], [(15, 8, 1, 1), (15, 10, -4294967296, 1), (8, 10, -4294967296, 0)])
theorem oo_Ho_writeDrawing_20 {kA : Nat → ClassId} : or_ok PRD kA GG o_Ho_writeDrawing_20 := by
  refine or_mk fun A ta ws vs hD hth hl => ?_
  intro t0 r0 t3 k3 t4 r4 t6 r6 t7 k7 t8 k8 t10 k10 t11 r11 t12 k12 t13 k13 t14 k14 t15 k15 d0 d1 d2 f0 f1 f2 f3 f4 f5 ta1 w1 le1 s1 f7 f8
  replace f1 := shm_1777 f1
  replace f4 := shm_5 f4
  replace f5 := shm_181 f5
  have q4 : n_v vs 4 = n_v vs 0 := f4.symm
  simp only [q4] at f5
  have kz_0_12 := fdq_0 hD hth r0
  have nf0 : fc_1 PRD (20, [4, 3, 7, 15], [30, 647, 1, 1, 12, -1, 0, 0, -450, 0, 0, -18, 0, 0]) ws (vs) := by
    refine ⟨nf_in hl rfl, sgq_1775 ?_⟩
    · show 1 * w_fi ws (n_v vs 4) 12 + ((-1) * v_iv (n_v vs 3) + ((-450) * v_iv (n_v vs 7) + ((-18) * v_iv (n_v vs 15) + 0))) ≤ 647
      rw [q4]
      exact vc_Ho_writeDrawing_20_0 (v_iv (n_v vs 3)) (v_iv (n_v vs 7)) (v_iv (n_v vs 8)) (v_iv (n_v vs 14)) (v_iv (n_v vs 15)) (w_fi ws (n_v vs 0) 12) k3 k7 k8 k14 k15 d0 f1 f5 kz_0_12
  refine ⟨(fun _ h => (by cases h)), [], trivial, ?_, (fun _ h => (by cases h))⟩
  rw [List.append_nil]
  exact List.forall_mem_cons.mpr ⟨⟨show (20 : Nat) < 100 from by decide, nf0⟩, (fun _ h => (by cases h))⟩
def n_Ho_writeDrawing_an : List an_T := [(2, [(0, (2, 0, 0, [12])), (1, (2, 0, 0, [3])), (2, (2, 0, 0, [0])), (3, (0, 0, 24, []))], [], (0, 0), [(0, 0, 99998), (1, 7, 24), (0, 0, 100000), (0, 0, 0), (0, 0, 0)], [], [], [(2, 0, 0, [12]), (2, 0, 0, [3]), (2, 0, 0, [0]), (0, 0, 99977752, [])], 0, [], [(20, [4, 3, 7], [30, 0, 1, 1, 12, (Int.negSucc 0), 0, 0, (Int.negSucc 26), 0, 0]), (24, [0, 4], [])]), (55, [(0, (2, 0, 0, [12])), (1, (2, 0, 0, [3])), (2, (2, 0, 0, [0])), (3, (0, 0, 48, []))], [], (0, 0), [(0, 0, 99945), (1, 7, 48), (0, 0, 100000), (0, 0, 0), (0, 0, 0)], [], [], [(2, 0, 0, [12]), (2, 0, 0, [3]), (2, 0, 0, [0]), (0, 0, 99977752, [])], 0, [], [(20, [4, 3, 7], [30, 648, 1, 1, 12, (Int.negSucc 0), 0, 0, (Int.negSucc 449), 0, 0]), (24, [0, 4], [])]), (92, [(0, (2, 0, 0, [12])), (1, (2, 0, 0, [3])), (2, (2, 0, 0, [0])), (3, (0, 0, 47, [])), (4, (0, 1, 25, []))], [], (0, 0), [(0, 0, 99945), (1, 7, 48), (0, 0, 99908), (1, 8, 25), (0, 0, 100000)], [], [], [(2, 0, 0, [12]), (2, 0, 0, [3]), (2, 0, 0, [0]), (0, 0, 99977752, [])], 0, [], [(20, [4, 3, 7, 8], [30, 647, 1, 1, 12, (Int.negSucc 0), 0, 0, (Int.negSucc 449), 0, 0, (Int.negSucc 17), 0, 0]), (24, [0, 4], [])])]
def t_Ho_writeDrawing_ct : ct_L := [(1, 447, e_Ho_writeByte), (1, 471, e_Ho_writeNumber), (1, 488, e_Ho_writePoint), (1, 492, e_Dr_pointX), (1, 495, e_Dr_pointY), (70, 465, e_Ho_writeName_at_Grname)]
set_option maxRecDepth 100000 in
theorem c_Ho_writeDrawing {l : Launch} {D : va_G} {kA : Nat → ClassId} (h_Dr_pointX : ct_ok PRD l D kA GG y_Dr_pointX z_Dr_pointX e_Dr_pointX) (h_Dr_pointY : ct_ok PRD l D kA GG y_Dr_pointY z_Dr_pointY e_Dr_pointY) (h_Ho_writeByte : ct_ok PRD l D kA GG y_Ho_writeByte z_Ho_writeByte e_Ho_writeByte) (h_Ho_writeName_at_Grname : ct_ok PRD l D kA GG y_Ho_writeName_at_Grname z_Ho_writeName_at_Grname e_Ho_writeName_at_Grname) (h_Ho_writeNumber : ct_ok PRD l D kA GG y_Ho_writeNumber z_Ho_writeNumber e_Ho_writeNumber) (h_Ho_writePoint : ct_ok PRD l D kA GG y_Ho_writePoint z_Ho_writePoint e_Ho_writePoint) : ct_ok PRD l D kA GG y_Ho_writeDrawing z_Ho_writeDrawing e_Ho_writeDrawing := chk_all_ok (FT := [(132, 3, 0), (141, 3, 1), (169, 3, 4), (200, 3, 7), (203, 3, 8), (230, 3, 3), (384, 0, 4), (391, 0, 2), (397, 0, 3)]) (PT := []) (CT := t_Ho_writeDrawing_ct) (KT := []) (NT := []) (AN := n_Ho_writeDrawing_an) (OT := [o_Ho_writeDrawing_0, o_Ho_writeDrawing_1, o_Ho_writeDrawing_2, o_Ho_writeDrawing_3, o_Ho_writeDrawing_4, o_Ho_writeDrawing_5, o_Ho_writeDrawing_6, o_Ho_writeDrawing_7, o_Ho_writeDrawing_8, o_Ho_writeDrawing_9, o_Ho_writeDrawing_10, o_Ho_writeDrawing_11, o_Ho_writeDrawing_12, o_Ho_writeDrawing_13, o_Ho_writeDrawing_14, o_Ho_writeDrawing_15, o_Ho_writeDrawing_16, o_Ho_writeDrawing_17, o_Ho_writeDrawing_18, o_Ho_writeDrawing_19, o_Ho_writeDrawing_20]) 5 360 (List.forall_mem_cons.mpr ⟨oo_Ho_writeDrawing_0, List.forall_mem_cons.mpr ⟨oo_Ho_writeDrawing_1, List.forall_mem_cons.mpr ⟨oo_Ho_writeDrawing_2, List.forall_mem_cons.mpr ⟨oo_Ho_writeDrawing_3, List.forall_mem_cons.mpr ⟨oo_Ho_writeDrawing_4, List.forall_mem_cons.mpr ⟨oo_Ho_writeDrawing_5, List.forall_mem_cons.mpr ⟨oo_Ho_writeDrawing_6, List.forall_mem_cons.mpr ⟨oo_Ho_writeDrawing_7, List.forall_mem_cons.mpr ⟨oo_Ho_writeDrawing_8, List.forall_mem_cons.mpr ⟨oo_Ho_writeDrawing_9, List.forall_mem_cons.mpr ⟨oo_Ho_writeDrawing_10, List.forall_mem_cons.mpr ⟨oo_Ho_writeDrawing_11, List.forall_mem_cons.mpr ⟨oo_Ho_writeDrawing_12, List.forall_mem_cons.mpr ⟨oo_Ho_writeDrawing_13, List.forall_mem_cons.mpr ⟨oo_Ho_writeDrawing_14, List.forall_mem_cons.mpr ⟨oo_Ho_writeDrawing_15, List.forall_mem_cons.mpr ⟨oo_Ho_writeDrawing_16, List.forall_mem_cons.mpr ⟨oo_Ho_writeDrawing_17, List.forall_mem_cons.mpr ⟨oo_Ho_writeDrawing_18, List.forall_mem_cons.mpr ⟨oo_Ho_writeDrawing_19, List.forall_mem_cons.mpr ⟨oo_Ho_writeDrawing_20, List.forall_mem_nil _⟩⟩⟩⟩⟩⟩⟩⟩⟩⟩⟩⟩⟩⟩⟩⟩⟩⟩⟩⟩⟩) (by decide +kernel) ⟨List.forall_mem_cons.mpr ⟨gf_Ho_132, List.forall_mem_cons.mpr ⟨gf_Ho_141, List.forall_mem_cons.mpr ⟨gf_Ho_169, List.forall_mem_cons.mpr ⟨gf_Ho_200, List.forall_mem_cons.mpr ⟨gf_Ho_203, List.forall_mem_cons.mpr ⟨gf_Ho_230, List.forall_mem_cons.mpr ⟨gf_Ho_384, List.forall_mem_cons.mpr ⟨gf_Ho_391, List.forall_mem_cons.mpr ⟨gf_Ho_397, List.forall_mem_nil _⟩⟩⟩⟩⟩⟩⟩⟩⟩, List.forall_mem_nil _, List.forall_mem_cons.mpr ⟨cl_virtual (y := y_Ho_writeByte) (ci := 12) rfl rfl ⟨_, _, rfl⟩ (by decide +kernel) h_Ho_writeByte wm_2345 wm_1 wm_2342 wm_2344 wv_12_0 ⟨by decide, by decide, by decide +kernel⟩ (by decide), List.forall_mem_cons.mpr ⟨cl_virtual (y := y_Ho_writeNumber) (ci := 12) rfl rfl ⟨_, _, rfl⟩ (by decide +kernel) h_Ho_writeNumber wm_2354 wm_1 wm_2351 wm_2353 wv_12_2 ⟨by decide, by decide, by decide +kernel⟩ (by decide), List.forall_mem_cons.mpr ⟨cl_virtual (y := y_Ho_writePoint) (ci := 12) rfl rfl ⟨_, _, rfl⟩ (by decide +kernel) h_Ho_writePoint wm_2376 wm_1 wm_2373 wm_2375 wv_12_5 ⟨by decide, by decide, by decide +kernel⟩ (by decide), List.forall_mem_cons.mpr ⟨cl_virtual (y := y_Dr_pointX) (ci := 0) rfl rfl ⟨_, _, rfl⟩ (by decide +kernel) h_Dr_pointX wm_1986 wm_8 wm_2377 wm_1984 wm_1985 ⟨by decide, by decide, by decide +kernel⟩ (by decide), List.forall_mem_cons.mpr ⟨cl_virtual (y := y_Dr_pointY) (ci := 0) rfl rfl ⟨_, _, rfl⟩ (by decide +kernel) h_Dr_pointY wm_1991 wm_8 wm_2378 wm_1989 wm_1990 ⟨by decide, by decide, by decide +kernel⟩ (by decide), List.forall_mem_cons.mpr ⟨cl_virtual (y := y_Ho_writeName_at_Grname) (ci := 12) rfl rfl ⟨_, _, rfl⟩ (by decide +kernel) h_Ho_writeName_at_Grname wm_2349 wm_1 wm_2346 wm_2348 wv_12_1 ⟨by decide, by decide, by decide +kernel⟩ (by decide), List.forall_mem_nil _⟩⟩⟩⟩⟩⟩, List.forall_mem_nil _, List.forall_mem_nil _, GG_pl⟩ (by decide +kernel)

set_option maxHeartbeats 4000000 in
theorem vc_Gr_mayAlter_0_0 (x1 : Int) (x2 : Int) (x3 : Int) (x4 : Int) (nodes_0 : Int) (edges_0 : Int) (groups_0 : Int) (k1 : (-2147483648) ≤ x1 ∧ x1 ≤ 2147483647) (k2 : (-2147483648) ≤ x2 ∧ x2 ≤ 2147483647) (k3 : (-2147483648) ≤ x3 ∧ x3 ≤ 2147483647) (k4 : 0 ≤ x4 ∧ x4 ≤ 0) (kz_0_0 : 0 ≤ nodes_0 ∧ nodes_0 ≤ 24) (kz_0_1 : 0 ≤ edges_0 ∧ edges_0 ≤ 48) (kz_0_2 : 0 ≤ groups_0 ∧ groups_0 ≤ 8) : (x4 = 1) → (((x1 = 0) ∧ ((0 ≤ x2) ∧ (((x2 + 1) ≤ groups_0) ∧ (nodes_0 ≤ 23)))) ∨ (((x1 = 1) ∧ ((0 ≤ x2) ∧ (((x2 + 1) ≤ nodes_0) ∧ ((0 ≤ x3) ∧ (((x3 + 1) ≤ nodes_0) ∧ ((edges_0 ≤ 47) ∧ (((x2 + 1) ≤ x3) ∨ ((x3 + 1) ≤ x2)))))))) ∨ (((x1 = 2) ∧ ((0 ≤ x2) ∧ ((x2 + 1) ≤ edges_0))) ∨ (((x1 = 3) ∧ ((0 ≤ x2) ∧ ((x2 + 1) ≤ nodes_0))) ∨ (((x1 = 4) ∧ ((0 ≤ x2) ∧ (((x2 + 1) ≤ nodes_0) ∧ ((1 ≤ x3) ∧ (x3 ≤ 99))))) ∨ (((x1 = 5) ∧ ((0 ≤ x2) ∧ (((x2 + 1) ≤ edges_0) ∧ ((1 ≤ x3) ∧ (x3 ≤ 9))))) ∨ (((x1 = 6) ∧ ((0 ≤ x2) ∧ (((x2 + 1) ≤ nodes_0) ∧ ((0 ≤ x3) ∧ ((x3 + 1) ≤ groups_0))))) ∨ ((x1 = 7) ∧ ((0 ≤ x2) ∧ (((x2 + 1) ≤ edges_0) ∧ ((0 ≤ x3) ∧ (x3 ≤ 1)))))))))))) := by
  first
    | (intro h; exfalso; omega)
    | (intro h; left; omega)
    | (intro h; right; left; omega)
    | (intro h; right; right; left; omega)
    | (intro h; right; right; right; left; omega)
    | (intro h; right; right; right; right; left; omega)
    | (intro h; right; right; right; right; right; left; omega)
    | (intro h; right; right; right; right; right; right; left; omega)
    | (intro h; right; right; right; right; right; right; right; omega)
    | omega
  
def o_Gr_mayAlter_0 : or_T := (232, 5, [(0, (2, 0, 0, [3])), (1, (0, -2147483648, 2147483647, [])), (2, (0, -2147483648, 2147483647, [])), (3, (0, -2147483648, 2147483647, [])), (4, (0, 0, 0, []))], [], [], [], [(20, [4, 1, 2, 0, 3], [50, 3, 0, 3002, 3000, 3001, 4, 6, 1, 2, 1, 0, 0, 1, 3, 36, 2, 6, 1, 2, 1, 1, 0, 0, 2, 6, 0, 2, 0, 0, 1, 2, 2, 11, 0, 6, 4, 2, 1, 2, 0, 1, 2, 3, 2, 0, 3, 2, 3, 0, 0, 23, 3, 81, 2, 6, 1, 2, 1, 1, 0, 1, 2, 6, 0, 2, 0, 0, 1, 2, 2, 11, 0, 6, 4, 2, 1, 2, 0, 1, 2, 3, 0, 2, 6, 0, 2, 0, 0, 1, 4, 2, 11, 0, 6, 4, 2, 1, 4, 0, 1, 2, 3, 0, 2, 7, 0, 3, 2, 3, 1, 0, 47, 3, 10, 0, 6, 4, 2, 1, 2, 0, 1, 1, 4, 0, 6, 4, 2, 1, 4, 0, 1, 1, 2, 3, 27, 2, 6, 1, 2, 1, 1, 0, 2, 2, 6, 0, 2, 0, 0, 1, 2, 0, 6, 4, 2, 1, 2, 0, 1, 2, 3, 1, 3, 27, 2, 6, 1, 2, 1, 1, 0, 3, 2, 6, 0, 2, 0, 0, 1, 2, 0, 6, 4, 2, 1, 2, 0, 1, 2, 3, 0, 3, 43, 2, 6, 1, 2, 1, 1, 0, 4, 2, 6, 0, 2, 0, 0, 1, 2, 2, 11, 0, 6, 4, 2, 1, 2, 0, 1, 2, 3, 0, 2, 6, 0, 2, 0, 1, 1, 4, 0, 2, 1, 4, 0, 99, 3, 43, 2, 6, 1, 2, 1, 1, 0, 5, 2, 6, 0, 2, 0, 0, 1, 2, 2, 11, 0, 6, 4, 2, 1, 2, 0, 1, 2, 3, 1, 2, 6, 0, 2, 0, 1, 1, 4, 0, 2, 1, 4, 0, 9, 3, 48, 2, 6, 1, 2, 1, 1, 0, 6, 2, 6, 0, 2, 0, 0, 1, 2, 2, 11, 0, 6, 4, 2, 1, 2, 0, 1, 2, 3, 0, 2, 6, 0, 2, 0, 0, 1, 4, 0, 6, 4, 2, 1, 4, 0, 1, 2, 3, 2, 2, 6, 1, 2, 1, 1, 0, 7, 2, 6, 0, 2, 0, 0, 1, 2, 2, 11, 0, 6, 4, 2, 1, 2, 0, 1, 2, 3, 1, 2, 6, 0, 2, 0, 0, 1, 4, 0, 2, 1, 4, 0, 1])], [], [])
theorem oo_Gr_mayAlter_0 {kA : Nat → ClassId} : or_ok PRD kA GG o_Gr_mayAlter_0 := by
  refine or_mk fun A ta ws vs hD hth hl => ?_
  intro t0 r0 t1 k1 t2 k2 t3 k3 t4 k4
  have kz_0_0 := fdq_21 hD hth r0
  have kz_0_1 := fdq_30 hD hth r0
  have kz_0_2 := fdq_20 hD hth r0
  have nf0 : fc_1 PRD (20, [4, 1, 2, 0, 3], [50, 3, 0, 3002, 3000, 3001, 4, 6, 1, 2, 1, 0, 0, 1, 3, 36, 2, 6, 1, 2, 1, 1, 0, 0, 2, 6, 0, 2, 0, 0, 1, 2, 2, 11, 0, 6, 4, 2, 1, 2, 0, 1, 2, 3, 2, 0, 3, 2, 3, 0, 0, 23, 3, 81, 2, 6, 1, 2, 1, 1, 0, 1, 2, 6, 0, 2, 0, 0, 1, 2, 2, 11, 0, 6, 4, 2, 1, 2, 0, 1, 2, 3, 0, 2, 6, 0, 2, 0, 0, 1, 4, 2, 11, 0, 6, 4, 2, 1, 4, 0, 1, 2, 3, 0, 2, 7, 0, 3, 2, 3, 1, 0, 47, 3, 10, 0, 6, 4, 2, 1, 2, 0, 1, 1, 4, 0, 6, 4, 2, 1, 4, 0, 1, 1, 2, 3, 27, 2, 6, 1, 2, 1, 1, 0, 2, 2, 6, 0, 2, 0, 0, 1, 2, 0, 6, 4, 2, 1, 2, 0, 1, 2, 3, 1, 3, 27, 2, 6, 1, 2, 1, 1, 0, 3, 2, 6, 0, 2, 0, 0, 1, 2, 0, 6, 4, 2, 1, 2, 0, 1, 2, 3, 0, 3, 43, 2, 6, 1, 2, 1, 1, 0, 4, 2, 6, 0, 2, 0, 0, 1, 2, 2, 11, 0, 6, 4, 2, 1, 2, 0, 1, 2, 3, 0, 2, 6, 0, 2, 0, 1, 1, 4, 0, 2, 1, 4, 0, 99, 3, 43, 2, 6, 1, 2, 1, 1, 0, 5, 2, 6, 0, 2, 0, 0, 1, 2, 2, 11, 0, 6, 4, 2, 1, 2, 0, 1, 2, 3, 1, 2, 6, 0, 2, 0, 1, 1, 4, 0, 2, 1, 4, 0, 9, 3, 48, 2, 6, 1, 2, 1, 1, 0, 6, 2, 6, 0, 2, 0, 0, 1, 2, 2, 11, 0, 6, 4, 2, 1, 2, 0, 1, 2, 3, 0, 2, 6, 0, 2, 0, 0, 1, 4, 0, 6, 4, 2, 1, 4, 0, 1, 2, 3, 2, 2, 6, 1, 2, 1, 1, 0, 7, 2, 6, 0, 2, 0, 0, 1, 2, 2, 11, 0, 6, 4, 2, 1, 2, 0, 1, 2, 3, 1, 2, 6, 0, 2, 0, 0, 1, 4, 0, 2, 1, 4, 0, 1]) ws (vs) := ⟨nf_in hl rfl, sgq_1778 (vc_Gr_mayAlter_0_0 (v_iv (n_v vs 1)) (v_iv (n_v vs 2)) (v_iv (n_v vs 3)) (v_iv (n_v vs 4)) (w_fi ws (n_v vs 0) 0) (w_fi ws (n_v vs 0) 1) (w_fi ws (n_v vs 0) 2) k1 k2 k3 k4 kz_0_0 kz_0_1 kz_0_2)⟩
  refine ⟨(fun _ h => (by cases h)), [], trivial, ?_, (fun _ h => (by cases h))⟩
  rw [List.append_nil]
  exact List.forall_mem_cons.mpr ⟨⟨show (20 : Nat) < 100 from by decide, nf0⟩, (fun _ h => (by cases h))⟩
set_option maxHeartbeats 4000000 in
theorem vc_Gr_mayAlter_1_0 (x1 : Int) (x2 : Int) (x3 : Int) (x5 : Int) (groups_0 : Int) (nodes_0 : Int) (edges_0 : Int) (k1 : 0 ≤ x1 ∧ x1 ≤ 0) (k2 : (-2147483648) ≤ x2 ∧ x2 ≤ (-1)) (k3 : (-2147483648) ≤ x3 ∧ x3 ≤ 2147483647) (k5 : 0 ≤ x5 ∧ x5 ≤ 0) (kz_0_0 : 0 ≤ nodes_0 ∧ nodes_0 ≤ 24) (kz_0_1 : 0 ≤ edges_0 ∧ edges_0 ≤ 48) (kz_0_2 : 0 ≤ groups_0 ∧ groups_0 ≤ 8) : (x5 = 1) → (((x1 = 0) ∧ ((0 ≤ x2) ∧ (((x2 + 1) ≤ groups_0) ∧ (nodes_0 ≤ 23)))) ∨ (((x1 = 1) ∧ ((0 ≤ x2) ∧ (((x2 + 1) ≤ nodes_0) ∧ ((0 ≤ x3) ∧ (((x3 + 1) ≤ nodes_0) ∧ ((edges_0 ≤ 47) ∧ (((x2 + 1) ≤ x3) ∨ ((x3 + 1) ≤ x2)))))))) ∨ (((x1 = 2) ∧ ((0 ≤ x2) ∧ ((x2 + 1) ≤ edges_0))) ∨ (((x1 = 3) ∧ ((0 ≤ x2) ∧ ((x2 + 1) ≤ nodes_0))) ∨ (((x1 = 4) ∧ ((0 ≤ x2) ∧ (((x2 + 1) ≤ nodes_0) ∧ ((1 ≤ x3) ∧ (x3 ≤ 99))))) ∨ (((x1 = 5) ∧ ((0 ≤ x2) ∧ (((x2 + 1) ≤ edges_0) ∧ ((1 ≤ x3) ∧ (x3 ≤ 9))))) ∨ (((x1 = 6) ∧ ((0 ≤ x2) ∧ (((x2 + 1) ≤ nodes_0) ∧ ((0 ≤ x3) ∧ ((x3 + 1) ≤ groups_0))))) ∨ ((x1 = 7) ∧ ((0 ≤ x2) ∧ (((x2 + 1) ≤ edges_0) ∧ ((0 ≤ x3) ∧ (x3 ≤ 1)))))))))))) := by
  first
    | (intro h; exfalso; omega)
    | (intro h; left; omega)
    | (intro h; right; left; omega)
    | (intro h; right; right; left; omega)
    | (intro h; right; right; right; left; omega)
    | (intro h; right; right; right; right; left; omega)
    | (intro h; right; right; right; right; right; left; omega)
    | (intro h; right; right; right; right; right; right; left; omega)
    | (intro h; right; right; right; right; right; right; right; omega)
    | omega
  
def o_Gr_mayAlter_1 : or_T := (77, 6, [(0, (2, 0, 0, [3])), (1, (0, 0, 0, [])), (2, (0, -2147483648, -1, [])), (3, (0, -2147483648, 2147483647, [])), (4, (0, 0, 0, [])), (5, (0, 0, 0, []))], [(8, [4], [0]), (20, [4, 2, 0], [50, 1, 0, 2002, 4, 6, 1, 2, 1, 0, 0, 1, 2, 6, 0, 2, 0, 0, 1, 1, 0, 6, 4, 2, 1, 1, 0, 1, 2, 2, 2])], [], [], [(20, [5, 1, 2, 0, 3], [50, 3, 0, 3002, 3000, 3001, 4, 6, 1, 2, 1, 0, 0, 1, 3, 36, 2, 6, 1, 2, 1, 1, 0, 0, 2, 6, 0, 2, 0, 0, 1, 2, 2, 11, 0, 6, 4, 2, 1, 2, 0, 1, 2, 3, 2, 0, 3, 2, 3, 0, 0, 23, 3, 81, 2, 6, 1, 2, 1, 1, 0, 1, 2, 6, 0, 2, 0, 0, 1, 2, 2, 11, 0, 6, 4, 2, 1, 2, 0, 1, 2, 3, 0, 2, 6, 0, 2, 0, 0, 1, 4, 2, 11, 0, 6, 4, 2, 1, 4, 0, 1, 2, 3, 0, 2, 7, 0, 3, 2, 3, 1, 0, 47, 3, 10, 0, 6, 4, 2, 1, 2, 0, 1, 1, 4, 0, 6, 4, 2, 1, 4, 0, 1, 1, 2, 3, 27, 2, 6, 1, 2, 1, 1, 0, 2, 2, 6, 0, 2, 0, 0, 1, 2, 0, 6, 4, 2, 1, 2, 0, 1, 2, 3, 1, 3, 27, 2, 6, 1, 2, 1, 1, 0, 3, 2, 6, 0, 2, 0, 0, 1, 2, 0, 6, 4, 2, 1, 2, 0, 1, 2, 3, 0, 3, 43, 2, 6, 1, 2, 1, 1, 0, 4, 2, 6, 0, 2, 0, 0, 1, 2, 2, 11, 0, 6, 4, 2, 1, 2, 0, 1, 2, 3, 0, 2, 6, 0, 2, 0, 1, 1, 4, 0, 2, 1, 4, 0, 99, 3, 43, 2, 6, 1, 2, 1, 1, 0, 5, 2, 6, 0, 2, 0, 0, 1, 2, 2, 11, 0, 6, 4, 2, 1, 2, 0, 1, 2, 3, 1, 2, 6, 0, 2, 0, 1, 1, 4, 0, 2, 1, 4, 0, 9, 3, 48, 2, 6, 1, 2, 1, 1, 0, 6, 2, 6, 0, 2, 0, 0, 1, 2, 2, 11, 0, 6, 4, 2, 1, 2, 0, 1, 2, 3, 0, 2, 6, 0, 2, 0, 0, 1, 4, 0, 6, 4, 2, 1, 4, 0, 1, 2, 3, 2, 2, 6, 1, 2, 1, 1, 0, 7, 2, 6, 0, 2, 0, 0, 1, 2, 2, 11, 0, 6, 4, 2, 1, 2, 0, 1, 2, 3, 1, 2, 6, 0, 2, 0, 0, 1, 4, 0, 2, 1, 4, 0, 1])], [], [])
theorem oo_Gr_mayAlter_1 {kA : Nat → ClassId} : or_ok PRD kA GG o_Gr_mayAlter_1 := by
  refine or_mk fun A ta ws vs hD hth hl => ?_
  intro t0 r0 t1 k1 t2 k2 t3 k3 t4 k4 t5 k5 f0 f1
  have kz_0_0 := fdq_21 hD hth r0
  have kz_0_1 := fdq_30 hD hth r0
  have kz_0_2 := fdq_20 hD hth r0
  have nf0 : fc_1 PRD (20, [5, 1, 2, 0, 3], [50, 3, 0, 3002, 3000, 3001, 4, 6, 1, 2, 1, 0, 0, 1, 3, 36, 2, 6, 1, 2, 1, 1, 0, 0, 2, 6, 0, 2, 0, 0, 1, 2, 2, 11, 0, 6, 4, 2, 1, 2, 0, 1, 2, 3, 2, 0, 3, 2, 3, 0, 0, 23, 3, 81, 2, 6, 1, 2, 1, 1, 0, 1, 2, 6, 0, 2, 0, 0, 1, 2, 2, 11, 0, 6, 4, 2, 1, 2, 0, 1, 2, 3, 0, 2, 6, 0, 2, 0, 0, 1, 4, 2, 11, 0, 6, 4, 2, 1, 4, 0, 1, 2, 3, 0, 2, 7, 0, 3, 2, 3, 1, 0, 47, 3, 10, 0, 6, 4, 2, 1, 2, 0, 1, 1, 4, 0, 6, 4, 2, 1, 4, 0, 1, 1, 2, 3, 27, 2, 6, 1, 2, 1, 1, 0, 2, 2, 6, 0, 2, 0, 0, 1, 2, 0, 6, 4, 2, 1, 2, 0, 1, 2, 3, 1, 3, 27, 2, 6, 1, 2, 1, 1, 0, 3, 2, 6, 0, 2, 0, 0, 1, 2, 0, 6, 4, 2, 1, 2, 0, 1, 2, 3, 0, 3, 43, 2, 6, 1, 2, 1, 1, 0, 4, 2, 6, 0, 2, 0, 0, 1, 2, 2, 11, 0, 6, 4, 2, 1, 2, 0, 1, 2, 3, 0, 2, 6, 0, 2, 0, 1, 1, 4, 0, 2, 1, 4, 0, 99, 3, 43, 2, 6, 1, 2, 1, 1, 0, 5, 2, 6, 0, 2, 0, 0, 1, 2, 2, 11, 0, 6, 4, 2, 1, 2, 0, 1, 2, 3, 1, 2, 6, 0, 2, 0, 1, 1, 4, 0, 2, 1, 4, 0, 9, 3, 48, 2, 6, 1, 2, 1, 1, 0, 6, 2, 6, 0, 2, 0, 0, 1, 2, 2, 11, 0, 6, 4, 2, 1, 2, 0, 1, 2, 3, 0, 2, 6, 0, 2, 0, 0, 1, 4, 0, 6, 4, 2, 1, 4, 0, 1, 2, 3, 2, 2, 6, 1, 2, 1, 1, 0, 7, 2, 6, 0, 2, 0, 0, 1, 2, 2, 11, 0, 6, 4, 2, 1, 2, 0, 1, 2, 3, 1, 2, 6, 0, 2, 0, 0, 1, 4, 0, 2, 1, 4, 0, 1]) ws (vs) := ⟨nf_in hl rfl, sgq_1778 (vc_Gr_mayAlter_1_0 (v_iv (n_v vs 1)) (v_iv (n_v vs 2)) (v_iv (n_v vs 3)) (v_iv (n_v vs 5)) (w_fi ws (n_v vs 0) 2) (w_fi ws (n_v vs 0) 0) (w_fi ws (n_v vs 0) 1) k1 k2 k3 k5 kz_0_0 kz_0_1 kz_0_2)⟩
  refine ⟨(fun _ h => (by cases h)), [], trivial, ?_, (fun _ h => (by cases h))⟩
  rw [List.append_nil]
  exact List.forall_mem_cons.mpr ⟨⟨show (20 : Nat) < 100 from by decide, nf0⟩, (fun _ h => (by cases h))⟩
set_option maxHeartbeats 4000000 in
theorem vc_Gr_mayAlter_2_0 (x1 : Int) (x2 : Int) (x3 : Int) (x5 : Int) (groups_0 : Int) (nodes_0 : Int) (edges_0 : Int) (k1 : 0 ≤ x1 ∧ x1 ≤ 0) (k2 : 0 ≤ x2 ∧ x2 ≤ 2147483647) (k3 : (-2147483648) ≤ x3 ∧ x3 ≤ 2147483647) (k5 : 0 ≤ x5 ∧ x5 ≤ 0) (kz_0_0 : 0 ≤ nodes_0 ∧ nodes_0 ≤ 24) (kz_0_1 : 0 ≤ edges_0 ∧ edges_0 ≤ 48) (kz_0_2 : 0 ≤ groups_0 ∧ groups_0 ≤ 8) : (x5 = 1) → (((x1 = 0) ∧ ((0 ≤ x2) ∧ (((x2 + 1) ≤ groups_0) ∧ (nodes_0 ≤ 23)))) ∨ (((x1 = 1) ∧ ((0 ≤ x2) ∧ (((x2 + 1) ≤ nodes_0) ∧ ((0 ≤ x3) ∧ (((x3 + 1) ≤ nodes_0) ∧ ((edges_0 ≤ 47) ∧ (((x2 + 1) ≤ x3) ∨ ((x3 + 1) ≤ x2)))))))) ∨ (((x1 = 2) ∧ ((0 ≤ x2) ∧ ((x2 + 1) ≤ edges_0))) ∨ (((x1 = 3) ∧ ((0 ≤ x2) ∧ ((x2 + 1) ≤ nodes_0))) ∨ (((x1 = 4) ∧ ((0 ≤ x2) ∧ (((x2 + 1) ≤ nodes_0) ∧ ((1 ≤ x3) ∧ (x3 ≤ 99))))) ∨ (((x1 = 5) ∧ ((0 ≤ x2) ∧ (((x2 + 1) ≤ edges_0) ∧ ((1 ≤ x3) ∧ (x3 ≤ 9))))) ∨ (((x1 = 6) ∧ ((0 ≤ x2) ∧ (((x2 + 1) ≤ nodes_0) ∧ ((0 ≤ x3) ∧ ((x3 + 1) ≤ groups_0))))) ∨ ((x1 = 7) ∧ ((0 ≤ x2) ∧ (((x2 + 1) ≤ edges_0) ∧ ((0 ≤ x3) ∧ (x3 ≤ 1)))))))))))) := by
  first
    | (intro h; exfalso; omega)
    | (intro h; left; omega)
    | (intro h; right; left; omega)
    | (intro h; right; right; left; omega)
    | (intro h; right; right; right; left; omega)
    | (intro h; right; right; right; right; left; omega)
    | (intro h; right; right; right; right; right; left; omega)
    | (intro h; right; right; right; right; right; right; left; omega)
    | (intro h; right; right; right; right; right; right; right; omega)
    | omega
  
def o_Gr_mayAlter_2 : or_T := (77, 6, [(0, (2, 0, 0, [3])), (1, (0, 0, 0, [])), (2, (0, 0, 2147483647, [])), (3, (0, -2147483648, 2147483647, [])), (4, (0, 0, 0, [])), (5, (0, 0, 0, []))], [(8, [4], [0]), (20, [4, 2, 0], [50, 1, 0, 2002, 4, 6, 1, 2, 1, 0, 0, 1, 2, 6, 0, 2, 0, 0, 1, 1, 0, 6, 4, 2, 1, 1, 0, 1, 2, 2, 2])], [], [], [(20, [5, 1, 2, 0, 3], [50, 3, 0, 3002, 3000, 3001, 4, 6, 1, 2, 1, 0, 0, 1, 3, 36, 2, 6, 1, 2, 1, 1, 0, 0, 2, 6, 0, 2, 0, 0, 1, 2, 2, 11, 0, 6, 4, 2, 1, 2, 0, 1, 2, 3, 2, 0, 3, 2, 3, 0, 0, 23, 3, 81, 2, 6, 1, 2, 1, 1, 0, 1, 2, 6, 0, 2, 0, 0, 1, 2, 2, 11, 0, 6, 4, 2, 1, 2, 0, 1, 2, 3, 0, 2, 6, 0, 2, 0, 0, 1, 4, 2, 11, 0, 6, 4, 2, 1, 4, 0, 1, 2, 3, 0, 2, 7, 0, 3, 2, 3, 1, 0, 47, 3, 10, 0, 6, 4, 2, 1, 2, 0, 1, 1, 4, 0, 6, 4, 2, 1, 4, 0, 1, 1, 2, 3, 27, 2, 6, 1, 2, 1, 1, 0, 2, 2, 6, 0, 2, 0, 0, 1, 2, 0, 6, 4, 2, 1, 2, 0, 1, 2, 3, 1, 3, 27, 2, 6, 1, 2, 1, 1, 0, 3, 2, 6, 0, 2, 0, 0, 1, 2, 0, 6, 4, 2, 1, 2, 0, 1, 2, 3, 0, 3, 43, 2, 6, 1, 2, 1, 1, 0, 4, 2, 6, 0, 2, 0, 0, 1, 2, 2, 11, 0, 6, 4, 2, 1, 2, 0, 1, 2, 3, 0, 2, 6, 0, 2, 0, 1, 1, 4, 0, 2, 1, 4, 0, 99, 3, 43, 2, 6, 1, 2, 1, 1, 0, 5, 2, 6, 0, 2, 0, 0, 1, 2, 2, 11, 0, 6, 4, 2, 1, 2, 0, 1, 2, 3, 1, 2, 6, 0, 2, 0, 1, 1, 4, 0, 2, 1, 4, 0, 9, 3, 48, 2, 6, 1, 2, 1, 1, 0, 6, 2, 6, 0, 2, 0, 0, 1, 2, 2, 11, 0, 6, 4, 2, 1, 2, 0, 1, 2, 3, 0, 2, 6, 0, 2, 0, 0, 1, 4, 0, 6, 4, 2, 1, 4, 0, 1, 2, 3, 2, 2, 6, 1, 2, 1, 1, 0, 7, 2, 6, 0, 2, 0, 0, 1, 2, 2, 11, 0, 6, 4, 2, 1, 2, 0, 1, 2, 3, 1, 2, 6, 0, 2, 0, 0, 1, 4, 0, 2, 1, 4, 0, 1])], [], [])
theorem oo_Gr_mayAlter_2 {kA : Nat → ClassId} : or_ok PRD kA GG o_Gr_mayAlter_2 := by
  refine or_mk fun A ta ws vs hD hth hl => ?_
  intro t0 r0 t1 k1 t2 k2 t3 k3 t4 k4 t5 k5 f0 f1
  have kz_0_0 := fdq_21 hD hth r0
  have kz_0_1 := fdq_30 hD hth r0
  have kz_0_2 := fdq_20 hD hth r0
  have nf0 : fc_1 PRD (20, [5, 1, 2, 0, 3], [50, 3, 0, 3002, 3000, 3001, 4, 6, 1, 2, 1, 0, 0, 1, 3, 36, 2, 6, 1, 2, 1, 1, 0, 0, 2, 6, 0, 2, 0, 0, 1, 2, 2, 11, 0, 6, 4, 2, 1, 2, 0, 1, 2, 3, 2, 0, 3, 2, 3, 0, 0, 23, 3, 81, 2, 6, 1, 2, 1, 1, 0, 1, 2, 6, 0, 2, 0, 0, 1, 2, 2, 11, 0, 6, 4, 2, 1, 2, 0, 1, 2, 3, 0, 2, 6, 0, 2, 0, 0, 1, 4, 2, 11, 0, 6, 4, 2, 1, 4, 0, 1, 2, 3, 0, 2, 7, 0, 3, 2, 3, 1, 0, 47, 3, 10, 0, 6, 4, 2, 1, 2, 0, 1, 1, 4, 0, 6, 4, 2, 1, 4, 0, 1, 1, 2, 3, 27, 2, 6, 1, 2, 1, 1, 0, 2, 2, 6, 0, 2, 0, 0, 1, 2, 0, 6, 4, 2, 1, 2, 0, 1, 2, 3, 1, 3, 27, 2, 6, 1, 2, 1, 1, 0, 3, 2, 6, 0, 2, 0, 0, 1, 2, 0, 6, 4, 2, 1, 2, 0, 1, 2, 3, 0, 3, 43, 2, 6, 1, 2, 1, 1, 0, 4, 2, 6, 0, 2, 0, 0, 1, 2, 2, 11, 0, 6, 4, 2, 1, 2, 0, 1, 2, 3, 0, 2, 6, 0, 2, 0, 1, 1, 4, 0, 2, 1, 4, 0, 99, 3, 43, 2, 6, 1, 2, 1, 1, 0, 5, 2, 6, 0, 2, 0, 0, 1, 2, 2, 11, 0, 6, 4, 2, 1, 2, 0, 1, 2, 3, 1, 2, 6, 0, 2, 0, 1, 1, 4, 0, 2, 1, 4, 0, 9, 3, 48, 2, 6, 1, 2, 1, 1, 0, 6, 2, 6, 0, 2, 0, 0, 1, 2, 2, 11, 0, 6, 4, 2, 1, 2, 0, 1, 2, 3, 0, 2, 6, 0, 2, 0, 0, 1, 4, 0, 6, 4, 2, 1, 4, 0, 1, 2, 3, 2, 2, 6, 1, 2, 1, 1, 0, 7, 2, 6, 0, 2, 0, 0, 1, 2, 2, 11, 0, 6, 4, 2, 1, 2, 0, 1, 2, 3, 1, 2, 6, 0, 2, 0, 0, 1, 4, 0, 2, 1, 4, 0, 1]) ws (vs) := ⟨nf_in hl rfl, sgq_1778 (vc_Gr_mayAlter_2_0 (v_iv (n_v vs 1)) (v_iv (n_v vs 2)) (v_iv (n_v vs 3)) (v_iv (n_v vs 5)) (w_fi ws (n_v vs 0) 2) (w_fi ws (n_v vs 0) 0) (w_fi ws (n_v vs 0) 1) k1 k2 k3 k5 kz_0_0 kz_0_1 kz_0_2)⟩
  refine ⟨(fun _ h => (by cases h)), [], trivial, ?_, (fun _ h => (by cases h))⟩
  rw [List.append_nil]
  exact List.forall_mem_cons.mpr ⟨⟨show (20 : Nat) < 100 from by decide, nf0⟩, (fun _ h => (by cases h))⟩
set_option maxHeartbeats 4000000 in
theorem vc_Gr_mayAlter_3_0 (x1 : Int) (x2 : Int) (x3 : Int) (x7 : Int) (nodes_0 : Int) (groups_0 : Int) (edges_0 : Int) (k1 : 0 ≤ x1 ∧ x1 ≤ 0) (k2 : 0 ≤ x2 ∧ x2 ≤ 7) (k3 : (-2147483648) ≤ x3 ∧ x3 ≤ 2147483647) (k7 : 0 ≤ x7 ∧ x7 ≤ 0) (kz_0_0 : 0 ≤ nodes_0 ∧ nodes_0 ≤ 24) (kz_0_1 : 0 ≤ edges_0 ∧ edges_0 ≤ 48) (kz_0_2 : 0 ≤ groups_0 ∧ groups_0 ≤ 8) : (x7 = 1) → (((x1 = 0) ∧ ((0 ≤ x2) ∧ (((x2 + 1) ≤ groups_0) ∧ (nodes_0 ≤ 23)))) ∨ (((x1 = 1) ∧ ((0 ≤ x2) ∧ (((x2 + 1) ≤ nodes_0) ∧ ((0 ≤ x3) ∧ (((x3 + 1) ≤ nodes_0) ∧ ((edges_0 ≤ 47) ∧ (((x2 + 1) ≤ x3) ∨ ((x3 + 1) ≤ x2)))))))) ∨ (((x1 = 2) ∧ ((0 ≤ x2) ∧ ((x2 + 1) ≤ edges_0))) ∨ (((x1 = 3) ∧ ((0 ≤ x2) ∧ ((x2 + 1) ≤ nodes_0))) ∨ (((x1 = 4) ∧ ((0 ≤ x2) ∧ (((x2 + 1) ≤ nodes_0) ∧ ((1 ≤ x3) ∧ (x3 ≤ 99))))) ∨ (((x1 = 5) ∧ ((0 ≤ x2) ∧ (((x2 + 1) ≤ edges_0) ∧ ((1 ≤ x3) ∧ (x3 ≤ 9))))) ∨ (((x1 = 6) ∧ ((0 ≤ x2) ∧ (((x2 + 1) ≤ nodes_0) ∧ ((0 ≤ x3) ∧ ((x3 + 1) ≤ groups_0))))) ∨ ((x1 = 7) ∧ ((0 ≤ x2) ∧ (((x2 + 1) ≤ edges_0) ∧ ((0 ≤ x3) ∧ (x3 ≤ 1)))))))))))) := by
  first
    | (intro h; exfalso; omega)
    | (intro h; left; omega)
    | (intro h; right; left; omega)
    | (intro h; right; right; left; omega)
    | (intro h; right; right; right; left; omega)
    | (intro h; right; right; right; right; left; omega)
    | (intro h; right; right; right; right; right; left; omega)
    | (intro h; right; right; right; right; right; right; left; omega)
    | (intro h; right; right; right; right; right; right; right; omega)
    | omega
  
def o_Gr_mayAlter_3 : or_T := (77, 8, [(0, (2, 0, 0, [3])), (1, (0, 0, 0, [])), (2, (0, 0, 7, [])), (3, (0, -2147483648, 2147483647, [])), (7, (0, 0, 0, []))], [], [], [], [(20, [7, 1, 2, 0, 3], [50, 3, 0, 3002, 3000, 3001, 4, 6, 1, 2, 1, 0, 0, 1, 3, 36, 2, 6, 1, 2, 1, 1, 0, 0, 2, 6, 0, 2, 0, 0, 1, 2, 2, 11, 0, 6, 4, 2, 1, 2, 0, 1, 2, 3, 2, 0, 3, 2, 3, 0, 0, 23, 3, 81, 2, 6, 1, 2, 1, 1, 0, 1, 2, 6, 0, 2, 0, 0, 1, 2, 2, 11, 0, 6, 4, 2, 1, 2, 0, 1, 2, 3, 0, 2, 6, 0, 2, 0, 0, 1, 4, 2, 11, 0, 6, 4, 2, 1, 4, 0, 1, 2, 3, 0, 2, 7, 0, 3, 2, 3, 1, 0, 47, 3, 10, 0, 6, 4, 2, 1, 2, 0, 1, 1, 4, 0, 6, 4, 2, 1, 4, 0, 1, 1, 2, 3, 27, 2, 6, 1, 2, 1, 1, 0, 2, 2, 6, 0, 2, 0, 0, 1, 2, 0, 6, 4, 2, 1, 2, 0, 1, 2, 3, 1, 3, 27, 2, 6, 1, 2, 1, 1, 0, 3, 2, 6, 0, 2, 0, 0, 1, 2, 0, 6, 4, 2, 1, 2, 0, 1, 2, 3, 0, 3, 43, 2, 6, 1, 2, 1, 1, 0, 4, 2, 6, 0, 2, 0, 0, 1, 2, 2, 11, 0, 6, 4, 2, 1, 2, 0, 1, 2, 3, 0, 2, 6, 0, 2, 0, 1, 1, 4, 0, 2, 1, 4, 0, 99, 3, 43, 2, 6, 1, 2, 1, 1, 0, 5, 2, 6, 0, 2, 0, 0, 1, 2, 2, 11, 0, 6, 4, 2, 1, 2, 0, 1, 2, 3, 1, 2, 6, 0, 2, 0, 1, 1, 4, 0, 2, 1, 4, 0, 9, 3, 48, 2, 6, 1, 2, 1, 1, 0, 6, 2, 6, 0, 2, 0, 0, 1, 2, 2, 11, 0, 6, 4, 2, 1, 2, 0, 1, 2, 3, 0, 2, 6, 0, 2, 0, 0, 1, 4, 0, 6, 4, 2, 1, 4, 0, 1, 2, 3, 2, 2, 6, 1, 2, 1, 1, 0, 7, 2, 6, 0, 2, 0, 0, 1, 2, 2, 11, 0, 6, 4, 2, 1, 2, 0, 1, 2, 3, 1, 2, 6, 0, 2, 0, 0, 1, 4, 0, 2, 1, 4, 0, 1])], [], [])
theorem oo_Gr_mayAlter_3 {kA : Nat → ClassId} : or_ok PRD kA GG o_Gr_mayAlter_3 := by
  refine or_mk fun A ta ws vs hD hth hl => ?_
  intro t0 r0 t1 k1 t2 k2 t3 k3 t7 k7
  have kz_0_0 := fdq_21 hD hth r0
  have kz_0_1 := fdq_30 hD hth r0
  have kz_0_2 := fdq_20 hD hth r0
  have nf0 : fc_1 PRD (20, [7, 1, 2, 0, 3], [50, 3, 0, 3002, 3000, 3001, 4, 6, 1, 2, 1, 0, 0, 1, 3, 36, 2, 6, 1, 2, 1, 1, 0, 0, 2, 6, 0, 2, 0, 0, 1, 2, 2, 11, 0, 6, 4, 2, 1, 2, 0, 1, 2, 3, 2, 0, 3, 2, 3, 0, 0, 23, 3, 81, 2, 6, 1, 2, 1, 1, 0, 1, 2, 6, 0, 2, 0, 0, 1, 2, 2, 11, 0, 6, 4, 2, 1, 2, 0, 1, 2, 3, 0, 2, 6, 0, 2, 0, 0, 1, 4, 2, 11, 0, 6, 4, 2, 1, 4, 0, 1, 2, 3, 0, 2, 7, 0, 3, 2, 3, 1, 0, 47, 3, 10, 0, 6, 4, 2, 1, 2, 0, 1, 1, 4, 0, 6, 4, 2, 1, 4, 0, 1, 1, 2, 3, 27, 2, 6, 1, 2, 1, 1, 0, 2, 2, 6, 0, 2, 0, 0, 1, 2, 0, 6, 4, 2, 1, 2, 0, 1, 2, 3, 1, 3, 27, 2, 6, 1, 2, 1, 1, 0, 3, 2, 6, 0, 2, 0, 0, 1, 2, 0, 6, 4, 2, 1, 2, 0, 1, 2, 3, 0, 3, 43, 2, 6, 1, 2, 1, 1, 0, 4, 2, 6, 0, 2, 0, 0, 1, 2, 2, 11, 0, 6, 4, 2, 1, 2, 0, 1, 2, 3, 0, 2, 6, 0, 2, 0, 1, 1, 4, 0, 2, 1, 4, 0, 99, 3, 43, 2, 6, 1, 2, 1, 1, 0, 5, 2, 6, 0, 2, 0, 0, 1, 2, 2, 11, 0, 6, 4, 2, 1, 2, 0, 1, 2, 3, 1, 2, 6, 0, 2, 0, 1, 1, 4, 0, 2, 1, 4, 0, 9, 3, 48, 2, 6, 1, 2, 1, 1, 0, 6, 2, 6, 0, 2, 0, 0, 1, 2, 2, 11, 0, 6, 4, 2, 1, 2, 0, 1, 2, 3, 0, 2, 6, 0, 2, 0, 0, 1, 4, 0, 6, 4, 2, 1, 4, 0, 1, 2, 3, 2, 2, 6, 1, 2, 1, 1, 0, 7, 2, 6, 0, 2, 0, 0, 1, 2, 2, 11, 0, 6, 4, 2, 1, 2, 0, 1, 2, 3, 1, 2, 6, 0, 2, 0, 0, 1, 4, 0, 2, 1, 4, 0, 1]) ws (vs) := ⟨nf_in hl rfl, sgq_1778 (vc_Gr_mayAlter_3_0 (v_iv (n_v vs 1)) (v_iv (n_v vs 2)) (v_iv (n_v vs 3)) (v_iv (n_v vs 7)) (w_fi ws (n_v vs 0) 0) (w_fi ws (n_v vs 0) 2) (w_fi ws (n_v vs 0) 1) k1 k2 k3 k7 kz_0_0 kz_0_1 kz_0_2)⟩
  refine ⟨(fun _ h => (by cases h)), [], trivial, ?_, (fun _ h => (by cases h))⟩
  rw [List.append_nil]
  exact List.forall_mem_cons.mpr ⟨⟨show (20 : Nat) < 100 from by decide, nf0⟩, (fun _ h => (by cases h))⟩
set_option maxHeartbeats 4000000 in
theorem vc_Gr_mayAlter_4_0 (x5 : Int) (nodes_0 : Int) (k5 : 0 ≤ x5 ∧ x5 ≤ 23) (g1 : x5 = nodes_0) (kz_0_0 : 0 ≤ nodes_0 ∧ nodes_0 ≤ 24) : nodes_0 ≤ 23 := by
  first
    | (intro h; exfalso; omega)
    | (intro h; left; omega)
    | (intro h; right; left; omega)
    | (intro h; right; right; left; omega)
    | (intro h; right; right; right; left; omega)
    | (intro h; right; right; right; right; left; omega)
    | (intro h; right; right; right; right; right; left; omega)
    | (intro h; right; right; right; right; right; right; left; omega)
    | (intro h; right; right; right; right; right; right; right; omega)
    | omega
  
def o_Gr_mayAlter_4 : or_T := (65, 7, [(0, (2, 0, 0, [3])), (5, (0, 0, 23, []))], [(9, [5, 0], [0])], [], [], [(20, [0], [50, 1, 0, 0, 0, 3, 2, 0, 0, 0, 23])], [], [])
theorem oo_Gr_mayAlter_4 {kA : Nat → ClassId} : or_ok PRD kA GG o_Gr_mayAlter_4 := by
  refine or_mk fun A ta ws vs hD hth hl => ?_
  intro t0 r0 t5 k5 f1
  replace f1 := shm_163 f1
  have g1 : v_iv (n_v vs 5) = w_fi ws (n_v vs 0) 0 := congrArg v_iv f1
  have kz_0_0 := fdq_21 hD hth r0
  have nf0 : fc_1 PRD (20, [0], [50, 1, 0, 0, 0, 3, 2, 0, 0, 0, 23]) ws (vs) := ⟨nf_in hl rfl, sgq_832 (vc_Gr_mayAlter_4_0 (v_iv (n_v vs 5)) (w_fi ws (n_v vs 0) 0) k5 g1 kz_0_0)⟩
  refine ⟨(fun _ h => (by cases h)), [], trivial, ?_, (fun _ h => (by cases h))⟩
  rw [List.append_nil]
  exact List.forall_mem_cons.mpr ⟨⟨show (20 : Nat) < 100 from by decide, nf0⟩, (fun _ h => (by cases h))⟩
set_option maxHeartbeats 4000000 in
theorem vc_Gr_mayAlter_5_0 (x1 : Int) (x2 : Int) (x3 : Int) (x8 : Int) (nodes_0 : Int) (groups_0 : Int) (edges_0 : Int) (k1 : 0 ≤ x1 ∧ x1 ≤ 0) (k2 : 0 ≤ x2 ∧ x2 ≤ 7) (k3 : (-2147483648) ≤ x3 ∧ x3 ≤ 2147483647) (k8 : 0 ≤ x8 ∧ x8 ≤ 0) (kz_0_0 : 0 ≤ nodes_0 ∧ nodes_0 ≤ 24) (kz_0_1 : 0 ≤ edges_0 ∧ edges_0 ≤ 48) (kz_0_2 : 0 ≤ groups_0 ∧ groups_0 ≤ 8) : (x8 = 1) → (((x1 = 0) ∧ ((0 ≤ x2) ∧ (((x2 + 1) ≤ groups_0) ∧ (nodes_0 ≤ 23)))) ∨ (((x1 = 1) ∧ ((0 ≤ x2) ∧ (((x2 + 1) ≤ nodes_0) ∧ ((0 ≤ x3) ∧ (((x3 + 1) ≤ nodes_0) ∧ ((edges_0 ≤ 47) ∧ (((x2 + 1) ≤ x3) ∨ ((x3 + 1) ≤ x2)))))))) ∨ (((x1 = 2) ∧ ((0 ≤ x2) ∧ ((x2 + 1) ≤ edges_0))) ∨ (((x1 = 3) ∧ ((0 ≤ x2) ∧ ((x2 + 1) ≤ nodes_0))) ∨ (((x1 = 4) ∧ ((0 ≤ x2) ∧ (((x2 + 1) ≤ nodes_0) ∧ ((1 ≤ x3) ∧ (x3 ≤ 99))))) ∨ (((x1 = 5) ∧ ((0 ≤ x2) ∧ (((x2 + 1) ≤ edges_0) ∧ ((1 ≤ x3) ∧ (x3 ≤ 9))))) ∨ (((x1 = 6) ∧ ((0 ≤ x2) ∧ (((x2 + 1) ≤ nodes_0) ∧ ((0 ≤ x3) ∧ ((x3 + 1) ≤ groups_0))))) ∨ ((x1 = 7) ∧ ((0 ≤ x2) ∧ (((x2 + 1) ≤ edges_0) ∧ ((0 ≤ x3) ∧ (x3 ≤ 1)))))))))))) := by
  first
    | (intro h; exfalso; omega)
    | (intro h; left; omega)
    | (intro h; right; left; omega)
    | (intro h; right; right; left; omega)
    | (intro h; right; right; right; left; omega)
    | (intro h; right; right; right; right; left; omega)
    | (intro h; right; right; right; right; right; left; omega)
    | (intro h; right; right; right; right; right; right; left; omega)
    | (intro h; right; right; right; right; right; right; right; omega)
    | omega
  
def o_Gr_mayAlter_5 : or_T := (77, 9, [(0, (2, 0, 0, [3])), (1, (0, 0, 0, [])), (2, (0, 0, 7, [])), (3, (0, -2147483648, 2147483647, [])), (4, (0, 1, 1, [])), (8, (0, 0, 0, []))], [(20, [0], [50, 1, 0, 0, 0, 3, 2, 0, 0, 0, 23]), (20, [4, 2, 0], [50, 1, 0, 2002, 4, 6, 1, 2, 1, 0, 0, 1, 2, 6, 0, 2, 0, 0, 1, 1, 0, 6, 4, 2, 1, 1, 0, 1, 2, 2, 2]), (102, [6], [381944245562716141175333566576758405197150323812363046994276334253946493705625632409387008]), (8, [4], [1])], [], [], [(20, [8, 1, 2, 0, 3], [50, 3, 0, 3002, 3000, 3001, 4, 6, 1, 2, 1, 0, 0, 1, 3, 36, 2, 6, 1, 2, 1, 1, 0, 0, 2, 6, 0, 2, 0, 0, 1, 2, 2, 11, 0, 6, 4, 2, 1, 2, 0, 1, 2, 3, 2, 0, 3, 2, 3, 0, 0, 23, 3, 81, 2, 6, 1, 2, 1, 1, 0, 1, 2, 6, 0, 2, 0, 0, 1, 2, 2, 11, 0, 6, 4, 2, 1, 2, 0, 1, 2, 3, 0, 2, 6, 0, 2, 0, 0, 1, 4, 2, 11, 0, 6, 4, 2, 1, 4, 0, 1, 2, 3, 0, 2, 7, 0, 3, 2, 3, 1, 0, 47, 3, 10, 0, 6, 4, 2, 1, 2, 0, 1, 1, 4, 0, 6, 4, 2, 1, 4, 0, 1, 1, 2, 3, 27, 2, 6, 1, 2, 1, 1, 0, 2, 2, 6, 0, 2, 0, 0, 1, 2, 0, 6, 4, 2, 1, 2, 0, 1, 2, 3, 1, 3, 27, 2, 6, 1, 2, 1, 1, 0, 3, 2, 6, 0, 2, 0, 0, 1, 2, 0, 6, 4, 2, 1, 2, 0, 1, 2, 3, 0, 3, 43, 2, 6, 1, 2, 1, 1, 0, 4, 2, 6, 0, 2, 0, 0, 1, 2, 2, 11, 0, 6, 4, 2, 1, 2, 0, 1, 2, 3, 0, 2, 6, 0, 2, 0, 1, 1, 4, 0, 2, 1, 4, 0, 99, 3, 43, 2, 6, 1, 2, 1, 1, 0, 5, 2, 6, 0, 2, 0, 0, 1, 2, 2, 11, 0, 6, 4, 2, 1, 2, 0, 1, 2, 3, 1, 2, 6, 0, 2, 0, 1, 1, 4, 0, 2, 1, 4, 0, 9, 3, 48, 2, 6, 1, 2, 1, 1, 0, 6, 2, 6, 0, 2, 0, 0, 1, 2, 2, 11, 0, 6, 4, 2, 1, 2, 0, 1, 2, 3, 0, 2, 6, 0, 2, 0, 0, 1, 4, 0, 6, 4, 2, 1, 4, 0, 1, 2, 3, 2, 2, 6, 1, 2, 1, 1, 0, 7, 2, 6, 0, 2, 0, 0, 1, 2, 2, 11, 0, 6, 4, 2, 1, 2, 0, 1, 2, 3, 1, 2, 6, 0, 2, 0, 0, 1, 4, 0, 2, 1, 4, 0, 1])], [], [])
theorem oo_Gr_mayAlter_5 {kA : Nat → ClassId} : or_ok PRD kA GG o_Gr_mayAlter_5 := by
  refine or_mk fun A ta ws vs hD hth hl => ?_
  intro t0 r0 t1 k1 t2 k2 t3 k3 t4 k4 t8 k8 f0 f1 ta1 w1 le1 s1 f3
  have kz_0_0 := fdq_21 hD hth r0
  have kz_0_1 := fdq_30 hD hth r0
  have kz_0_2 := fdq_20 hD hth r0
  have nf0 : fc_1 PRD (20, [8, 1, 2, 0, 3], [50, 3, 0, 3002, 3000, 3001, 4, 6, 1, 2, 1, 0, 0, 1, 3, 36, 2, 6, 1, 2, 1, 1, 0, 0, 2, 6, 0, 2, 0, 0, 1, 2, 2, 11, 0, 6, 4, 2, 1, 2, 0, 1, 2, 3, 2, 0, 3, 2, 3, 0, 0, 23, 3, 81, 2, 6, 1, 2, 1, 1, 0, 1, 2, 6, 0, 2, 0, 0, 1, 2, 2, 11, 0, 6, 4, 2, 1, 2, 0, 1, 2, 3, 0, 2, 6, 0, 2, 0, 0, 1, 4, 2, 11, 0, 6, 4, 2, 1, 4, 0, 1, 2, 3, 0, 2, 7, 0, 3, 2, 3, 1, 0, 47, 3, 10, 0, 6, 4, 2, 1, 2, 0, 1, 1, 4, 0, 6, 4, 2, 1, 4, 0, 1, 1, 2, 3, 27, 2, 6, 1, 2, 1, 1, 0, 2, 2, 6, 0, 2, 0, 0, 1, 2, 0, 6, 4, 2, 1, 2, 0, 1, 2, 3, 1, 3, 27, 2, 6, 1, 2, 1, 1, 0, 3, 2, 6, 0, 2, 0, 0, 1, 2, 0, 6, 4, 2, 1, 2, 0, 1, 2, 3, 0, 3, 43, 2, 6, 1, 2, 1, 1, 0, 4, 2, 6, 0, 2, 0, 0, 1, 2, 2, 11, 0, 6, 4, 2, 1, 2, 0, 1, 2, 3, 0, 2, 6, 0, 2, 0, 1, 1, 4, 0, 2, 1, 4, 0, 99, 3, 43, 2, 6, 1, 2, 1, 1, 0, 5, 2, 6, 0, 2, 0, 0, 1, 2, 2, 11, 0, 6, 4, 2, 1, 2, 0, 1, 2, 3, 1, 2, 6, 0, 2, 0, 1, 1, 4, 0, 2, 1, 4, 0, 9, 3, 48, 2, 6, 1, 2, 1, 1, 0, 6, 2, 6, 0, 2, 0, 0, 1, 2, 2, 11, 0, 6, 4, 2, 1, 2, 0, 1, 2, 3, 0, 2, 6, 0, 2, 0, 0, 1, 4, 0, 6, 4, 2, 1, 4, 0, 1, 2, 3, 2, 2, 6, 1, 2, 1, 1, 0, 7, 2, 6, 0, 2, 0, 0, 1, 2, 2, 11, 0, 6, 4, 2, 1, 2, 0, 1, 2, 3, 1, 2, 6, 0, 2, 0, 0, 1, 4, 0, 2, 1, 4, 0, 1]) ws (vs) := ⟨nf_in hl rfl, sgq_1778 (vc_Gr_mayAlter_5_0 (v_iv (n_v vs 1)) (v_iv (n_v vs 2)) (v_iv (n_v vs 3)) (v_iv (n_v vs 8)) (w_fi ws (n_v vs 0) 0) (w_fi ws (n_v vs 0) 2) (w_fi ws (n_v vs 0) 1) k1 k2 k3 k8 kz_0_0 kz_0_1 kz_0_2)⟩
  refine ⟨(fun _ h => (by cases h)), [], trivial, ?_, (fun _ h => (by cases h))⟩
  rw [List.append_nil]
  exact List.forall_mem_cons.mpr ⟨⟨show (20 : Nat) < 100 from by decide, nf0⟩, (fun _ h => (by cases h))⟩
set_option maxHeartbeats 4000000 in
theorem vc_Gr_mayAlter_6_0 (x1 : Int) (x2 : Int) (x3 : Int) (x4 : Int) (x8 : Int) (nodes_0 : Int) (groups_0 : Int) (edges_0 : Int) (k1 : 0 ≤ x1 ∧ x1 ≤ 0) (k2 : 0 ≤ x2 ∧ x2 ≤ 7) (k3 : (-2147483648) ≤ x3 ∧ x3 ≤ 2147483647) (k4 : 1 ≤ x4 ∧ x4 ≤ 1) (k8 : 1 ≤ x8 ∧ x8 ≤ 1) (f0 : nodes_0 ≤ 23) (f1 : (x4 = 1) → ((0 ≤ x2) ∧ ((x2 + 1) ≤ groups_0))) (f3 : x4 ≠ 0) (kz_0_0 : 0 ≤ nodes_0 ∧ nodes_0 ≤ 24) (kz_0_1 : 0 ≤ edges_0 ∧ edges_0 ≤ 48) (kz_0_2 : 0 ≤ groups_0 ∧ groups_0 ≤ 8) : (x8 = 1) → (((x1 = 0) ∧ ((0 ≤ x2) ∧ (((x2 + 1) ≤ groups_0) ∧ (nodes_0 ≤ 23)))) ∨ (((x1 = 1) ∧ ((0 ≤ x2) ∧ (((x2 + 1) ≤ nodes_0) ∧ ((0 ≤ x3) ∧ (((x3 + 1) ≤ nodes_0) ∧ ((edges_0 ≤ 47) ∧ (((x2 + 1) ≤ x3) ∨ ((x3 + 1) ≤ x2)))))))) ∨ (((x1 = 2) ∧ ((0 ≤ x2) ∧ ((x2 + 1) ≤ edges_0))) ∨ (((x1 = 3) ∧ ((0 ≤ x2) ∧ ((x2 + 1) ≤ nodes_0))) ∨ (((x1 = 4) ∧ ((0 ≤ x2) ∧ (((x2 + 1) ≤ nodes_0) ∧ ((1 ≤ x3) ∧ (x3 ≤ 99))))) ∨ (((x1 = 5) ∧ ((0 ≤ x2) ∧ (((x2 + 1) ≤ edges_0) ∧ ((1 ≤ x3) ∧ (x3 ≤ 9))))) ∨ (((x1 = 6) ∧ ((0 ≤ x2) ∧ (((x2 + 1) ≤ nodes_0) ∧ ((0 ≤ x3) ∧ ((x3 + 1) ≤ groups_0))))) ∨ ((x1 = 7) ∧ ((0 ≤ x2) ∧ (((x2 + 1) ≤ edges_0) ∧ ((0 ≤ x3) ∧ (x3 ≤ 1)))))))))))) := by
  first
    | (intro h; exfalso; omega)
    | (intro h; left; omega)
    | (intro h; right; left; omega)
    | (intro h; right; right; left; omega)
    | (intro h; right; right; right; left; omega)
    | (intro h; right; right; right; right; left; omega)
    | (intro h; right; right; right; right; right; left; omega)
    | (intro h; right; right; right; right; right; right; left; omega)
    | (intro h; right; right; right; right; right; right; right; omega)
    | omega
  
def o_Gr_mayAlter_6 : or_T := (77, 9, [(0, (2, 0, 0, [3])), (1, (0, 0, 0, [])), (2, (0, 0, 7, [])), (3, (0, -2147483648, 2147483647, [])), (4, (0, 1, 1, [])), (8, (0, 1, 1, []))], [(20, [0], [50, 1, 0, 0, 0, 3, 2, 0, 0, 0, 23]), (20, [4, 2, 0], [50, 1, 0, 2002, 4, 6, 1, 2, 1, 0, 0, 1, 2, 6, 0, 2, 0, 0, 1, 1, 0, 6, 4, 2, 1, 1, 0, 1, 2, 2, 2]), (102, [6], [381944245562716141175333566576758405197150323812363046994276334253946493705625632409387008]), (8, [4], [1])], [], [], [(20, [8, 1, 2, 0, 3], [50, 3, 0, 3002, 3000, 3001, 4, 6, 1, 2, 1, 0, 0, 1, 3, 36, 2, 6, 1, 2, 1, 1, 0, 0, 2, 6, 0, 2, 0, 0, 1, 2, 2, 11, 0, 6, 4, 2, 1, 2, 0, 1, 2, 3, 2, 0, 3, 2, 3, 0, 0, 23, 3, 81, 2, 6, 1, 2, 1, 1, 0, 1, 2, 6, 0, 2, 0, 0, 1, 2, 2, 11, 0, 6, 4, 2, 1, 2, 0, 1, 2, 3, 0, 2, 6, 0, 2, 0, 0, 1, 4, 2, 11, 0, 6, 4, 2, 1, 4, 0, 1, 2, 3, 0, 2, 7, 0, 3, 2, 3, 1, 0, 47, 3, 10, 0, 6, 4, 2, 1, 2, 0, 1, 1, 4, 0, 6, 4, 2, 1, 4, 0, 1, 1, 2, 3, 27, 2, 6, 1, 2, 1, 1, 0, 2, 2, 6, 0, 2, 0, 0, 1, 2, 0, 6, 4, 2, 1, 2, 0, 1, 2, 3, 1, 3, 27, 2, 6, 1, 2, 1, 1, 0, 3, 2, 6, 0, 2, 0, 0, 1, 2, 0, 6, 4, 2, 1, 2, 0, 1, 2, 3, 0, 3, 43, 2, 6, 1, 2, 1, 1, 0, 4, 2, 6, 0, 2, 0, 0, 1, 2, 2, 11, 0, 6, 4, 2, 1, 2, 0, 1, 2, 3, 0, 2, 6, 0, 2, 0, 1, 1, 4, 0, 2, 1, 4, 0, 99, 3, 43, 2, 6, 1, 2, 1, 1, 0, 5, 2, 6, 0, 2, 0, 0, 1, 2, 2, 11, 0, 6, 4, 2, 1, 2, 0, 1, 2, 3, 1, 2, 6, 0, 2, 0, 1, 1, 4, 0, 2, 1, 4, 0, 9, 3, 48, 2, 6, 1, 2, 1, 1, 0, 6, 2, 6, 0, 2, 0, 0, 1, 2, 2, 11, 0, 6, 4, 2, 1, 2, 0, 1, 2, 3, 0, 2, 6, 0, 2, 0, 0, 1, 4, 0, 6, 4, 2, 1, 4, 0, 1, 2, 3, 2, 2, 6, 1, 2, 1, 1, 0, 7, 2, 6, 0, 2, 0, 0, 1, 2, 2, 11, 0, 6, 4, 2, 1, 2, 0, 1, 2, 3, 1, 2, 6, 0, 2, 0, 0, 1, 4, 0, 2, 1, 4, 0, 1])], [], [])
theorem oo_Gr_mayAlter_6 {kA : Nat → ClassId} : or_ok PRD kA GG o_Gr_mayAlter_6 := by
  refine or_mk fun A ta ws vs hD hth hl => ?_
  intro t0 r0 t1 k1 t2 k2 t3 k3 t4 k4 t8 k8 f0 f1 ta1 w1 le1 s1 f3
  have kz_0_0 := fdq_21 hD hth r0
  have kz_0_1 := fdq_30 hD hth r0
  have kz_0_2 := fdq_20 hD hth r0
  have nf0 : fc_1 PRD (20, [8, 1, 2, 0, 3], [50, 3, 0, 3002, 3000, 3001, 4, 6, 1, 2, 1, 0, 0, 1, 3, 36, 2, 6, 1, 2, 1, 1, 0, 0, 2, 6, 0, 2, 0, 0, 1, 2, 2, 11, 0, 6, 4, 2, 1, 2, 0, 1, 2, 3, 2, 0, 3, 2, 3, 0, 0, 23, 3, 81, 2, 6, 1, 2, 1, 1, 0, 1, 2, 6, 0, 2, 0, 0, 1, 2, 2, 11, 0, 6, 4, 2, 1, 2, 0, 1, 2, 3, 0, 2, 6, 0, 2, 0, 0, 1, 4, 2, 11, 0, 6, 4, 2, 1, 4, 0, 1, 2, 3, 0, 2, 7, 0, 3, 2, 3, 1, 0, 47, 3, 10, 0, 6, 4, 2, 1, 2, 0, 1, 1, 4, 0, 6, 4, 2, 1, 4, 0, 1, 1, 2, 3, 27, 2, 6, 1, 2, 1, 1, 0, 2, 2, 6, 0, 2, 0, 0, 1, 2, 0, 6, 4, 2, 1, 2, 0, 1, 2, 3, 1, 3, 27, 2, 6, 1, 2, 1, 1, 0, 3, 2, 6, 0, 2, 0, 0, 1, 2, 0, 6, 4, 2, 1, 2, 0, 1, 2, 3, 0, 3, 43, 2, 6, 1, 2, 1, 1, 0, 4, 2, 6, 0, 2, 0, 0, 1, 2, 2, 11, 0, 6, 4, 2, 1, 2, 0, 1, 2, 3, 0, 2, 6, 0, 2, 0, 1, 1, 4, 0, 2, 1, 4, 0, 99, 3, 43, 2, 6, 1, 2, 1, 1, 0, 5, 2, 6, 0, 2, 0, 0, 1, 2, 2, 11, 0, 6, 4, 2, 1, 2, 0, 1, 2, 3, 1, 2, 6, 0, 2, 0, 1, 1, 4, 0, 2, 1, 4, 0, 9, 3, 48, 2, 6, 1, 2, 1, 1, 0, 6, 2, 6, 0, 2, 0, 0, 1, 2, 2, 11, 0, 6, 4, 2, 1, 2, 0, 1, 2, 3, 0, 2, 6, 0, 2, 0, 0, 1, 4, 0, 6, 4, 2, 1, 4, 0, 1, 2, 3, 2, 2, 6, 1, 2, 1, 1, 0, 7, 2, 6, 0, 2, 0, 0, 1, 2, 2, 11, 0, 6, 4, 2, 1, 2, 0, 1, 2, 3, 1, 2, 6, 0, 2, 0, 0, 1, 4, 0, 2, 1, 4, 0, 1]) ws (vs) := ⟨nf_in hl rfl, sgq_1778 (vc_Gr_mayAlter_6_0 (v_iv (n_v vs 1)) (v_iv (n_v vs 2)) (v_iv (n_v vs 3)) (v_iv (n_v vs 4)) (v_iv (n_v vs 8)) (w_fi ws (n_v vs 0) 0) (w_fi ws (n_v vs 0) 2) (w_fi ws (n_v vs 0) 1) k1 k2 k3 k4 k8 (shm_832 f0) (shm_380 f1) (shm_142 f3) kz_0_0 kz_0_1 kz_0_2)⟩
  refine ⟨(fun _ h => (by cases h)), [], trivial, ?_, (fun _ h => (by cases h))⟩
  rw [List.append_nil]
  exact List.forall_mem_cons.mpr ⟨⟨show (20 : Nat) < 100 from by decide, nf0⟩, (fun _ h => (by cases h))⟩
set_option maxHeartbeats 4000000 in
theorem vc_Gr_mayAlter_7_0 (x1 : Int) (x2 : Int) (x3 : Int) (x5 : Int) (nodes_0 : Int) (edges_0 : Int) (groups_0 : Int) (k1 : 1 ≤ x1 ∧ x1 ≤ 1) (k2 : (-2147483648) ≤ x2 ∧ x2 ≤ (-1)) (k3 : (-2147483648) ≤ x3 ∧ x3 ≤ 2147483647) (k5 : 0 ≤ x5 ∧ x5 ≤ 0) (kz_0_0 : 0 ≤ nodes_0 ∧ nodes_0 ≤ 24) (kz_0_1 : 0 ≤ edges_0 ∧ edges_0 ≤ 48) (kz_0_2 : 0 ≤ groups_0 ∧ groups_0 ≤ 8) : (x5 = 1) → (((x1 = 0) ∧ ((0 ≤ x2) ∧ (((x2 + 1) ≤ groups_0) ∧ (nodes_0 ≤ 23)))) ∨ (((x1 = 1) ∧ ((0 ≤ x2) ∧ (((x2 + 1) ≤ nodes_0) ∧ ((0 ≤ x3) ∧ (((x3 + 1) ≤ nodes_0) ∧ ((edges_0 ≤ 47) ∧ (((x2 + 1) ≤ x3) ∨ ((x3 + 1) ≤ x2)))))))) ∨ (((x1 = 2) ∧ ((0 ≤ x2) ∧ ((x2 + 1) ≤ edges_0))) ∨ (((x1 = 3) ∧ ((0 ≤ x2) ∧ ((x2 + 1) ≤ nodes_0))) ∨ (((x1 = 4) ∧ ((0 ≤ x2) ∧ (((x2 + 1) ≤ nodes_0) ∧ ((1 ≤ x3) ∧ (x3 ≤ 99))))) ∨ (((x1 = 5) ∧ ((0 ≤ x2) ∧ (((x2 + 1) ≤ edges_0) ∧ ((1 ≤ x3) ∧ (x3 ≤ 9))))) ∨ (((x1 = 6) ∧ ((0 ≤ x2) ∧ (((x2 + 1) ≤ nodes_0) ∧ ((0 ≤ x3) ∧ ((x3 + 1) ≤ groups_0))))) ∨ ((x1 = 7) ∧ ((0 ≤ x2) ∧ (((x2 + 1) ≤ edges_0) ∧ ((0 ≤ x3) ∧ (x3 ≤ 1)))))))))))) := by
  first
    | (intro h; exfalso; omega)
    | (intro h; left; omega)
    | (intro h; right; left; omega)
    | (intro h; right; right; left; omega)
    | (intro h; right; right; right; left; omega)
    | (intro h; right; right; right; right; left; omega)
    | (intro h; right; right; right; right; right; left; omega)
    | (intro h; right; right; right; right; right; right; left; omega)
    | (intro h; right; right; right; right; right; right; right; omega)
    | omega
  
def o_Gr_mayAlter_7 : or_T := (123, 6, [(0, (2, 0, 0, [3])), (1, (0, 1, 1, [])), (2, (0, -2147483648, -1, [])), (3, (0, -2147483648, 2147483647, [])), (4, (0, 0, 0, [])), (5, (0, 0, 0, []))], [(8, [4], [0]), (20, [4, 2, 0], [50, 1, 0, 2000, 4, 6, 1, 2, 1, 0, 0, 1, 2, 6, 0, 2, 0, 0, 1, 1, 0, 6, 4, 2, 1, 1, 0, 1, 2, 2, 0])], [], [], [(20, [5, 1, 2, 0, 3], [50, 3, 0, 3002, 3000, 3001, 4, 6, 1, 2, 1, 0, 0, 1, 3, 36, 2, 6, 1, 2, 1, 1, 0, 0, 2, 6, 0, 2, 0, 0, 1, 2, 2, 11, 0, 6, 4, 2, 1, 2, 0, 1, 2, 3, 2, 0, 3, 2, 3, 0, 0, 23, 3, 81, 2, 6, 1, 2, 1, 1, 0, 1, 2, 6, 0, 2, 0, 0, 1, 2, 2, 11, 0, 6, 4, 2, 1, 2, 0, 1, 2, 3, 0, 2, 6, 0, 2, 0, 0, 1, 4, 2, 11, 0, 6, 4, 2, 1, 4, 0, 1, 2, 3, 0, 2, 7, 0, 3, 2, 3, 1, 0, 47, 3, 10, 0, 6, 4, 2, 1, 2, 0, 1, 1, 4, 0, 6, 4, 2, 1, 4, 0, 1, 1, 2, 3, 27, 2, 6, 1, 2, 1, 1, 0, 2, 2, 6, 0, 2, 0, 0, 1, 2, 0, 6, 4, 2, 1, 2, 0, 1, 2, 3, 1, 3, 27, 2, 6, 1, 2, 1, 1, 0, 3, 2, 6, 0, 2, 0, 0, 1, 2, 0, 6, 4, 2, 1, 2, 0, 1, 2, 3, 0, 3, 43, 2, 6, 1, 2, 1, 1, 0, 4, 2, 6, 0, 2, 0, 0, 1, 2, 2, 11, 0, 6, 4, 2, 1, 2, 0, 1, 2, 3, 0, 2, 6, 0, 2, 0, 1, 1, 4, 0, 2, 1, 4, 0, 99, 3, 43, 2, 6, 1, 2, 1, 1, 0, 5, 2, 6, 0, 2, 0, 0, 1, 2, 2, 11, 0, 6, 4, 2, 1, 2, 0, 1, 2, 3, 1, 2, 6, 0, 2, 0, 1, 1, 4, 0, 2, 1, 4, 0, 9, 3, 48, 2, 6, 1, 2, 1, 1, 0, 6, 2, 6, 0, 2, 0, 0, 1, 2, 2, 11, 0, 6, 4, 2, 1, 2, 0, 1, 2, 3, 0, 2, 6, 0, 2, 0, 0, 1, 4, 0, 6, 4, 2, 1, 4, 0, 1, 2, 3, 2, 2, 6, 1, 2, 1, 1, 0, 7, 2, 6, 0, 2, 0, 0, 1, 2, 2, 11, 0, 6, 4, 2, 1, 2, 0, 1, 2, 3, 1, 2, 6, 0, 2, 0, 0, 1, 4, 0, 2, 1, 4, 0, 1])], [], [])
theorem oo_Gr_mayAlter_7 {kA : Nat → ClassId} : or_ok PRD kA GG o_Gr_mayAlter_7 := by
  refine or_mk fun A ta ws vs hD hth hl => ?_
  intro t0 r0 t1 k1 t2 k2 t3 k3 t4 k4 t5 k5 f0 f1
  have kz_0_0 := fdq_21 hD hth r0
  have kz_0_1 := fdq_30 hD hth r0
  have kz_0_2 := fdq_20 hD hth r0
  have nf0 : fc_1 PRD (20, [5, 1, 2, 0, 3], [50, 3, 0, 3002, 3000, 3001, 4, 6, 1, 2, 1, 0, 0, 1, 3, 36, 2, 6, 1, 2, 1, 1, 0, 0, 2, 6, 0, 2, 0, 0, 1, 2, 2, 11, 0, 6, 4, 2, 1, 2, 0, 1, 2, 3, 2, 0, 3, 2, 3, 0, 0, 23, 3, 81, 2, 6, 1, 2, 1, 1, 0, 1, 2, 6, 0, 2, 0, 0, 1, 2, 2, 11, 0, 6, 4, 2, 1, 2, 0, 1, 2, 3, 0, 2, 6, 0, 2, 0, 0, 1, 4, 2, 11, 0, 6, 4, 2, 1, 4, 0, 1, 2, 3, 0, 2, 7, 0, 3, 2, 3, 1, 0, 47, 3, 10, 0, 6, 4, 2, 1, 2, 0, 1, 1, 4, 0, 6, 4, 2, 1, 4, 0, 1, 1, 2, 3, 27, 2, 6, 1, 2, 1, 1, 0, 2, 2, 6, 0, 2, 0, 0, 1, 2, 0, 6, 4, 2, 1, 2, 0, 1, 2, 3, 1, 3, 27, 2, 6, 1, 2, 1, 1, 0, 3, 2, 6, 0, 2, 0, 0, 1, 2, 0, 6, 4, 2, 1, 2, 0, 1, 2, 3, 0, 3, 43, 2, 6, 1, 2, 1, 1, 0, 4, 2, 6, 0, 2, 0, 0, 1, 2, 2, 11, 0, 6, 4, 2, 1, 2, 0, 1, 2, 3, 0, 2, 6, 0, 2, 0, 1, 1, 4, 0, 2, 1, 4, 0, 99, 3, 43, 2, 6, 1, 2, 1, 1, 0, 5, 2, 6, 0, 2, 0, 0, 1, 2, 2, 11, 0, 6, 4, 2, 1, 2, 0, 1, 2, 3, 1, 2, 6, 0, 2, 0, 1, 1, 4, 0, 2, 1, 4, 0, 9, 3, 48, 2, 6, 1, 2, 1, 1, 0, 6, 2, 6, 0, 2, 0, 0, 1, 2, 2, 11, 0, 6, 4, 2, 1, 2, 0, 1, 2, 3, 0, 2, 6, 0, 2, 0, 0, 1, 4, 0, 6, 4, 2, 1, 4, 0, 1, 2, 3, 2, 2, 6, 1, 2, 1, 1, 0, 7, 2, 6, 0, 2, 0, 0, 1, 2, 2, 11, 0, 6, 4, 2, 1, 2, 0, 1, 2, 3, 1, 2, 6, 0, 2, 0, 0, 1, 4, 0, 2, 1, 4, 0, 1]) ws (vs) := ⟨nf_in hl rfl, sgq_1778 (vc_Gr_mayAlter_7_0 (v_iv (n_v vs 1)) (v_iv (n_v vs 2)) (v_iv (n_v vs 3)) (v_iv (n_v vs 5)) (w_fi ws (n_v vs 0) 0) (w_fi ws (n_v vs 0) 1) (w_fi ws (n_v vs 0) 2) k1 k2 k3 k5 kz_0_0 kz_0_1 kz_0_2)⟩
  refine ⟨(fun _ h => (by cases h)), [], trivial, ?_, (fun _ h => (by cases h))⟩
  rw [List.append_nil]
  exact List.forall_mem_cons.mpr ⟨⟨show (20 : Nat) < 100 from by decide, nf0⟩, (fun _ h => (by cases h))⟩
set_option maxHeartbeats 4000000 in
theorem vc_Gr_mayAlter_8_0 (x1 : Int) (x2 : Int) (x3 : Int) (x5 : Int) (nodes_0 : Int) (edges_0 : Int) (groups_0 : Int) (k1 : 1 ≤ x1 ∧ x1 ≤ 1) (k2 : 0 ≤ x2 ∧ x2 ≤ 2147483647) (k3 : (-2147483648) ≤ x3 ∧ x3 ≤ 2147483647) (k5 : 0 ≤ x5 ∧ x5 ≤ 0) (kz_0_0 : 0 ≤ nodes_0 ∧ nodes_0 ≤ 24) (kz_0_1 : 0 ≤ edges_0 ∧ edges_0 ≤ 48) (kz_0_2 : 0 ≤ groups_0 ∧ groups_0 ≤ 8) : (x5 = 1) → (((x1 = 0) ∧ ((0 ≤ x2) ∧ (((x2 + 1) ≤ groups_0) ∧ (nodes_0 ≤ 23)))) ∨ (((x1 = 1) ∧ ((0 ≤ x2) ∧ (((x2 + 1) ≤ nodes_0) ∧ ((0 ≤ x3) ∧ (((x3 + 1) ≤ nodes_0) ∧ ((edges_0 ≤ 47) ∧ (((x2 + 1) ≤ x3) ∨ ((x3 + 1) ≤ x2)))))))) ∨ (((x1 = 2) ∧ ((0 ≤ x2) ∧ ((x2 + 1) ≤ edges_0))) ∨ (((x1 = 3) ∧ ((0 ≤ x2) ∧ ((x2 + 1) ≤ nodes_0))) ∨ (((x1 = 4) ∧ ((0 ≤ x2) ∧ (((x2 + 1) ≤ nodes_0) ∧ ((1 ≤ x3) ∧ (x3 ≤ 99))))) ∨ (((x1 = 5) ∧ ((0 ≤ x2) ∧ (((x2 + 1) ≤ edges_0) ∧ ((1 ≤ x3) ∧ (x3 ≤ 9))))) ∨ (((x1 = 6) ∧ ((0 ≤ x2) ∧ (((x2 + 1) ≤ nodes_0) ∧ ((0 ≤ x3) ∧ ((x3 + 1) ≤ groups_0))))) ∨ ((x1 = 7) ∧ ((0 ≤ x2) ∧ (((x2 + 1) ≤ edges_0) ∧ ((0 ≤ x3) ∧ (x3 ≤ 1)))))))))))) := by
  first
    | (intro h; exfalso; omega)
    | (intro h; left; omega)
    | (intro h; right; left; omega)
    | (intro h; right; right; left; omega)
    | (intro h; right; right; right; left; omega)
    | (intro h; right; right; right; right; left; omega)
    | (intro h; right; right; right; right; right; left; omega)
    | (intro h; right; right; right; right; right; right; left; omega)
    | (intro h; right; right; right; right; right; right; right; omega)
    | omega
  
def o_Gr_mayAlter_8 : or_T := (123, 6, [(0, (2, 0, 0, [3])), (1, (0, 1, 1, [])), (2, (0, 0, 2147483647, [])), (3, (0, -2147483648, 2147483647, [])), (4, (0, 0, 0, [])), (5, (0, 0, 0, []))], [(8, [4], [0]), (20, [4, 2, 0], [50, 1, 0, 2000, 4, 6, 1, 2, 1, 0, 0, 1, 2, 6, 0, 2, 0, 0, 1, 1, 0, 6, 4, 2, 1, 1, 0, 1, 2, 2, 0])], [], [], [(20, [5, 1, 2, 0, 3], [50, 3, 0, 3002, 3000, 3001, 4, 6, 1, 2, 1, 0, 0, 1, 3, 36, 2, 6, 1, 2, 1, 1, 0, 0, 2, 6, 0, 2, 0, 0, 1, 2, 2, 11, 0, 6, 4, 2, 1, 2, 0, 1, 2, 3, 2, 0, 3, 2, 3, 0, 0, 23, 3, 81, 2, 6, 1, 2, 1, 1, 0, 1, 2, 6, 0, 2, 0, 0, 1, 2, 2, 11, 0, 6, 4, 2, 1, 2, 0, 1, 2, 3, 0, 2, 6, 0, 2, 0, 0, 1, 4, 2, 11, 0, 6, 4, 2, 1, 4, 0, 1, 2, 3, 0, 2, 7, 0, 3, 2, 3, 1, 0, 47, 3, 10, 0, 6, 4, 2, 1, 2, 0, 1, 1, 4, 0, 6, 4, 2, 1, 4, 0, 1, 1, 2, 3, 27, 2, 6, 1, 2, 1, 1, 0, 2, 2, 6, 0, 2, 0, 0, 1, 2, 0, 6, 4, 2, 1, 2, 0, 1, 2, 3, 1, 3, 27, 2, 6, 1, 2, 1, 1, 0, 3, 2, 6, 0, 2, 0, 0, 1, 2, 0, 6, 4, 2, 1, 2, 0, 1, 2, 3, 0, 3, 43, 2, 6, 1, 2, 1, 1, 0, 4, 2, 6, 0, 2, 0, 0, 1, 2, 2, 11, 0, 6, 4, 2, 1, 2, 0, 1, 2, 3, 0, 2, 6, 0, 2, 0, 1, 1, 4, 0, 2, 1, 4, 0, 99, 3, 43, 2, 6, 1, 2, 1, 1, 0, 5, 2, 6, 0, 2, 0, 0, 1, 2, 2, 11, 0, 6, 4, 2, 1, 2, 0, 1, 2, 3, 1, 2, 6, 0, 2, 0, 1, 1, 4, 0, 2, 1, 4, 0, 9, 3, 48, 2, 6, 1, 2, 1, 1, 0, 6, 2, 6, 0, 2, 0, 0, 1, 2, 2, 11, 0, 6, 4, 2, 1, 2, 0, 1, 2, 3, 0, 2, 6, 0, 2, 0, 0, 1, 4, 0, 6, 4, 2, 1, 4, 0, 1, 2, 3, 2, 2, 6, 1, 2, 1, 1, 0, 7, 2, 6, 0, 2, 0, 0, 1, 2, 2, 11, 0, 6, 4, 2, 1, 2, 0, 1, 2, 3, 1, 2, 6, 0, 2, 0, 0, 1, 4, 0, 2, 1, 4, 0, 1])], [], [])
theorem oo_Gr_mayAlter_8 {kA : Nat → ClassId} : or_ok PRD kA GG o_Gr_mayAlter_8 := by
  refine or_mk fun A ta ws vs hD hth hl => ?_
  intro t0 r0 t1 k1 t2 k2 t3 k3 t4 k4 t5 k5 f0 f1
  have kz_0_0 := fdq_21 hD hth r0
  have kz_0_1 := fdq_30 hD hth r0
  have kz_0_2 := fdq_20 hD hth r0
  have nf0 : fc_1 PRD (20, [5, 1, 2, 0, 3], [50, 3, 0, 3002, 3000, 3001, 4, 6, 1, 2, 1, 0, 0, 1, 3, 36, 2, 6, 1, 2, 1, 1, 0, 0, 2, 6, 0, 2, 0, 0, 1, 2, 2, 11, 0, 6, 4, 2, 1, 2, 0, 1, 2, 3, 2, 0, 3, 2, 3, 0, 0, 23, 3, 81, 2, 6, 1, 2, 1, 1, 0, 1, 2, 6, 0, 2, 0, 0, 1, 2, 2, 11, 0, 6, 4, 2, 1, 2, 0, 1, 2, 3, 0, 2, 6, 0, 2, 0, 0, 1, 4, 2, 11, 0, 6, 4, 2, 1, 4, 0, 1, 2, 3, 0, 2, 7, 0, 3, 2, 3, 1, 0, 47, 3, 10, 0, 6, 4, 2, 1, 2, 0, 1, 1, 4, 0, 6, 4, 2, 1, 4, 0, 1, 1, 2, 3, 27, 2, 6, 1, 2, 1, 1, 0, 2, 2, 6, 0, 2, 0, 0, 1, 2, 0, 6, 4, 2, 1, 2, 0, 1, 2, 3, 1, 3, 27, 2, 6, 1, 2, 1, 1, 0, 3, 2, 6, 0, 2, 0, 0, 1, 2, 0, 6, 4, 2, 1, 2, 0, 1, 2, 3, 0, 3, 43, 2, 6, 1, 2, 1, 1, 0, 4, 2, 6, 0, 2, 0, 0, 1, 2, 2, 11, 0, 6, 4, 2, 1, 2, 0, 1, 2, 3, 0, 2, 6, 0, 2, 0, 1, 1, 4, 0, 2, 1, 4, 0, 99, 3, 43, 2, 6, 1, 2, 1, 1, 0, 5, 2, 6, 0, 2, 0, 0, 1, 2, 2, 11, 0, 6, 4, 2, 1, 2, 0, 1, 2, 3, 1, 2, 6, 0, 2, 0, 1, 1, 4, 0, 2, 1, 4, 0, 9, 3, 48, 2, 6, 1, 2, 1, 1, 0, 6, 2, 6, 0, 2, 0, 0, 1, 2, 2, 11, 0, 6, 4, 2, 1, 2, 0, 1, 2, 3, 0, 2, 6, 0, 2, 0, 0, 1, 4, 0, 6, 4, 2, 1, 4, 0, 1, 2, 3, 2, 2, 6, 1, 2, 1, 1, 0, 7, 2, 6, 0, 2, 0, 0, 1, 2, 2, 11, 0, 6, 4, 2, 1, 2, 0, 1, 2, 3, 1, 2, 6, 0, 2, 0, 0, 1, 4, 0, 2, 1, 4, 0, 1]) ws (vs) := ⟨nf_in hl rfl, sgq_1778 (vc_Gr_mayAlter_8_0 (v_iv (n_v vs 1)) (v_iv (n_v vs 2)) (v_iv (n_v vs 3)) (v_iv (n_v vs 5)) (w_fi ws (n_v vs 0) 0) (w_fi ws (n_v vs 0) 1) (w_fi ws (n_v vs 0) 2) k1 k2 k3 k5 kz_0_0 kz_0_1 kz_0_2)⟩
  refine ⟨(fun _ h => (by cases h)), [], trivial, ?_, (fun _ h => (by cases h))⟩
  rw [List.append_nil]
  exact List.forall_mem_cons.mpr ⟨⟨show (20 : Nat) < 100 from by decide, nf0⟩, (fun _ h => (by cases h))⟩
set_option maxHeartbeats 4000000 in
theorem vc_Gr_mayAlter_9_0 (x1 : Int) (x2 : Int) (x3 : Int) (x6 : Int) (nodes_0 : Int) (edges_0 : Int) (groups_0 : Int) (k1 : 1 ≤ x1 ∧ x1 ≤ 1) (k2 : 0 ≤ x2 ∧ x2 ≤ 23) (k3 : (-2147483648) ≤ x3 ∧ x3 ≤ (-1)) (k6 : 0 ≤ x6 ∧ x6 ≤ 0) (kz_0_0 : 0 ≤ nodes_0 ∧ nodes_0 ≤ 24) (kz_0_1 : 0 ≤ edges_0 ∧ edges_0 ≤ 48) (kz_0_2 : 0 ≤ groups_0 ∧ groups_0 ≤ 8) : (x6 = 1) → (((x1 = 0) ∧ ((0 ≤ x2) ∧ (((x2 + 1) ≤ groups_0) ∧ (nodes_0 ≤ 23)))) ∨ (((x1 = 1) ∧ ((0 ≤ x2) ∧ (((x2 + 1) ≤ nodes_0) ∧ ((0 ≤ x3) ∧ (((x3 + 1) ≤ nodes_0) ∧ ((edges_0 ≤ 47) ∧ (((x2 + 1) ≤ x3) ∨ ((x3 + 1) ≤ x2)))))))) ∨ (((x1 = 2) ∧ ((0 ≤ x2) ∧ ((x2 + 1) ≤ edges_0))) ∨ (((x1 = 3) ∧ ((0 ≤ x2) ∧ ((x2 + 1) ≤ nodes_0))) ∨ (((x1 = 4) ∧ ((0 ≤ x2) ∧ (((x2 + 1) ≤ nodes_0) ∧ ((1 ≤ x3) ∧ (x3 ≤ 99))))) ∨ (((x1 = 5) ∧ ((0 ≤ x2) ∧ (((x2 + 1) ≤ edges_0) ∧ ((1 ≤ x3) ∧ (x3 ≤ 9))))) ∨ (((x1 = 6) ∧ ((0 ≤ x2) ∧ (((x2 + 1) ≤ nodes_0) ∧ ((0 ≤ x3) ∧ ((x3 + 1) ≤ groups_0))))) ∨ ((x1 = 7) ∧ ((0 ≤ x2) ∧ (((x2 + 1) ≤ edges_0) ∧ ((0 ≤ x3) ∧ (x3 ≤ 1)))))))))))) := by
  first
    | (intro h; exfalso; omega)
    | (intro h; left; omega)
    | (intro h; right; left; omega)
    | (intro h; right; right; left; omega)
    | (intro h; right; right; right; left; omega)
    | (intro h; right; right; right; right; left; omega)
    | (intro h; right; right; right; right; right; left; omega)
    | (intro h; right; right; right; right; right; right; left; omega)
    | (intro h; right; right; right; right; right; right; right; omega)
    | omega
  
def o_Gr_mayAlter_9 : or_T := (123, 7, [(0, (2, 0, 0, [3])), (1, (0, 1, 1, [])), (2, (0, 0, 23, [])), (3, (0, -2147483648, -1, [])), (4, (0, 1, 1, [])), (5, (0, 0, 0, [])), (6, (0, 0, 0, []))], [(8, [5], [0]), (20, [5, 3, 0], [50, 1, 0, 2000, 4, 6, 1, 2, 1, 0, 0, 1, 2, 6, 0, 2, 0, 0, 1, 1, 0, 6, 4, 2, 1, 1, 0, 1, 2, 2, 0]), (8, [4], [1]), (20, [4, 2, 0], [50, 1, 0, 2000, 4, 6, 1, 2, 1, 0, 0, 1, 2, 6, 0, 2, 0, 0, 1, 1, 0, 6, 4, 2, 1, 1, 0, 1, 2, 2, 0])], [], [], [(20, [6, 1, 2, 0, 3], [50, 3, 0, 3002, 3000, 3001, 4, 6, 1, 2, 1, 0, 0, 1, 3, 36, 2, 6, 1, 2, 1, 1, 0, 0, 2, 6, 0, 2, 0, 0, 1, 2, 2, 11, 0, 6, 4, 2, 1, 2, 0, 1, 2, 3, 2, 0, 3, 2, 3, 0, 0, 23, 3, 81, 2, 6, 1, 2, 1, 1, 0, 1, 2, 6, 0, 2, 0, 0, 1, 2, 2, 11, 0, 6, 4, 2, 1, 2, 0, 1, 2, 3, 0, 2, 6, 0, 2, 0, 0, 1, 4, 2, 11, 0, 6, 4, 2, 1, 4, 0, 1, 2, 3, 0, 2, 7, 0, 3, 2, 3, 1, 0, 47, 3, 10, 0, 6, 4, 2, 1, 2, 0, 1, 1, 4, 0, 6, 4, 2, 1, 4, 0, 1, 1, 2, 3, 27, 2, 6, 1, 2, 1, 1, 0, 2, 2, 6, 0, 2, 0, 0, 1, 2, 0, 6, 4, 2, 1, 2, 0, 1, 2, 3, 1, 3, 27, 2, 6, 1, 2, 1, 1, 0, 3, 2, 6, 0, 2, 0, 0, 1, 2, 0, 6, 4, 2, 1, 2, 0, 1, 2, 3, 0, 3, 43, 2, 6, 1, 2, 1, 1, 0, 4, 2, 6, 0, 2, 0, 0, 1, 2, 2, 11, 0, 6, 4, 2, 1, 2, 0, 1, 2, 3, 0, 2, 6, 0, 2, 0, 1, 1, 4, 0, 2, 1, 4, 0, 99, 3, 43, 2, 6, 1, 2, 1, 1, 0, 5, 2, 6, 0, 2, 0, 0, 1, 2, 2, 11, 0, 6, 4, 2, 1, 2, 0, 1, 2, 3, 1, 2, 6, 0, 2, 0, 1, 1, 4, 0, 2, 1, 4, 0, 9, 3, 48, 2, 6, 1, 2, 1, 1, 0, 6, 2, 6, 0, 2, 0, 0, 1, 2, 2, 11, 0, 6, 4, 2, 1, 2, 0, 1, 2, 3, 0, 2, 6, 0, 2, 0, 0, 1, 4, 0, 6, 4, 2, 1, 4, 0, 1, 2, 3, 2, 2, 6, 1, 2, 1, 1, 0, 7, 2, 6, 0, 2, 0, 0, 1, 2, 2, 11, 0, 6, 4, 2, 1, 2, 0, 1, 2, 3, 1, 2, 6, 0, 2, 0, 0, 1, 4, 0, 2, 1, 4, 0, 1])], [], [])
theorem oo_Gr_mayAlter_9 {kA : Nat → ClassId} : or_ok PRD kA GG o_Gr_mayAlter_9 := by
  refine or_mk fun A ta ws vs hD hth hl => ?_
  intro t0 r0 t1 k1 t2 k2 t3 k3 t4 k4 t5 k5 t6 k6 f0 f1 f2 f3
  have kz_0_0 := fdq_21 hD hth r0
  have kz_0_1 := fdq_30 hD hth r0
  have kz_0_2 := fdq_20 hD hth r0
  have nf0 : fc_1 PRD (20, [6, 1, 2, 0, 3], [50, 3, 0, 3002, 3000, 3001, 4, 6, 1, 2, 1, 0, 0, 1, 3, 36, 2, 6, 1, 2, 1, 1, 0, 0, 2, 6, 0, 2, 0, 0, 1, 2, 2, 11, 0, 6, 4, 2, 1, 2, 0, 1, 2, 3, 2, 0, 3, 2, 3, 0, 0, 23, 3, 81, 2, 6, 1, 2, 1, 1, 0, 1, 2, 6, 0, 2, 0, 0, 1, 2, 2, 11, 0, 6, 4, 2, 1, 2, 0, 1, 2, 3, 0, 2, 6, 0, 2, 0, 0, 1, 4, 2, 11, 0, 6, 4, 2, 1, 4, 0, 1, 2, 3, 0, 2, 7, 0, 3, 2, 3, 1, 0, 47, 3, 10, 0, 6, 4, 2, 1, 2, 0, 1, 1, 4, 0, 6, 4, 2, 1, 4, 0, 1, 1, 2, 3, 27, 2, 6, 1, 2, 1, 1, 0, 2, 2, 6, 0, 2, 0, 0, 1, 2, 0, 6, 4, 2, 1, 2, 0, 1, 2, 3, 1, 3, 27, 2, 6, 1, 2, 1, 1, 0, 3, 2, 6, 0, 2, 0, 0, 1, 2, 0, 6, 4, 2, 1, 2, 0, 1, 2, 3, 0, 3, 43, 2, 6, 1, 2, 1, 1, 0, 4, 2, 6, 0, 2, 0, 0, 1, 2, 2, 11, 0, 6, 4, 2, 1, 2, 0, 1, 2, 3, 0, 2, 6, 0, 2, 0, 1, 1, 4, 0, 2, 1, 4, 0, 99, 3, 43, 2, 6, 1, 2, 1, 1, 0, 5, 2, 6, 0, 2, 0, 0, 1, 2, 2, 11, 0, 6, 4, 2, 1, 2, 0, 1, 2, 3, 1, 2, 6, 0, 2, 0, 1, 1, 4, 0, 2, 1, 4, 0, 9, 3, 48, 2, 6, 1, 2, 1, 1, 0, 6, 2, 6, 0, 2, 0, 0, 1, 2, 2, 11, 0, 6, 4, 2, 1, 2, 0, 1, 2, 3, 0, 2, 6, 0, 2, 0, 0, 1, 4, 0, 6, 4, 2, 1, 4, 0, 1, 2, 3, 2, 2, 6, 1, 2, 1, 1, 0, 7, 2, 6, 0, 2, 0, 0, 1, 2, 2, 11, 0, 6, 4, 2, 1, 2, 0, 1, 2, 3, 1, 2, 6, 0, 2, 0, 0, 1, 4, 0, 2, 1, 4, 0, 1]) ws (vs) := ⟨nf_in hl rfl, sgq_1778 (vc_Gr_mayAlter_9_0 (v_iv (n_v vs 1)) (v_iv (n_v vs 2)) (v_iv (n_v vs 3)) (v_iv (n_v vs 6)) (w_fi ws (n_v vs 0) 0) (w_fi ws (n_v vs 0) 1) (w_fi ws (n_v vs 0) 2) k1 k2 k3 k6 kz_0_0 kz_0_1 kz_0_2)⟩
  refine ⟨(fun _ h => (by cases h)), [], trivial, ?_, (fun _ h => (by cases h))⟩
  rw [List.append_nil]
  exact List.forall_mem_cons.mpr ⟨⟨show (20 : Nat) < 100 from by decide, nf0⟩, (fun _ h => (by cases h))⟩
set_option maxHeartbeats 4000000 in
theorem vc_Gr_mayAlter_10_0 (x1 : Int) (x2 : Int) (x3 : Int) (x6 : Int) (nodes_0 : Int) (edges_0 : Int) (groups_0 : Int) (k1 : 1 ≤ x1 ∧ x1 ≤ 1) (k2 : 0 ≤ x2 ∧ x2 ≤ 23) (k3 : 0 ≤ x3 ∧ x3 ≤ 2147483647) (k6 : 0 ≤ x6 ∧ x6 ≤ 0) (kz_0_0 : 0 ≤ nodes_0 ∧ nodes_0 ≤ 24) (kz_0_1 : 0 ≤ edges_0 ∧ edges_0 ≤ 48) (kz_0_2 : 0 ≤ groups_0 ∧ groups_0 ≤ 8) : (x6 = 1) → (((x1 = 0) ∧ ((0 ≤ x2) ∧ (((x2 + 1) ≤ groups_0) ∧ (nodes_0 ≤ 23)))) ∨ (((x1 = 1) ∧ ((0 ≤ x2) ∧ (((x2 + 1) ≤ nodes_0) ∧ ((0 ≤ x3) ∧ (((x3 + 1) ≤ nodes_0) ∧ ((edges_0 ≤ 47) ∧ (((x2 + 1) ≤ x3) ∨ ((x3 + 1) ≤ x2)))))))) ∨ (((x1 = 2) ∧ ((0 ≤ x2) ∧ ((x2 + 1) ≤ edges_0))) ∨ (((x1 = 3) ∧ ((0 ≤ x2) ∧ ((x2 + 1) ≤ nodes_0))) ∨ (((x1 = 4) ∧ ((0 ≤ x2) ∧ (((x2 + 1) ≤ nodes_0) ∧ ((1 ≤ x3) ∧ (x3 ≤ 99))))) ∨ (((x1 = 5) ∧ ((0 ≤ x2) ∧ (((x2 + 1) ≤ edges_0) ∧ ((1 ≤ x3) ∧ (x3 ≤ 9))))) ∨ (((x1 = 6) ∧ ((0 ≤ x2) ∧ (((x2 + 1) ≤ nodes_0) ∧ ((0 ≤ x3) ∧ ((x3 + 1) ≤ groups_0))))) ∨ ((x1 = 7) ∧ ((0 ≤ x2) ∧ (((x2 + 1) ≤ edges_0) ∧ ((0 ≤ x3) ∧ (x3 ≤ 1)))))))))))) := by
  first
    | (intro h; exfalso; omega)
    | (intro h; left; omega)
    | (intro h; right; left; omega)
    | (intro h; right; right; left; omega)
    | (intro h; right; right; right; left; omega)
    | (intro h; right; right; right; right; left; omega)
    | (intro h; right; right; right; right; right; left; omega)
    | (intro h; right; right; right; right; right; right; left; omega)
    | (intro h; right; right; right; right; right; right; right; omega)
    | omega
  
def o_Gr_mayAlter_10 : or_T := (123, 7, [(0, (2, 0, 0, [3])), (1, (0, 1, 1, [])), (2, (0, 0, 23, [])), (3, (0, 0, 2147483647, [])), (4, (0, 1, 1, [])), (5, (0, 0, 0, [])), (6, (0, 0, 0, []))], [(8, [5], [0]), (20, [5, 3, 0], [50, 1, 0, 2000, 4, 6, 1, 2, 1, 0, 0, 1, 2, 6, 0, 2, 0, 0, 1, 1, 0, 6, 4, 2, 1, 1, 0, 1, 2, 2, 0]), (8, [4], [1]), (20, [4, 2, 0], [50, 1, 0, 2000, 4, 6, 1, 2, 1, 0, 0, 1, 2, 6, 0, 2, 0, 0, 1, 1, 0, 6, 4, 2, 1, 1, 0, 1, 2, 2, 0])], [], [], [(20, [6, 1, 2, 0, 3], [50, 3, 0, 3002, 3000, 3001, 4, 6, 1, 2, 1, 0, 0, 1, 3, 36, 2, 6, 1, 2, 1, 1, 0, 0, 2, 6, 0, 2, 0, 0, 1, 2, 2, 11, 0, 6, 4, 2, 1, 2, 0, 1, 2, 3, 2, 0, 3, 2, 3, 0, 0, 23, 3, 81, 2, 6, 1, 2, 1, 1, 0, 1, 2, 6, 0, 2, 0, 0, 1, 2, 2, 11, 0, 6, 4, 2, 1, 2, 0, 1, 2, 3, 0, 2, 6, 0, 2, 0, 0, 1, 4, 2, 11, 0, 6, 4, 2, 1, 4, 0, 1, 2, 3, 0, 2, 7, 0, 3, 2, 3, 1, 0, 47, 3, 10, 0, 6, 4, 2, 1, 2, 0, 1, 1, 4, 0, 6, 4, 2, 1, 4, 0, 1, 1, 2, 3, 27, 2, 6, 1, 2, 1, 1, 0, 2, 2, 6, 0, 2, 0, 0, 1, 2, 0, 6, 4, 2, 1, 2, 0, 1, 2, 3, 1, 3, 27, 2, 6, 1, 2, 1, 1, 0, 3, 2, 6, 0, 2, 0, 0, 1, 2, 0, 6, 4, 2, 1, 2, 0, 1, 2, 3, 0, 3, 43, 2, 6, 1, 2, 1, 1, 0, 4, 2, 6, 0, 2, 0, 0, 1, 2, 2, 11, 0, 6, 4, 2, 1, 2, 0, 1, 2, 3, 0, 2, 6, 0, 2, 0, 1, 1, 4, 0, 2, 1, 4, 0, 99, 3, 43, 2, 6, 1, 2, 1, 1, 0, 5, 2, 6, 0, 2, 0, 0, 1, 2, 2, 11, 0, 6, 4, 2, 1, 2, 0, 1, 2, 3, 1, 2, 6, 0, 2, 0, 1, 1, 4, 0, 2, 1, 4, 0, 9, 3, 48, 2, 6, 1, 2, 1, 1, 0, 6, 2, 6, 0, 2, 0, 0, 1, 2, 2, 11, 0, 6, 4, 2, 1, 2, 0, 1, 2, 3, 0, 2, 6, 0, 2, 0, 0, 1, 4, 0, 6, 4, 2, 1, 4, 0, 1, 2, 3, 2, 2, 6, 1, 2, 1, 1, 0, 7, 2, 6, 0, 2, 0, 0, 1, 2, 2, 11, 0, 6, 4, 2, 1, 2, 0, 1, 2, 3, 1, 2, 6, 0, 2, 0, 0, 1, 4, 0, 2, 1, 4, 0, 1])], [], [])
theorem oo_Gr_mayAlter_10 {kA : Nat → ClassId} : or_ok PRD kA GG o_Gr_mayAlter_10 := by
  refine or_mk fun A ta ws vs hD hth hl => ?_
  intro t0 r0 t1 k1 t2 k2 t3 k3 t4 k4 t5 k5 t6 k6 f0 f1 f2 f3
  have kz_0_0 := fdq_21 hD hth r0
  have kz_0_1 := fdq_30 hD hth r0
  have kz_0_2 := fdq_20 hD hth r0
  have nf0 : fc_1 PRD (20, [6, 1, 2, 0, 3], [50, 3, 0, 3002, 3000, 3001, 4, 6, 1, 2, 1, 0, 0, 1, 3, 36, 2, 6, 1, 2, 1, 1, 0, 0, 2, 6, 0, 2, 0, 0, 1, 2, 2, 11, 0, 6, 4, 2, 1, 2, 0, 1, 2, 3, 2, 0, 3, 2, 3, 0, 0, 23, 3, 81, 2, 6, 1, 2, 1, 1, 0, 1, 2, 6, 0, 2, 0, 0, 1, 2, 2, 11, 0, 6, 4, 2, 1, 2, 0, 1, 2, 3, 0, 2, 6, 0, 2, 0, 0, 1, 4, 2, 11, 0, 6, 4, 2, 1, 4, 0, 1, 2, 3, 0, 2, 7, 0, 3, 2, 3, 1, 0, 47, 3, 10, 0, 6, 4, 2, 1, 2, 0, 1, 1, 4, 0, 6, 4, 2, 1, 4, 0, 1, 1, 2, 3, 27, 2, 6, 1, 2, 1, 1, 0, 2, 2, 6, 0, 2, 0, 0, 1, 2, 0, 6, 4, 2, 1, 2, 0, 1, 2, 3, 1, 3, 27, 2, 6, 1, 2, 1, 1, 0, 3, 2, 6, 0, 2, 0, 0, 1, 2, 0, 6, 4, 2, 1, 2, 0, 1, 2, 3, 0, 3, 43, 2, 6, 1, 2, 1, 1, 0, 4, 2, 6, 0, 2, 0, 0, 1, 2, 2, 11, 0, 6, 4, 2, 1, 2, 0, 1, 2, 3, 0, 2, 6, 0, 2, 0, 1, 1, 4, 0, 2, 1, 4, 0, 99, 3, 43, 2, 6, 1, 2, 1, 1, 0, 5, 2, 6, 0, 2, 0, 0, 1, 2, 2, 11, 0, 6, 4, 2, 1, 2, 0, 1, 2, 3, 1, 2, 6, 0, 2, 0, 1, 1, 4, 0, 2, 1, 4, 0, 9, 3, 48, 2, 6, 1, 2, 1, 1, 0, 6, 2, 6, 0, 2, 0, 0, 1, 2, 2, 11, 0, 6, 4, 2, 1, 2, 0, 1, 2, 3, 0, 2, 6, 0, 2, 0, 0, 1, 4, 0, 6, 4, 2, 1, 4, 0, 1, 2, 3, 2, 2, 6, 1, 2, 1, 1, 0, 7, 2, 6, 0, 2, 0, 0, 1, 2, 2, 11, 0, 6, 4, 2, 1, 2, 0, 1, 2, 3, 1, 2, 6, 0, 2, 0, 0, 1, 4, 0, 2, 1, 4, 0, 1]) ws (vs) := ⟨nf_in hl rfl, sgq_1778 (vc_Gr_mayAlter_10_0 (v_iv (n_v vs 1)) (v_iv (n_v vs 2)) (v_iv (n_v vs 3)) (v_iv (n_v vs 6)) (w_fi ws (n_v vs 0) 0) (w_fi ws (n_v vs 0) 1) (w_fi ws (n_v vs 0) 2) k1 k2 k3 k6 kz_0_0 kz_0_1 kz_0_2)⟩
  refine ⟨(fun _ h => (by cases h)), [], trivial, ?_, (fun _ h => (by cases h))⟩
  rw [List.append_nil]
  exact List.forall_mem_cons.mpr ⟨⟨show (20 : Nat) < 100 from by decide, nf0⟩, (fun _ h => (by cases h))⟩
set_option maxHeartbeats 4000000 in
theorem vc_Gr_mayAlter_11_0 (x1 : Int) (x2 : Int) (x3 : Int) (x6 : Int) (nodes_0 : Int) (edges_0 : Int) (groups_0 : Int) (k1 : 1 ≤ x1 ∧ x1 ≤ 1) (k2 : 0 ≤ x2 ∧ x2 ≤ 23) (k3 : 0 ≤ x3 ∧ x3 ≤ 23) (k6 : 0 ≤ x6 ∧ x6 ≤ 0) (kz_0_0 : 0 ≤ nodes_0 ∧ nodes_0 ≤ 24) (kz_0_1 : 0 ≤ edges_0 ∧ edges_0 ≤ 48) (kz_0_2 : 0 ≤ groups_0 ∧ groups_0 ≤ 8) : (x6 = 1) → (((x1 = 0) ∧ ((0 ≤ x2) ∧ (((x2 + 1) ≤ groups_0) ∧ (nodes_0 ≤ 23)))) ∨ (((x1 = 1) ∧ ((0 ≤ x2) ∧ (((x2 + 1) ≤ nodes_0) ∧ ((0 ≤ x3) ∧ (((x3 + 1) ≤ nodes_0) ∧ ((edges_0 ≤ 47) ∧ (((x2 + 1) ≤ x3) ∨ ((x3 + 1) ≤ x2)))))))) ∨ (((x1 = 2) ∧ ((0 ≤ x2) ∧ ((x2 + 1) ≤ edges_0))) ∨ (((x1 = 3) ∧ ((0 ≤ x2) ∧ ((x2 + 1) ≤ nodes_0))) ∨ (((x1 = 4) ∧ ((0 ≤ x2) ∧ (((x2 + 1) ≤ nodes_0) ∧ ((1 ≤ x3) ∧ (x3 ≤ 99))))) ∨ (((x1 = 5) ∧ ((0 ≤ x2) ∧ (((x2 + 1) ≤ edges_0) ∧ ((1 ≤ x3) ∧ (x3 ≤ 9))))) ∨ (((x1 = 6) ∧ ((0 ≤ x2) ∧ (((x2 + 1) ≤ nodes_0) ∧ ((0 ≤ x3) ∧ ((x3 + 1) ≤ groups_0))))) ∨ ((x1 = 7) ∧ ((0 ≤ x2) ∧ (((x2 + 1) ≤ edges_0) ∧ ((0 ≤ x3) ∧ (x3 ≤ 1)))))))))))) := by
  first
    | (intro h; exfalso; omega)
    | (intro h; left; omega)
    | (intro h; right; left; omega)
    | (intro h; right; right; left; omega)
    | (intro h; right; right; right; left; omega)
    | (intro h; right; right; right; right; left; omega)
    | (intro h; right; right; right; right; right; left; omega)
    | (intro h; right; right; right; right; right; right; left; omega)
    | (intro h; right; right; right; right; right; right; right; omega)
    | omega
  
def o_Gr_mayAlter_11 : or_T := (123, 7, [(0, (2, 0, 0, [3])), (1, (0, 1, 1, [])), (2, (0, 0, 23, [])), (3, (0, 0, 23, [])), (4, (0, 1, 1, [])), (5, (0, 1, 1, [])), (6, (0, 0, 0, []))], [(7, [2, 3], [0]), (8, [5], [1]), (20, [5, 3, 0], [50, 1, 0, 2000, 4, 6, 1, 2, 1, 0, 0, 1, 2, 6, 0, 2, 0, 0, 1, 1, 0, 6, 4, 2, 1, 1, 0, 1, 2, 2, 0]), (8, [4], [1]), (20, [4, 2, 0], [50, 1, 0, 2000, 4, 6, 1, 2, 1, 0, 0, 1, 2, 6, 0, 2, 0, 0, 1, 1, 0, 6, 4, 2, 1, 1, 0, 1, 2, 2, 0])], [], [], [(20, [6, 1, 2, 0, 3], [50, 3, 0, 3002, 3000, 3001, 4, 6, 1, 2, 1, 0, 0, 1, 3, 36, 2, 6, 1, 2, 1, 1, 0, 0, 2, 6, 0, 2, 0, 0, 1, 2, 2, 11, 0, 6, 4, 2, 1, 2, 0, 1, 2, 3, 2, 0, 3, 2, 3, 0, 0, 23, 3, 81, 2, 6, 1, 2, 1, 1, 0, 1, 2, 6, 0, 2, 0, 0, 1, 2, 2, 11, 0, 6, 4, 2, 1, 2, 0, 1, 2, 3, 0, 2, 6, 0, 2, 0, 0, 1, 4, 2, 11, 0, 6, 4, 2, 1, 4, 0, 1, 2, 3, 0, 2, 7, 0, 3, 2, 3, 1, 0, 47, 3, 10, 0, 6, 4, 2, 1, 2, 0, 1, 1, 4, 0, 6, 4, 2, 1, 4, 0, 1, 1, 2, 3, 27, 2, 6, 1, 2, 1, 1, 0, 2, 2, 6, 0, 2, 0, 0, 1, 2, 0, 6, 4, 2, 1, 2, 0, 1, 2, 3, 1, 3, 27, 2, 6, 1, 2, 1, 1, 0, 3, 2, 6, 0, 2, 0, 0, 1, 2, 0, 6, 4, 2, 1, 2, 0, 1, 2, 3, 0, 3, 43, 2, 6, 1, 2, 1, 1, 0, 4, 2, 6, 0, 2, 0, 0, 1, 2, 2, 11, 0, 6, 4, 2, 1, 2, 0, 1, 2, 3, 0, 2, 6, 0, 2, 0, 1, 1, 4, 0, 2, 1, 4, 0, 99, 3, 43, 2, 6, 1, 2, 1, 1, 0, 5, 2, 6, 0, 2, 0, 0, 1, 2, 2, 11, 0, 6, 4, 2, 1, 2, 0, 1, 2, 3, 1, 2, 6, 0, 2, 0, 1, 1, 4, 0, 2, 1, 4, 0, 9, 3, 48, 2, 6, 1, 2, 1, 1, 0, 6, 2, 6, 0, 2, 0, 0, 1, 2, 2, 11, 0, 6, 4, 2, 1, 2, 0, 1, 2, 3, 0, 2, 6, 0, 2, 0, 0, 1, 4, 0, 6, 4, 2, 1, 4, 0, 1, 2, 3, 2, 2, 6, 1, 2, 1, 1, 0, 7, 2, 6, 0, 2, 0, 0, 1, 2, 2, 11, 0, 6, 4, 2, 1, 2, 0, 1, 2, 3, 1, 2, 6, 0, 2, 0, 0, 1, 4, 0, 2, 1, 4, 0, 1])], [], [(2, 3, 0, 0)])
theorem oo_Gr_mayAlter_11 {kA : Nat → ClassId} : or_ok PRD kA GG o_Gr_mayAlter_11 := by
  refine or_mk fun A ta ws vs hD hth hl => ?_
  intro t0 r0 t1 k1 t2 k2 t3 k3 t4 k4 t5 k5 t6 k6 d0 f0 f1 f2 f3 f4
  have kz_0_0 := fdq_21 hD hth r0
  have kz_0_1 := fdq_30 hD hth r0
  have kz_0_2 := fdq_20 hD hth r0
  have nf0 : fc_1 PRD (20, [6, 1, 2, 0, 3], [50, 3, 0, 3002, 3000, 3001, 4, 6, 1, 2, 1, 0, 0, 1, 3, 36, 2, 6, 1, 2, 1, 1, 0, 0, 2, 6, 0, 2, 0, 0, 1, 2, 2, 11, 0, 6, 4, 2, 1, 2, 0, 1, 2, 3, 2, 0, 3, 2, 3, 0, 0, 23, 3, 81, 2, 6, 1, 2, 1, 1, 0, 1, 2, 6, 0, 2, 0, 0, 1, 2, 2, 11, 0, 6, 4, 2, 1, 2, 0, 1, 2, 3, 0, 2, 6, 0, 2, 0, 0, 1, 4, 2, 11, 0, 6, 4, 2, 1, 4, 0, 1, 2, 3, 0, 2, 7, 0, 3, 2, 3, 1, 0, 47, 3, 10, 0, 6, 4, 2, 1, 2, 0, 1, 1, 4, 0, 6, 4, 2, 1, 4, 0, 1, 1, 2, 3, 27, 2, 6, 1, 2, 1, 1, 0, 2, 2, 6, 0, 2, 0, 0, 1, 2, 0, 6, 4, 2, 1, 2, 0, 1, 2, 3, 1, 3, 27, 2, 6, 1, 2, 1, 1, 0, 3, 2, 6, 0, 2, 0, 0, 1, 2, 0, 6, 4, 2, 1, 2, 0, 1, 2, 3, 0, 3, 43, 2, 6, 1, 2, 1, 1, 0, 4, 2, 6, 0, 2, 0, 0, 1, 2, 2, 11, 0, 6, 4, 2, 1, 2, 0, 1, 2, 3, 0, 2, 6, 0, 2, 0, 1, 1, 4, 0, 2, 1, 4, 0, 99, 3, 43, 2, 6, 1, 2, 1, 1, 0, 5, 2, 6, 0, 2, 0, 0, 1, 2, 2, 11, 0, 6, 4, 2, 1, 2, 0, 1, 2, 3, 1, 2, 6, 0, 2, 0, 1, 1, 4, 0, 2, 1, 4, 0, 9, 3, 48, 2, 6, 1, 2, 1, 1, 0, 6, 2, 6, 0, 2, 0, 0, 1, 2, 2, 11, 0, 6, 4, 2, 1, 2, 0, 1, 2, 3, 0, 2, 6, 0, 2, 0, 0, 1, 4, 0, 6, 4, 2, 1, 4, 0, 1, 2, 3, 2, 2, 6, 1, 2, 1, 1, 0, 7, 2, 6, 0, 2, 0, 0, 1, 2, 2, 11, 0, 6, 4, 2, 1, 2, 0, 1, 2, 3, 1, 2, 6, 0, 2, 0, 0, 1, 4, 0, 2, 1, 4, 0, 1]) ws (vs) := ⟨nf_in hl rfl, sgq_1778 (vc_Gr_mayAlter_11_0 (v_iv (n_v vs 1)) (v_iv (n_v vs 2)) (v_iv (n_v vs 3)) (v_iv (n_v vs 6)) (w_fi ws (n_v vs 0) 0) (w_fi ws (n_v vs 0) 1) (w_fi ws (n_v vs 0) 2) k1 k2 k3 k6 kz_0_0 kz_0_1 kz_0_2)⟩
  refine ⟨(fun _ h => (by cases h)), [], trivial, ?_, (fun _ h => (by cases h))⟩
  rw [List.append_nil]
  exact List.forall_mem_cons.mpr ⟨⟨show (20 : Nat) < 100 from by decide, nf0⟩, (fun _ h => (by cases h))⟩
set_option maxHeartbeats 4000000 in
theorem vc_Gr_mayAlter_12_0 (x1 : Int) (x2 : Int) (x3 : Int) (x8 : Int) (edges_0 : Int) (nodes_0 : Int) (groups_0 : Int) (k1 : 1 ≤ x1 ∧ x1 ≤ 1) (k2 : 0 ≤ x2 ∧ x2 ≤ 23) (k3 : 0 ≤ x3 ∧ x3 ≤ 23) (k8 : 0 ≤ x8 ∧ x8 ≤ 0) (kz_0_0 : 0 ≤ nodes_0 ∧ nodes_0 ≤ 24) (kz_0_1 : 0 ≤ edges_0 ∧ edges_0 ≤ 48) (kz_0_2 : 0 ≤ groups_0 ∧ groups_0 ≤ 8) : (x8 = 1) → (((x1 = 0) ∧ ((0 ≤ x2) ∧ (((x2 + 1) ≤ groups_0) ∧ (nodes_0 ≤ 23)))) ∨ (((x1 = 1) ∧ ((0 ≤ x2) ∧ (((x2 + 1) ≤ nodes_0) ∧ ((0 ≤ x3) ∧ (((x3 + 1) ≤ nodes_0) ∧ ((edges_0 ≤ 47) ∧ (((x2 + 1) ≤ x3) ∨ ((x3 + 1) ≤ x2)))))))) ∨ (((x1 = 2) ∧ ((0 ≤ x2) ∧ ((x2 + 1) ≤ edges_0))) ∨ (((x1 = 3) ∧ ((0 ≤ x2) ∧ ((x2 + 1) ≤ nodes_0))) ∨ (((x1 = 4) ∧ ((0 ≤ x2) ∧ (((x2 + 1) ≤ nodes_0) ∧ ((1 ≤ x3) ∧ (x3 ≤ 99))))) ∨ (((x1 = 5) ∧ ((0 ≤ x2) ∧ (((x2 + 1) ≤ edges_0) ∧ ((1 ≤ x3) ∧ (x3 ≤ 9))))) ∨ (((x1 = 6) ∧ ((0 ≤ x2) ∧ (((x2 + 1) ≤ nodes_0) ∧ ((0 ≤ x3) ∧ ((x3 + 1) ≤ groups_0))))) ∨ ((x1 = 7) ∧ ((0 ≤ x2) ∧ (((x2 + 1) ≤ edges_0) ∧ ((0 ≤ x3) ∧ (x3 ≤ 1)))))))))))) := by
  first
    | (intro h; exfalso; omega)
    | (intro h; left; omega)
    | (intro h; right; left; omega)
    | (intro h; right; right; left; omega)
    | (intro h; right; right; right; left; omega)
    | (intro h; right; right; right; right; left; omega)
    | (intro h; right; right; right; right; right; left; omega)
    | (intro h; right; right; right; right; right; right; left; omega)
    | (intro h; right; right; right; right; right; right; right; omega)
    | omega
  
def o_Gr_mayAlter_12 : or_T := (123, 9, [(0, (2, 0, 0, [3])), (1, (0, 1, 1, [])), (2, (0, 0, 23, [])), (3, (0, 0, 23, [])), (8, (0, 0, 0, []))], [], [], [], [(20, [8, 1, 2, 0, 3], [50, 3, 0, 3002, 3000, 3001, 4, 6, 1, 2, 1, 0, 0, 1, 3, 36, 2, 6, 1, 2, 1, 1, 0, 0, 2, 6, 0, 2, 0, 0, 1, 2, 2, 11, 0, 6, 4, 2, 1, 2, 0, 1, 2, 3, 2, 0, 3, 2, 3, 0, 0, 23, 3, 81, 2, 6, 1, 2, 1, 1, 0, 1, 2, 6, 0, 2, 0, 0, 1, 2, 2, 11, 0, 6, 4, 2, 1, 2, 0, 1, 2, 3, 0, 2, 6, 0, 2, 0, 0, 1, 4, 2, 11, 0, 6, 4, 2, 1, 4, 0, 1, 2, 3, 0, 2, 7, 0, 3, 2, 3, 1, 0, 47, 3, 10, 0, 6, 4, 2, 1, 2, 0, 1, 1, 4, 0, 6, 4, 2, 1, 4, 0, 1, 1, 2, 3, 27, 2, 6, 1, 2, 1, 1, 0, 2, 2, 6, 0, 2, 0, 0, 1, 2, 0, 6, 4, 2, 1, 2, 0, 1, 2, 3, 1, 3, 27, 2, 6, 1, 2, 1, 1, 0, 3, 2, 6, 0, 2, 0, 0, 1, 2, 0, 6, 4, 2, 1, 2, 0, 1, 2, 3, 0, 3, 43, 2, 6, 1, 2, 1, 1, 0, 4, 2, 6, 0, 2, 0, 0, 1, 2, 2, 11, 0, 6, 4, 2, 1, 2, 0, 1, 2, 3, 0, 2, 6, 0, 2, 0, 1, 1, 4, 0, 2, 1, 4, 0, 99, 3, 43, 2, 6, 1, 2, 1, 1, 0, 5, 2, 6, 0, 2, 0, 0, 1, 2, 2, 11, 0, 6, 4, 2, 1, 2, 0, 1, 2, 3, 1, 2, 6, 0, 2, 0, 1, 1, 4, 0, 2, 1, 4, 0, 9, 3, 48, 2, 6, 1, 2, 1, 1, 0, 6, 2, 6, 0, 2, 0, 0, 1, 2, 2, 11, 0, 6, 4, 2, 1, 2, 0, 1, 2, 3, 0, 2, 6, 0, 2, 0, 0, 1, 4, 0, 6, 4, 2, 1, 4, 0, 1, 2, 3, 2, 2, 6, 1, 2, 1, 1, 0, 7, 2, 6, 0, 2, 0, 0, 1, 2, 2, 11, 0, 6, 4, 2, 1, 2, 0, 1, 2, 3, 1, 2, 6, 0, 2, 0, 0, 1, 4, 0, 2, 1, 4, 0, 1])], [], [])
theorem oo_Gr_mayAlter_12 {kA : Nat → ClassId} : or_ok PRD kA GG o_Gr_mayAlter_12 := by
  refine or_mk fun A ta ws vs hD hth hl => ?_
  intro t0 r0 t1 k1 t2 k2 t3 k3 t8 k8
  have kz_0_0 := fdq_21 hD hth r0
  have kz_0_1 := fdq_30 hD hth r0
  have kz_0_2 := fdq_20 hD hth r0
  have nf0 : fc_1 PRD (20, [8, 1, 2, 0, 3], [50, 3, 0, 3002, 3000, 3001, 4, 6, 1, 2, 1, 0, 0, 1, 3, 36, 2, 6, 1, 2, 1, 1, 0, 0, 2, 6, 0, 2, 0, 0, 1, 2, 2, 11, 0, 6, 4, 2, 1, 2, 0, 1, 2, 3, 2, 0, 3, 2, 3, 0, 0, 23, 3, 81, 2, 6, 1, 2, 1, 1, 0, 1, 2, 6, 0, 2, 0, 0, 1, 2, 2, 11, 0, 6, 4, 2, 1, 2, 0, 1, 2, 3, 0, 2, 6, 0, 2, 0, 0, 1, 4, 2, 11, 0, 6, 4, 2, 1, 4, 0, 1, 2, 3, 0, 2, 7, 0, 3, 2, 3, 1, 0, 47, 3, 10, 0, 6, 4, 2, 1, 2, 0, 1, 1, 4, 0, 6, 4, 2, 1, 4, 0, 1, 1, 2, 3, 27, 2, 6, 1, 2, 1, 1, 0, 2, 2, 6, 0, 2, 0, 0, 1, 2, 0, 6, 4, 2, 1, 2, 0, 1, 2, 3, 1, 3, 27, 2, 6, 1, 2, 1, 1, 0, 3, 2, 6, 0, 2, 0, 0, 1, 2, 0, 6, 4, 2, 1, 2, 0, 1, 2, 3, 0, 3, 43, 2, 6, 1, 2, 1, 1, 0, 4, 2, 6, 0, 2, 0, 0, 1, 2, 2, 11, 0, 6, 4, 2, 1, 2, 0, 1, 2, 3, 0, 2, 6, 0, 2, 0, 1, 1, 4, 0, 2, 1, 4, 0, 99, 3, 43, 2, 6, 1, 2, 1, 1, 0, 5, 2, 6, 0, 2, 0, 0, 1, 2, 2, 11, 0, 6, 4, 2, 1, 2, 0, 1, 2, 3, 1, 2, 6, 0, 2, 0, 1, 1, 4, 0, 2, 1, 4, 0, 9, 3, 48, 2, 6, 1, 2, 1, 1, 0, 6, 2, 6, 0, 2, 0, 0, 1, 2, 2, 11, 0, 6, 4, 2, 1, 2, 0, 1, 2, 3, 0, 2, 6, 0, 2, 0, 0, 1, 4, 0, 6, 4, 2, 1, 4, 0, 1, 2, 3, 2, 2, 6, 1, 2, 1, 1, 0, 7, 2, 6, 0, 2, 0, 0, 1, 2, 2, 11, 0, 6, 4, 2, 1, 2, 0, 1, 2, 3, 1, 2, 6, 0, 2, 0, 0, 1, 4, 0, 2, 1, 4, 0, 1]) ws (vs) := ⟨nf_in hl rfl, sgq_1778 (vc_Gr_mayAlter_12_0 (v_iv (n_v vs 1)) (v_iv (n_v vs 2)) (v_iv (n_v vs 3)) (v_iv (n_v vs 8)) (w_fi ws (n_v vs 0) 1) (w_fi ws (n_v vs 0) 0) (w_fi ws (n_v vs 0) 2) k1 k2 k3 k8 kz_0_0 kz_0_1 kz_0_2)⟩
  refine ⟨(fun _ h => (by cases h)), [], trivial, ?_, (fun _ h => (by cases h))⟩
  rw [List.append_nil]
  exact List.forall_mem_cons.mpr ⟨⟨show (20 : Nat) < 100 from by decide, nf0⟩, (fun _ h => (by cases h))⟩
set_option maxHeartbeats 4000000 in
theorem vc_Gr_mayAlter_13_0 (x6 : Int) (edges_0 : Int) (k6 : 0 ≤ x6 ∧ x6 ≤ 47) (g1 : x6 = edges_0) (kz_0_1 : 0 ≤ edges_0 ∧ edges_0 ≤ 48) : edges_0 ≤ 47 := by
  first
    | (intro h; exfalso; omega)
    | (intro h; left; omega)
    | (intro h; right; left; omega)
    | (intro h; right; right; left; omega)
    | (intro h; right; right; right; left; omega)
    | (intro h; right; right; right; right; left; omega)
    | (intro h; right; right; right; right; right; left; omega)
    | (intro h; right; right; right; right; right; right; left; omega)
    | (intro h; right; right; right; right; right; right; right; omega)
    | omega
  
def o_Gr_mayAlter_13 : or_T := (108, 8, [(0, (2, 0, 0, [3])), (6, (0, 0, 47, []))], [(9, [6, 0], [1])], [], [], [(20, [0], [50, 1, 0, 1, 0, 3, 2, 0, 1, 0, 47])], [], [])
theorem oo_Gr_mayAlter_13 {kA : Nat → ClassId} : or_ok PRD kA GG o_Gr_mayAlter_13 := by
  refine or_mk fun A ta ws vs hD hth hl => ?_
  intro t0 r0 t6 k6 f1
  replace f1 := shm_215 f1
  have g1 : v_iv (n_v vs 6) = w_fi ws (n_v vs 0) 1 := congrArg v_iv f1
  have kz_0_1 := fdq_30 hD hth r0
  have nf0 : fc_1 PRD (20, [0], [50, 1, 0, 1, 0, 3, 2, 0, 1, 0, 47]) ws (vs) := ⟨nf_in hl rfl, sgq_1779 (vc_Gr_mayAlter_13_0 (v_iv (n_v vs 6)) (w_fi ws (n_v vs 0) 1) k6 g1 kz_0_1)⟩
  refine ⟨(fun _ h => (by cases h)), [], trivial, ?_, (fun _ h => (by cases h))⟩
  rw [List.append_nil]
  exact List.forall_mem_cons.mpr ⟨⟨show (20 : Nat) < 100 from by decide, nf0⟩, (fun _ h => (by cases h))⟩
set_option maxHeartbeats 4000000 in
theorem vc_Gr_mayAlter_14_0 (x1 : Int) (x2 : Int) (x3 : Int) (x10 : Int) (edges_0 : Int) (nodes_0 : Int) (groups_0 : Int) (k1 : 1 ≤ x1 ∧ x1 ≤ 1) (k2 : 0 ≤ x2 ∧ x2 ≤ 23) (k3 : 0 ≤ x3 ∧ x3 ≤ 23) (k10 : 0 ≤ x10 ∧ x10 ≤ 0) (kz_0_0 : 0 ≤ nodes_0 ∧ nodes_0 ≤ 24) (kz_0_1 : 0 ≤ edges_0 ∧ edges_0 ≤ 48) (kz_0_2 : 0 ≤ groups_0 ∧ groups_0 ≤ 8) : (x10 = 1) → (((x1 = 0) ∧ ((0 ≤ x2) ∧ (((x2 + 1) ≤ groups_0) ∧ (nodes_0 ≤ 23)))) ∨ (((x1 = 1) ∧ ((0 ≤ x2) ∧ (((x2 + 1) ≤ nodes_0) ∧ ((0 ≤ x3) ∧ (((x3 + 1) ≤ nodes_0) ∧ ((edges_0 ≤ 47) ∧ (((x2 + 1) ≤ x3) ∨ ((x3 + 1) ≤ x2)))))))) ∨ (((x1 = 2) ∧ ((0 ≤ x2) ∧ ((x2 + 1) ≤ edges_0))) ∨ (((x1 = 3) ∧ ((0 ≤ x2) ∧ ((x2 + 1) ≤ nodes_0))) ∨ (((x1 = 4) ∧ ((0 ≤ x2) ∧ (((x2 + 1) ≤ nodes_0) ∧ ((1 ≤ x3) ∧ (x3 ≤ 99))))) ∨ (((x1 = 5) ∧ ((0 ≤ x2) ∧ (((x2 + 1) ≤ edges_0) ∧ ((1 ≤ x3) ∧ (x3 ≤ 9))))) ∨ (((x1 = 6) ∧ ((0 ≤ x2) ∧ (((x2 + 1) ≤ nodes_0) ∧ ((0 ≤ x3) ∧ ((x3 + 1) ≤ groups_0))))) ∨ ((x1 = 7) ∧ ((0 ≤ x2) ∧ (((x2 + 1) ≤ edges_0) ∧ ((0 ≤ x3) ∧ (x3 ≤ 1)))))))))))) := by
  first
    | (intro h; exfalso; omega)
    | (intro h; left; omega)
    | (intro h; right; left; omega)
    | (intro h; right; right; left; omega)
    | (intro h; right; right; right; left; omega)
    | (intro h; right; right; right; right; left; omega)
    | (intro h; right; right; right; right; right; left; omega)
    | (intro h; right; right; right; right; right; right; left; omega)
    | (intro h; right; right; right; right; right; right; right; omega)
    | omega
  
def o_Gr_mayAlter_14 : or_T := (123, 11, [(0, (2, 0, 0, [3])), (1, (0, 1, 1, [])), (2, (0, 0, 23, [])), (3, (0, 0, 23, [])), (4, (0, 1, 1, [])), (5, (0, 1, 1, [])), (6, (0, 0, 47, [])), (7, (0, 48, 48, [])), (8, (0, 0, 47, [])), (9, (0, -1, -1, [])), (10, (0, 0, 0, []))], [(7, [8, 9], [1]), (20, [8, 0, 2, 3], [50, 0, 1, 1015, 1, 2, 1, 0, 3, 1, 15, 4, 6, 6, 2, 1, 2, 0, 24, 1, 3]), (20, [0], [50, 1, 0, 1, 0, 3, 2, 0, 1, 0, 47]), (7, [6, 7], [2]), (9, [6, 0], [1]), (7, [2, 3], [1]), (8, [5], [1]), (20, [5, 3, 0], [50, 1, 0, 2000, 4, 6, 1, 2, 1, 0, 0, 1, 2, 6, 0, 2, 0, 0, 1, 1, 0, 6, 4, 2, 1, 1, 0, 1, 2, 2, 0]), (8, [4], [1]), (20, [4, 2, 0], [50, 1, 0, 2000, 4, 6, 1, 2, 1, 0, 0, 1, 2, 6, 0, 2, 0, 0, 1, 1, 0, 6, 4, 2, 1, 1, 0, 1, 2, 2, 0])], [], [], [(20, [10, 1, 2, 0, 3], [50, 3, 0, 3002, 3000, 3001, 4, 6, 1, 2, 1, 0, 0, 1, 3, 36, 2, 6, 1, 2, 1, 1, 0, 0, 2, 6, 0, 2, 0, 0, 1, 2, 2, 11, 0, 6, 4, 2, 1, 2, 0, 1, 2, 3, 2, 0, 3, 2, 3, 0, 0, 23, 3, 81, 2, 6, 1, 2, 1, 1, 0, 1, 2, 6, 0, 2, 0, 0, 1, 2, 2, 11, 0, 6, 4, 2, 1, 2, 0, 1, 2, 3, 0, 2, 6, 0, 2, 0, 0, 1, 4, 2, 11, 0, 6, 4, 2, 1, 4, 0, 1, 2, 3, 0, 2, 7, 0, 3, 2, 3, 1, 0, 47, 3, 10, 0, 6, 4, 2, 1, 2, 0, 1, 1, 4, 0, 6, 4, 2, 1, 4, 0, 1, 1, 2, 3, 27, 2, 6, 1, 2, 1, 1, 0, 2, 2, 6, 0, 2, 0, 0, 1, 2, 0, 6, 4, 2, 1, 2, 0, 1, 2, 3, 1, 3, 27, 2, 6, 1, 2, 1, 1, 0, 3, 2, 6, 0, 2, 0, 0, 1, 2, 0, 6, 4, 2, 1, 2, 0, 1, 2, 3, 0, 3, 43, 2, 6, 1, 2, 1, 1, 0, 4, 2, 6, 0, 2, 0, 0, 1, 2, 2, 11, 0, 6, 4, 2, 1, 2, 0, 1, 2, 3, 0, 2, 6, 0, 2, 0, 1, 1, 4, 0, 2, 1, 4, 0, 99, 3, 43, 2, 6, 1, 2, 1, 1, 0, 5, 2, 6, 0, 2, 0, 0, 1, 2, 2, 11, 0, 6, 4, 2, 1, 2, 0, 1, 2, 3, 1, 2, 6, 0, 2, 0, 1, 1, 4, 0, 2, 1, 4, 0, 9, 3, 48, 2, 6, 1, 2, 1, 1, 0, 6, 2, 6, 0, 2, 0, 0, 1, 2, 2, 11, 0, 6, 4, 2, 1, 2, 0, 1, 2, 3, 0, 2, 6, 0, 2, 0, 0, 1, 4, 0, 6, 4, 2, 1, 4, 0, 1, 2, 3, 2, 2, 6, 1, 2, 1, 1, 0, 7, 2, 6, 0, 2, 0, 0, 1, 2, 2, 11, 0, 6, 4, 2, 1, 2, 0, 1, 2, 3, 1, 2, 6, 0, 2, 0, 0, 1, 4, 0, 2, 1, 4, 0, 1])], [], [])
theorem oo_Gr_mayAlter_14 {kA : Nat → ClassId} : or_ok PRD kA GG o_Gr_mayAlter_14 := by
  refine or_mk fun A ta ws vs hD hth hl => ?_
  intro t0 r0 t1 k1 t2 k2 t3 k3 t4 k4 t5 k5 t6 k6 t7 k7 t8 k8 t9 k9 t10 k10 f0 f1 f2 f3 f4 f5 f6 f7 f8 f9
  have kz_0_0 := fdq_21 hD hth r0
  have kz_0_1 := fdq_30 hD hth r0
  have kz_0_2 := fdq_20 hD hth r0
  have nf0 : fc_1 PRD (20, [10, 1, 2, 0, 3], [50, 3, 0, 3002, 3000, 3001, 4, 6, 1, 2, 1, 0, 0, 1, 3, 36, 2, 6, 1, 2, 1, 1, 0, 0, 2, 6, 0, 2, 0, 0, 1, 2, 2, 11, 0, 6, 4, 2, 1, 2, 0, 1, 2, 3, 2, 0, 3, 2, 3, 0, 0, 23, 3, 81, 2, 6, 1, 2, 1, 1, 0, 1, 2, 6, 0, 2, 0, 0, 1, 2, 2, 11, 0, 6, 4, 2, 1, 2, 0, 1, 2, 3, 0, 2, 6, 0, 2, 0, 0, 1, 4, 2, 11, 0, 6, 4, 2, 1, 4, 0, 1, 2, 3, 0, 2, 7, 0, 3, 2, 3, 1, 0, 47, 3, 10, 0, 6, 4, 2, 1, 2, 0, 1, 1, 4, 0, 6, 4, 2, 1, 4, 0, 1, 1, 2, 3, 27, 2, 6, 1, 2, 1, 1, 0, 2, 2, 6, 0, 2, 0, 0, 1, 2, 0, 6, 4, 2, 1, 2, 0, 1, 2, 3, 1, 3, 27, 2, 6, 1, 2, 1, 1, 0, 3, 2, 6, 0, 2, 0, 0, 1, 2, 0, 6, 4, 2, 1, 2, 0, 1, 2, 3, 0, 3, 43, 2, 6, 1, 2, 1, 1, 0, 4, 2, 6, 0, 2, 0, 0, 1, 2, 2, 11, 0, 6, 4, 2, 1, 2, 0, 1, 2, 3, 0, 2, 6, 0, 2, 0, 1, 1, 4, 0, 2, 1, 4, 0, 99, 3, 43, 2, 6, 1, 2, 1, 1, 0, 5, 2, 6, 0, 2, 0, 0, 1, 2, 2, 11, 0, 6, 4, 2, 1, 2, 0, 1, 2, 3, 1, 2, 6, 0, 2, 0, 1, 1, 4, 0, 2, 1, 4, 0, 9, 3, 48, 2, 6, 1, 2, 1, 1, 0, 6, 2, 6, 0, 2, 0, 0, 1, 2, 2, 11, 0, 6, 4, 2, 1, 2, 0, 1, 2, 3, 0, 2, 6, 0, 2, 0, 0, 1, 4, 0, 6, 4, 2, 1, 4, 0, 1, 2, 3, 2, 2, 6, 1, 2, 1, 1, 0, 7, 2, 6, 0, 2, 0, 0, 1, 2, 2, 11, 0, 6, 4, 2, 1, 2, 0, 1, 2, 3, 1, 2, 6, 0, 2, 0, 0, 1, 4, 0, 2, 1, 4, 0, 1]) ws (vs) := ⟨nf_in hl rfl, sgq_1778 (vc_Gr_mayAlter_14_0 (v_iv (n_v vs 1)) (v_iv (n_v vs 2)) (v_iv (n_v vs 3)) (v_iv (n_v vs 10)) (w_fi ws (n_v vs 0) 1) (w_fi ws (n_v vs 0) 0) (w_fi ws (n_v vs 0) 2) k1 k2 k3 k10 kz_0_0 kz_0_1 kz_0_2)⟩
  refine ⟨(fun _ h => (by cases h)), [], trivial, ?_, (fun _ h => (by cases h))⟩
  rw [List.append_nil]
  exact List.forall_mem_cons.mpr ⟨⟨show (20 : Nat) < 100 from by decide, nf0⟩, (fun _ h => (by cases h))⟩
set_option maxHeartbeats 4000000 in
theorem vc_Gr_mayAlter_15_0 (x1 : Int) (x2 : Int) (x3 : Int) (x4 : Int) (x5 : Int) (x6 : Int) (x10 : Int) (edges_0 : Int) (nodes_0 : Int) (groups_0 : Int) (k1 : 1 ≤ x1 ∧ x1 ≤ 1) (k2 : 0 ≤ x2 ∧ x2 ≤ 23) (k3 : 0 ≤ x3 ∧ x3 ≤ 23) (k4 : 1 ≤ x4 ∧ x4 ≤ 1) (k5 : 1 ≤ x5 ∧ x5 ≤ 1) (k6 : 0 ≤ x6 ∧ x6 ≤ 47) (k10 : 1 ≤ x10 ∧ x10 ≤ 1) (g4 : x6 = edges_0) (f5 : x2 ≠ x3) (f6 : x5 ≠ 0) (f7 : (x5 = 1) → ((0 ≤ x3) ∧ ((x3 + 1) ≤ nodes_0))) (f8 : x4 ≠ 0) (f9 : (x4 = 1) → ((0 ≤ x2) ∧ ((x2 + 1) ≤ nodes_0))) (kz_0_0 : 0 ≤ nodes_0 ∧ nodes_0 ≤ 24) (kz_0_1 : 0 ≤ edges_0 ∧ edges_0 ≤ 48) (kz_0_2 : 0 ≤ groups_0 ∧ groups_0 ≤ 8) : (x10 = 1) → (((x1 = 0) ∧ ((0 ≤ x2) ∧ (((x2 + 1) ≤ groups_0) ∧ (nodes_0 ≤ 23)))) ∨ (((x1 = 1) ∧ ((0 ≤ x2) ∧ (((x2 + 1) ≤ nodes_0) ∧ ((0 ≤ x3) ∧ (((x3 + 1) ≤ nodes_0) ∧ ((edges_0 ≤ 47) ∧ (((x2 + 1) ≤ x3) ∨ ((x3 + 1) ≤ x2)))))))) ∨ (((x1 = 2) ∧ ((0 ≤ x2) ∧ ((x2 + 1) ≤ edges_0))) ∨ (((x1 = 3) ∧ ((0 ≤ x2) ∧ ((x2 + 1) ≤ nodes_0))) ∨ (((x1 = 4) ∧ ((0 ≤ x2) ∧ (((x2 + 1) ≤ nodes_0) ∧ ((1 ≤ x3) ∧ (x3 ≤ 99))))) ∨ (((x1 = 5) ∧ ((0 ≤ x2) ∧ (((x2 + 1) ≤ edges_0) ∧ ((1 ≤ x3) ∧ (x3 ≤ 9))))) ∨ (((x1 = 6) ∧ ((0 ≤ x2) ∧ (((x2 + 1) ≤ nodes_0) ∧ ((0 ≤ x3) ∧ ((x3 + 1) ≤ groups_0))))) ∨ ((x1 = 7) ∧ ((0 ≤ x2) ∧ (((x2 + 1) ≤ edges_0) ∧ ((0 ≤ x3) ∧ (x3 ≤ 1)))))))))))) := by
  first
    | (intro h; exfalso; omega)
    | (intro h; left; omega)
    | (intro h; right; left; omega)
    | (intro h; right; right; left; omega)
    | (intro h; right; right; right; left; omega)
    | (intro h; right; right; right; right; left; omega)
    | (intro h; right; right; right; right; right; left; omega)
    | (intro h; right; right; right; right; right; right; left; omega)
    | (intro h; right; right; right; right; right; right; right; omega)
    | omega
  
def o_Gr_mayAlter_15 : or_T := (123, 11, [(0, (2, 0, 0, [3])), (1, (0, 1, 1, [])), (2, (0, 0, 23, [])), (3, (0, 0, 23, [])), (4, (0, 1, 1, [])), (5, (0, 1, 1, [])), (6, (0, 0, 47, [])), (7, (0, 48, 48, [])), (8, (0, -1, -1, [])), (9, (0, -1, -1, [])), (10, (0, 1, 1, []))], [(7, [8, 9], [0]), (20, [8, 0, 2, 3], [50, 0, 1, 1015, 1, 2, 1, 0, 3, 1, 15, 4, 6, 6, 2, 1, 2, 0, 24, 1, 3]), (20, [0], [50, 1, 0, 1, 0, 3, 2, 0, 1, 0, 47]), (7, [6, 7], [2]), (9, [6, 0], [1]), (7, [2, 3], [1]), (8, [5], [1]), (20, [5, 3, 0], [50, 1, 0, 2000, 4, 6, 1, 2, 1, 0, 0, 1, 2, 6, 0, 2, 0, 0, 1, 1, 0, 6, 4, 2, 1, 1, 0, 1, 2, 2, 0]), (8, [4], [1]), (20, [4, 2, 0], [50, 1, 0, 2000, 4, 6, 1, 2, 1, 0, 0, 1, 2, 6, 0, 2, 0, 0, 1, 1, 0, 6, 4, 2, 1, 1, 0, 1, 2, 2, 0])], [], [], [(20, [10, 1, 2, 0, 3], [50, 3, 0, 3002, 3000, 3001, 4, 6, 1, 2, 1, 0, 0, 1, 3, 36, 2, 6, 1, 2, 1, 1, 0, 0, 2, 6, 0, 2, 0, 0, 1, 2, 2, 11, 0, 6, 4, 2, 1, 2, 0, 1, 2, 3, 2, 0, 3, 2, 3, 0, 0, 23, 3, 81, 2, 6, 1, 2, 1, 1, 0, 1, 2, 6, 0, 2, 0, 0, 1, 2, 2, 11, 0, 6, 4, 2, 1, 2, 0, 1, 2, 3, 0, 2, 6, 0, 2, 0, 0, 1, 4, 2, 11, 0, 6, 4, 2, 1, 4, 0, 1, 2, 3, 0, 2, 7, 0, 3, 2, 3, 1, 0, 47, 3, 10, 0, 6, 4, 2, 1, 2, 0, 1, 1, 4, 0, 6, 4, 2, 1, 4, 0, 1, 1, 2, 3, 27, 2, 6, 1, 2, 1, 1, 0, 2, 2, 6, 0, 2, 0, 0, 1, 2, 0, 6, 4, 2, 1, 2, 0, 1, 2, 3, 1, 3, 27, 2, 6, 1, 2, 1, 1, 0, 3, 2, 6, 0, 2, 0, 0, 1, 2, 0, 6, 4, 2, 1, 2, 0, 1, 2, 3, 0, 3, 43, 2, 6, 1, 2, 1, 1, 0, 4, 2, 6, 0, 2, 0, 0, 1, 2, 2, 11, 0, 6, 4, 2, 1, 2, 0, 1, 2, 3, 0, 2, 6, 0, 2, 0, 1, 1, 4, 0, 2, 1, 4, 0, 99, 3, 43, 2, 6, 1, 2, 1, 1, 0, 5, 2, 6, 0, 2, 0, 0, 1, 2, 2, 11, 0, 6, 4, 2, 1, 2, 0, 1, 2, 3, 1, 2, 6, 0, 2, 0, 1, 1, 4, 0, 2, 1, 4, 0, 9, 3, 48, 2, 6, 1, 2, 1, 1, 0, 6, 2, 6, 0, 2, 0, 0, 1, 2, 2, 11, 0, 6, 4, 2, 1, 2, 0, 1, 2, 3, 0, 2, 6, 0, 2, 0, 0, 1, 4, 0, 6, 4, 2, 1, 4, 0, 1, 2, 3, 2, 2, 6, 1, 2, 1, 1, 0, 7, 2, 6, 0, 2, 0, 0, 1, 2, 2, 11, 0, 6, 4, 2, 1, 2, 0, 1, 2, 3, 1, 2, 6, 0, 2, 0, 0, 1, 4, 0, 2, 1, 4, 0, 1])], [], [])
theorem oo_Gr_mayAlter_15 {kA : Nat → ClassId} : or_ok PRD kA GG o_Gr_mayAlter_15 := by
  refine or_mk fun A ta ws vs hD hth hl => ?_
  intro t0 r0 t1 k1 t2 k2 t3 k3 t4 k4 t5 k5 t6 k6 t7 k7 t8 k8 t9 k9 t10 k10 f0 f1 f2 f3 f4 f5 f6 f7 f8 f9
  replace f4 := shm_215 f4
  have g4 : v_iv (n_v vs 6) = w_fi ws (n_v vs 0) 1 := congrArg v_iv f4
  have kz_0_0 := fdq_21 hD hth r0
  have kz_0_1 := fdq_30 hD hth r0
  have kz_0_2 := fdq_20 hD hth r0
  have nf0 : fc_1 PRD (20, [10, 1, 2, 0, 3], [50, 3, 0, 3002, 3000, 3001, 4, 6, 1, 2, 1, 0, 0, 1, 3, 36, 2, 6, 1, 2, 1, 1, 0, 0, 2, 6, 0, 2, 0, 0, 1, 2, 2, 11, 0, 6, 4, 2, 1, 2, 0, 1, 2, 3, 2, 0, 3, 2, 3, 0, 0, 23, 3, 81, 2, 6, 1, 2, 1, 1, 0, 1, 2, 6, 0, 2, 0, 0, 1, 2, 2, 11, 0, 6, 4, 2, 1, 2, 0, 1, 2, 3, 0, 2, 6, 0, 2, 0, 0, 1, 4, 2, 11, 0, 6, 4, 2, 1, 4, 0, 1, 2, 3, 0, 2, 7, 0, 3, 2, 3, 1, 0, 47, 3, 10, 0, 6, 4, 2, 1, 2, 0, 1, 1, 4, 0, 6, 4, 2, 1, 4, 0, 1, 1, 2, 3, 27, 2, 6, 1, 2, 1, 1, 0, 2, 2, 6, 0, 2, 0, 0, 1, 2, 0, 6, 4, 2, 1, 2, 0, 1, 2, 3, 1, 3, 27, 2, 6, 1, 2, 1, 1, 0, 3, 2, 6, 0, 2, 0, 0, 1, 2, 0, 6, 4, 2, 1, 2, 0, 1, 2, 3, 0, 3, 43, 2, 6, 1, 2, 1, 1, 0, 4, 2, 6, 0, 2, 0, 0, 1, 2, 2, 11, 0, 6, 4, 2, 1, 2, 0, 1, 2, 3, 0, 2, 6, 0, 2, 0, 1, 1, 4, 0, 2, 1, 4, 0, 99, 3, 43, 2, 6, 1, 2, 1, 1, 0, 5, 2, 6, 0, 2, 0, 0, 1, 2, 2, 11, 0, 6, 4, 2, 1, 2, 0, 1, 2, 3, 1, 2, 6, 0, 2, 0, 1, 1, 4, 0, 2, 1, 4, 0, 9, 3, 48, 2, 6, 1, 2, 1, 1, 0, 6, 2, 6, 0, 2, 0, 0, 1, 2, 2, 11, 0, 6, 4, 2, 1, 2, 0, 1, 2, 3, 0, 2, 6, 0, 2, 0, 0, 1, 4, 0, 6, 4, 2, 1, 4, 0, 1, 2, 3, 2, 2, 6, 1, 2, 1, 1, 0, 7, 2, 6, 0, 2, 0, 0, 1, 2, 2, 11, 0, 6, 4, 2, 1, 2, 0, 1, 2, 3, 1, 2, 6, 0, 2, 0, 0, 1, 4, 0, 2, 1, 4, 0, 1]) ws (vs) := ⟨nf_in hl rfl, sgq_1778 (vc_Gr_mayAlter_15_0 (v_iv (n_v vs 1)) (v_iv (n_v vs 2)) (v_iv (n_v vs 3)) (v_iv (n_v vs 4)) (v_iv (n_v vs 5)) (v_iv (n_v vs 6)) (v_iv (n_v vs 10)) (w_fi ws (n_v vs 0) 1) (w_fi ws (n_v vs 0) 0) (w_fi ws (n_v vs 0) 2) k1 k2 k3 k4 k5 k6 k10 g4 (shm_40 f5) (shm_142 f6) (shm_384 f7) (shm_142 f8) (shm_384 f9) kz_0_0 kz_0_1 kz_0_2)⟩
  refine ⟨(fun _ h => (by cases h)), [], trivial, ?_, (fun _ h => (by cases h))⟩
  rw [List.append_nil]
  exact List.forall_mem_cons.mpr ⟨⟨show (20 : Nat) < 100 from by decide, nf0⟩, (fun _ h => (by cases h))⟩
set_option maxHeartbeats 4000000 in
theorem vc_Gr_mayAlter_16_0 (x1 : Int) (x2 : Int) (x3 : Int) (x4 : Int) (edges_0 : Int) (nodes_0 : Int) (groups_0 : Int) (k1 : 2 ≤ x1 ∧ x1 ≤ 2) (k2 : (-2147483648) ≤ x2 ∧ x2 ≤ (-1)) (k3 : (-2147483648) ≤ x3 ∧ x3 ≤ 2147483647) (k4 : 0 ≤ x4 ∧ x4 ≤ 0) (kz_0_0 : 0 ≤ nodes_0 ∧ nodes_0 ≤ 24) (kz_0_1 : 0 ≤ edges_0 ∧ edges_0 ≤ 48) (kz_0_2 : 0 ≤ groups_0 ∧ groups_0 ≤ 8) : (x4 = 1) → (((x1 = 0) ∧ ((0 ≤ x2) ∧ (((x2 + 1) ≤ groups_0) ∧ (nodes_0 ≤ 23)))) ∨ (((x1 = 1) ∧ ((0 ≤ x2) ∧ (((x2 + 1) ≤ nodes_0) ∧ ((0 ≤ x3) ∧ (((x3 + 1) ≤ nodes_0) ∧ ((edges_0 ≤ 47) ∧ (((x2 + 1) ≤ x3) ∨ ((x3 + 1) ≤ x2)))))))) ∨ (((x1 = 2) ∧ ((0 ≤ x2) ∧ ((x2 + 1) ≤ edges_0))) ∨ (((x1 = 3) ∧ ((0 ≤ x2) ∧ ((x2 + 1) ≤ nodes_0))) ∨ (((x1 = 4) ∧ ((0 ≤ x2) ∧ (((x2 + 1) ≤ nodes_0) ∧ ((1 ≤ x3) ∧ (x3 ≤ 99))))) ∨ (((x1 = 5) ∧ ((0 ≤ x2) ∧ (((x2 + 1) ≤ edges_0) ∧ ((1 ≤ x3) ∧ (x3 ≤ 9))))) ∨ (((x1 = 6) ∧ ((0 ≤ x2) ∧ (((x2 + 1) ≤ nodes_0) ∧ ((0 ≤ x3) ∧ ((x3 + 1) ≤ groups_0))))) ∨ ((x1 = 7) ∧ ((0 ≤ x2) ∧ (((x2 + 1) ≤ edges_0) ∧ ((0 ≤ x3) ∧ (x3 ≤ 1)))))))))))) := by
  first
    | (intro h; exfalso; omega)
    | (intro h; left; omega)
    | (intro h; right; left; omega)
    | (intro h; right; right; left; omega)
    | (intro h; right; right; right; left; omega)
    | (intro h; right; right; right; right; left; omega)
    | (intro h; right; right; right; right; right; left; omega)
    | (intro h; right; right; right; right; right; right; left; omega)
    | (intro h; right; right; right; right; right; right; right; omega)
    | omega
  
def o_Gr_mayAlter_16 : or_T := (129, 5, [(0, (2, 0, 0, [3])), (1, (0, 2, 2, [])), (2, (0, -2147483648, -1, [])), (3, (0, -2147483648, 2147483647, [])), (4, (0, 0, 0, []))], [(20, [4, 2, 0], [50, 1, 0, 2001, 4, 6, 1, 2, 1, 0, 0, 1, 2, 6, 0, 2, 0, 0, 1, 1, 0, 6, 4, 2, 1, 1, 0, 1, 2, 2, 1]), (20, [4, 2, 0], [50, 1, 0, 2001, 4, 6, 1, 2, 1, 0, 0, 0, 3, 6, 0, 2, 1, 1, 0, -1, 0, 3, 2, 2, 1, 1, 1])], [], [], [(20, [4, 1, 2, 0, 3], [50, 3, 0, 3002, 3000, 3001, 4, 6, 1, 2, 1, 0, 0, 1, 3, 36, 2, 6, 1, 2, 1, 1, 0, 0, 2, 6, 0, 2, 0, 0, 1, 2, 2, 11, 0, 6, 4, 2, 1, 2, 0, 1, 2, 3, 2, 0, 3, 2, 3, 0, 0, 23, 3, 81, 2, 6, 1, 2, 1, 1, 0, 1, 2, 6, 0, 2, 0, 0, 1, 2, 2, 11, 0, 6, 4, 2, 1, 2, 0, 1, 2, 3, 0, 2, 6, 0, 2, 0, 0, 1, 4, 2, 11, 0, 6, 4, 2, 1, 4, 0, 1, 2, 3, 0, 2, 7, 0, 3, 2, 3, 1, 0, 47, 3, 10, 0, 6, 4, 2, 1, 2, 0, 1, 1, 4, 0, 6, 4, 2, 1, 4, 0, 1, 1, 2, 3, 27, 2, 6, 1, 2, 1, 1, 0, 2, 2, 6, 0, 2, 0, 0, 1, 2, 0, 6, 4, 2, 1, 2, 0, 1, 2, 3, 1, 3, 27, 2, 6, 1, 2, 1, 1, 0, 3, 2, 6, 0, 2, 0, 0, 1, 2, 0, 6, 4, 2, 1, 2, 0, 1, 2, 3, 0, 3, 43, 2, 6, 1, 2, 1, 1, 0, 4, 2, 6, 0, 2, 0, 0, 1, 2, 2, 11, 0, 6, 4, 2, 1, 2, 0, 1, 2, 3, 0, 2, 6, 0, 2, 0, 1, 1, 4, 0, 2, 1, 4, 0, 99, 3, 43, 2, 6, 1, 2, 1, 1, 0, 5, 2, 6, 0, 2, 0, 0, 1, 2, 2, 11, 0, 6, 4, 2, 1, 2, 0, 1, 2, 3, 1, 2, 6, 0, 2, 0, 1, 1, 4, 0, 2, 1, 4, 0, 9, 3, 48, 2, 6, 1, 2, 1, 1, 0, 6, 2, 6, 0, 2, 0, 0, 1, 2, 2, 11, 0, 6, 4, 2, 1, 2, 0, 1, 2, 3, 0, 2, 6, 0, 2, 0, 0, 1, 4, 0, 6, 4, 2, 1, 4, 0, 1, 2, 3, 2, 2, 6, 1, 2, 1, 1, 0, 7, 2, 6, 0, 2, 0, 0, 1, 2, 2, 11, 0, 6, 4, 2, 1, 2, 0, 1, 2, 3, 1, 2, 6, 0, 2, 0, 0, 1, 4, 0, 2, 1, 4, 0, 1])], [], [])
theorem oo_Gr_mayAlter_16 {kA : Nat → ClassId} : or_ok PRD kA GG o_Gr_mayAlter_16 := by
  refine or_mk fun A ta ws vs hD hth hl => ?_
  intro t0 r0 t1 k1 t2 k2 t3 k3 t4 k4 f0 f1
  have kz_0_0 := fdq_21 hD hth r0
  have kz_0_1 := fdq_30 hD hth r0
  have kz_0_2 := fdq_20 hD hth r0
  have nf0 : fc_1 PRD (20, [4, 1, 2, 0, 3], [50, 3, 0, 3002, 3000, 3001, 4, 6, 1, 2, 1, 0, 0, 1, 3, 36, 2, 6, 1, 2, 1, 1, 0, 0, 2, 6, 0, 2, 0, 0, 1, 2, 2, 11, 0, 6, 4, 2, 1, 2, 0, 1, 2, 3, 2, 0, 3, 2, 3, 0, 0, 23, 3, 81, 2, 6, 1, 2, 1, 1, 0, 1, 2, 6, 0, 2, 0, 0, 1, 2, 2, 11, 0, 6, 4, 2, 1, 2, 0, 1, 2, 3, 0, 2, 6, 0, 2, 0, 0, 1, 4, 2, 11, 0, 6, 4, 2, 1, 4, 0, 1, 2, 3, 0, 2, 7, 0, 3, 2, 3, 1, 0, 47, 3, 10, 0, 6, 4, 2, 1, 2, 0, 1, 1, 4, 0, 6, 4, 2, 1, 4, 0, 1, 1, 2, 3, 27, 2, 6, 1, 2, 1, 1, 0, 2, 2, 6, 0, 2, 0, 0, 1, 2, 0, 6, 4, 2, 1, 2, 0, 1, 2, 3, 1, 3, 27, 2, 6, 1, 2, 1, 1, 0, 3, 2, 6, 0, 2, 0, 0, 1, 2, 0, 6, 4, 2, 1, 2, 0, 1, 2, 3, 0, 3, 43, 2, 6, 1, 2, 1, 1, 0, 4, 2, 6, 0, 2, 0, 0, 1, 2, 2, 11, 0, 6, 4, 2, 1, 2, 0, 1, 2, 3, 0, 2, 6, 0, 2, 0, 1, 1, 4, 0, 2, 1, 4, 0, 99, 3, 43, 2, 6, 1, 2, 1, 1, 0, 5, 2, 6, 0, 2, 0, 0, 1, 2, 2, 11, 0, 6, 4, 2, 1, 2, 0, 1, 2, 3, 1, 2, 6, 0, 2, 0, 1, 1, 4, 0, 2, 1, 4, 0, 9, 3, 48, 2, 6, 1, 2, 1, 1, 0, 6, 2, 6, 0, 2, 0, 0, 1, 2, 2, 11, 0, 6, 4, 2, 1, 2, 0, 1, 2, 3, 0, 2, 6, 0, 2, 0, 0, 1, 4, 0, 6, 4, 2, 1, 4, 0, 1, 2, 3, 2, 2, 6, 1, 2, 1, 1, 0, 7, 2, 6, 0, 2, 0, 0, 1, 2, 2, 11, 0, 6, 4, 2, 1, 2, 0, 1, 2, 3, 1, 2, 6, 0, 2, 0, 0, 1, 4, 0, 2, 1, 4, 0, 1]) ws (vs) := ⟨nf_in hl rfl, sgq_1778 (vc_Gr_mayAlter_16_0 (v_iv (n_v vs 1)) (v_iv (n_v vs 2)) (v_iv (n_v vs 3)) (v_iv (n_v vs 4)) (w_fi ws (n_v vs 0) 1) (w_fi ws (n_v vs 0) 0) (w_fi ws (n_v vs 0) 2) k1 k2 k3 k4 kz_0_0 kz_0_1 kz_0_2)⟩
  refine ⟨(fun _ h => (by cases h)), [], trivial, ?_, (fun _ h => (by cases h))⟩
  rw [List.append_nil]
  exact List.forall_mem_cons.mpr ⟨⟨show (20 : Nat) < 100 from by decide, nf0⟩, (fun _ h => (by cases h))⟩
set_option maxHeartbeats 4000000 in
theorem vc_Gr_mayAlter_17_0 (x1 : Int) (x2 : Int) (x3 : Int) (x4 : Int) (edges_0 : Int) (nodes_0 : Int) (groups_0 : Int) (k1 : 2 ≤ x1 ∧ x1 ≤ 2) (k2 : 0 ≤ x2 ∧ x2 ≤ 2147483647) (k3 : (-2147483648) ≤ x3 ∧ x3 ≤ 2147483647) (k4 : 0 ≤ x4 ∧ x4 ≤ 0) (kz_0_0 : 0 ≤ nodes_0 ∧ nodes_0 ≤ 24) (kz_0_1 : 0 ≤ edges_0 ∧ edges_0 ≤ 48) (kz_0_2 : 0 ≤ groups_0 ∧ groups_0 ≤ 8) : (x4 = 1) → (((x1 = 0) ∧ ((0 ≤ x2) ∧ (((x2 + 1) ≤ groups_0) ∧ (nodes_0 ≤ 23)))) ∨ (((x1 = 1) ∧ ((0 ≤ x2) ∧ (((x2 + 1) ≤ nodes_0) ∧ ((0 ≤ x3) ∧ (((x3 + 1) ≤ nodes_0) ∧ ((edges_0 ≤ 47) ∧ (((x2 + 1) ≤ x3) ∨ ((x3 + 1) ≤ x2)))))))) ∨ (((x1 = 2) ∧ ((0 ≤ x2) ∧ ((x2 + 1) ≤ edges_0))) ∨ (((x1 = 3) ∧ ((0 ≤ x2) ∧ ((x2 + 1) ≤ nodes_0))) ∨ (((x1 = 4) ∧ ((0 ≤ x2) ∧ (((x2 + 1) ≤ nodes_0) ∧ ((1 ≤ x3) ∧ (x3 ≤ 99))))) ∨ (((x1 = 5) ∧ ((0 ≤ x2) ∧ (((x2 + 1) ≤ edges_0) ∧ ((1 ≤ x3) ∧ (x3 ≤ 9))))) ∨ (((x1 = 6) ∧ ((0 ≤ x2) ∧ (((x2 + 1) ≤ nodes_0) ∧ ((0 ≤ x3) ∧ ((x3 + 1) ≤ groups_0))))) ∨ ((x1 = 7) ∧ ((0 ≤ x2) ∧ (((x2 + 1) ≤ edges_0) ∧ ((0 ≤ x3) ∧ (x3 ≤ 1)))))))))))) := by
  first
    | (intro h; exfalso; omega)
    | (intro h; left; omega)
    | (intro h; right; left; omega)
    | (intro h; right; right; left; omega)
    | (intro h; right; right; right; left; omega)
    | (intro h; right; right; right; right; left; omega)
    | (intro h; right; right; right; right; right; left; omega)
    | (intro h; right; right; right; right; right; right; left; omega)
    | (intro h; right; right; right; right; right; right; right; omega)
    | omega
  
def o_Gr_mayAlter_17 : or_T := (129, 5, [(0, (2, 0, 0, [3])), (1, (0, 2, 2, [])), (2, (0, 0, 2147483647, [])), (3, (0, -2147483648, 2147483647, [])), (4, (0, 0, 0, []))], [(20, [4, 2, 0], [50, 1, 0, 2001, 4, 6, 1, 2, 1, 0, 0, 1, 2, 6, 0, 2, 0, 0, 1, 1, 0, 6, 4, 2, 1, 1, 0, 1, 2, 2, 1]), (20, [4, 2, 0], [50, 1, 0, 2001, 4, 6, 1, 2, 1, 0, 0, 0, 3, 6, 0, 2, 1, 1, 0, -1, 0, 3, 2, 2, 1, 1, 1])], [], [], [(20, [4, 1, 2, 0, 3], [50, 3, 0, 3002, 3000, 3001, 4, 6, 1, 2, 1, 0, 0, 1, 3, 36, 2, 6, 1, 2, 1, 1, 0, 0, 2, 6, 0, 2, 0, 0, 1, 2, 2, 11, 0, 6, 4, 2, 1, 2, 0, 1, 2, 3, 2, 0, 3, 2, 3, 0, 0, 23, 3, 81, 2, 6, 1, 2, 1, 1, 0, 1, 2, 6, 0, 2, 0, 0, 1, 2, 2, 11, 0, 6, 4, 2, 1, 2, 0, 1, 2, 3, 0, 2, 6, 0, 2, 0, 0, 1, 4, 2, 11, 0, 6, 4, 2, 1, 4, 0, 1, 2, 3, 0, 2, 7, 0, 3, 2, 3, 1, 0, 47, 3, 10, 0, 6, 4, 2, 1, 2, 0, 1, 1, 4, 0, 6, 4, 2, 1, 4, 0, 1, 1, 2, 3, 27, 2, 6, 1, 2, 1, 1, 0, 2, 2, 6, 0, 2, 0, 0, 1, 2, 0, 6, 4, 2, 1, 2, 0, 1, 2, 3, 1, 3, 27, 2, 6, 1, 2, 1, 1, 0, 3, 2, 6, 0, 2, 0, 0, 1, 2, 0, 6, 4, 2, 1, 2, 0, 1, 2, 3, 0, 3, 43, 2, 6, 1, 2, 1, 1, 0, 4, 2, 6, 0, 2, 0, 0, 1, 2, 2, 11, 0, 6, 4, 2, 1, 2, 0, 1, 2, 3, 0, 2, 6, 0, 2, 0, 1, 1, 4, 0, 2, 1, 4, 0, 99, 3, 43, 2, 6, 1, 2, 1, 1, 0, 5, 2, 6, 0, 2, 0, 0, 1, 2, 2, 11, 0, 6, 4, 2, 1, 2, 0, 1, 2, 3, 1, 2, 6, 0, 2, 0, 1, 1, 4, 0, 2, 1, 4, 0, 9, 3, 48, 2, 6, 1, 2, 1, 1, 0, 6, 2, 6, 0, 2, 0, 0, 1, 2, 2, 11, 0, 6, 4, 2, 1, 2, 0, 1, 2, 3, 0, 2, 6, 0, 2, 0, 0, 1, 4, 0, 6, 4, 2, 1, 4, 0, 1, 2, 3, 2, 2, 6, 1, 2, 1, 1, 0, 7, 2, 6, 0, 2, 0, 0, 1, 2, 2, 11, 0, 6, 4, 2, 1, 2, 0, 1, 2, 3, 1, 2, 6, 0, 2, 0, 0, 1, 4, 0, 2, 1, 4, 0, 1])], [], [])
theorem oo_Gr_mayAlter_17 {kA : Nat → ClassId} : or_ok PRD kA GG o_Gr_mayAlter_17 := by
  refine or_mk fun A ta ws vs hD hth hl => ?_
  intro t0 r0 t1 k1 t2 k2 t3 k3 t4 k4 f0 f1
  have kz_0_0 := fdq_21 hD hth r0
  have kz_0_1 := fdq_30 hD hth r0
  have kz_0_2 := fdq_20 hD hth r0
  have nf0 : fc_1 PRD (20, [4, 1, 2, 0, 3], [50, 3, 0, 3002, 3000, 3001, 4, 6, 1, 2, 1, 0, 0, 1, 3, 36, 2, 6, 1, 2, 1, 1, 0, 0, 2, 6, 0, 2, 0, 0, 1, 2, 2, 11, 0, 6, 4, 2, 1, 2, 0, 1, 2, 3, 2, 0, 3, 2, 3, 0, 0, 23, 3, 81, 2, 6, 1, 2, 1, 1, 0, 1, 2, 6, 0, 2, 0, 0, 1, 2, 2, 11, 0, 6, 4, 2, 1, 2, 0, 1, 2, 3, 0, 2, 6, 0, 2, 0, 0, 1, 4, 2, 11, 0, 6, 4, 2, 1, 4, 0, 1, 2, 3, 0, 2, 7, 0, 3, 2, 3, 1, 0, 47, 3, 10, 0, 6, 4, 2, 1, 2, 0, 1, 1, 4, 0, 6, 4, 2, 1, 4, 0, 1, 1, 2, 3, 27, 2, 6, 1, 2, 1, 1, 0, 2, 2, 6, 0, 2, 0, 0, 1, 2, 0, 6, 4, 2, 1, 2, 0, 1, 2, 3, 1, 3, 27, 2, 6, 1, 2, 1, 1, 0, 3, 2, 6, 0, 2, 0, 0, 1, 2, 0, 6, 4, 2, 1, 2, 0, 1, 2, 3, 0, 3, 43, 2, 6, 1, 2, 1, 1, 0, 4, 2, 6, 0, 2, 0, 0, 1, 2, 2, 11, 0, 6, 4, 2, 1, 2, 0, 1, 2, 3, 0, 2, 6, 0, 2, 0, 1, 1, 4, 0, 2, 1, 4, 0, 99, 3, 43, 2, 6, 1, 2, 1, 1, 0, 5, 2, 6, 0, 2, 0, 0, 1, 2, 2, 11, 0, 6, 4, 2, 1, 2, 0, 1, 2, 3, 1, 2, 6, 0, 2, 0, 1, 1, 4, 0, 2, 1, 4, 0, 9, 3, 48, 2, 6, 1, 2, 1, 1, 0, 6, 2, 6, 0, 2, 0, 0, 1, 2, 2, 11, 0, 6, 4, 2, 1, 2, 0, 1, 2, 3, 0, 2, 6, 0, 2, 0, 0, 1, 4, 0, 6, 4, 2, 1, 4, 0, 1, 2, 3, 2, 2, 6, 1, 2, 1, 1, 0, 7, 2, 6, 0, 2, 0, 0, 1, 2, 2, 11, 0, 6, 4, 2, 1, 2, 0, 1, 2, 3, 1, 2, 6, 0, 2, 0, 0, 1, 4, 0, 2, 1, 4, 0, 1]) ws (vs) := ⟨nf_in hl rfl, sgq_1778 (vc_Gr_mayAlter_17_0 (v_iv (n_v vs 1)) (v_iv (n_v vs 2)) (v_iv (n_v vs 3)) (v_iv (n_v vs 4)) (w_fi ws (n_v vs 0) 1) (w_fi ws (n_v vs 0) 0) (w_fi ws (n_v vs 0) 2) k1 k2 k3 k4 kz_0_0 kz_0_1 kz_0_2)⟩
  refine ⟨(fun _ h => (by cases h)), [], trivial, ?_, (fun _ h => (by cases h))⟩
  rw [List.append_nil]
  exact List.forall_mem_cons.mpr ⟨⟨show (20 : Nat) < 100 from by decide, nf0⟩, (fun _ h => (by cases h))⟩
set_option maxHeartbeats 4000000 in
theorem vc_Gr_mayAlter_18_0 (x1 : Int) (x2 : Int) (x3 : Int) (x4 : Int) (edges_0 : Int) (nodes_0 : Int) (groups_0 : Int) (k1 : 2 ≤ x1 ∧ x1 ≤ 2) (k2 : 0 ≤ x2 ∧ x2 ≤ 47) (k3 : (-2147483648) ≤ x3 ∧ x3 ≤ 2147483647) (k4 : 1 ≤ x4 ∧ x4 ≤ 1) (f0 : (x4 = 1) → ((0 ≤ x2) ∧ ((x2 + 1) ≤ edges_0))) (f1 : (x4 = 0) → ((x2 ≤ (-1)) ∨ (edges_0 ≤ x2))) (kz_0_0 : 0 ≤ nodes_0 ∧ nodes_0 ≤ 24) (kz_0_1 : 0 ≤ edges_0 ∧ edges_0 ≤ 48) (kz_0_2 : 0 ≤ groups_0 ∧ groups_0 ≤ 8) : (x4 = 1) → (((x1 = 0) ∧ ((0 ≤ x2) ∧ (((x2 + 1) ≤ groups_0) ∧ (nodes_0 ≤ 23)))) ∨ (((x1 = 1) ∧ ((0 ≤ x2) ∧ (((x2 + 1) ≤ nodes_0) ∧ ((0 ≤ x3) ∧ (((x3 + 1) ≤ nodes_0) ∧ ((edges_0 ≤ 47) ∧ (((x2 + 1) ≤ x3) ∨ ((x3 + 1) ≤ x2)))))))) ∨ (((x1 = 2) ∧ ((0 ≤ x2) ∧ ((x2 + 1) ≤ edges_0))) ∨ (((x1 = 3) ∧ ((0 ≤ x2) ∧ ((x2 + 1) ≤ nodes_0))) ∨ (((x1 = 4) ∧ ((0 ≤ x2) ∧ (((x2 + 1) ≤ nodes_0) ∧ ((1 ≤ x3) ∧ (x3 ≤ 99))))) ∨ (((x1 = 5) ∧ ((0 ≤ x2) ∧ (((x2 + 1) ≤ edges_0) ∧ ((1 ≤ x3) ∧ (x3 ≤ 9))))) ∨ (((x1 = 6) ∧ ((0 ≤ x2) ∧ (((x2 + 1) ≤ nodes_0) ∧ ((0 ≤ x3) ∧ ((x3 + 1) ≤ groups_0))))) ∨ ((x1 = 7) ∧ ((0 ≤ x2) ∧ (((x2 + 1) ≤ edges_0) ∧ ((0 ≤ x3) ∧ (x3 ≤ 1)))))))))))) := by
  first
    | (intro h; exfalso; omega)
    | (intro h; left; omega)
    | (intro h; right; left; omega)
    | (intro h; right; right; left; omega)
    | (intro h; right; right; right; left; omega)
    | (intro h; right; right; right; right; left; omega)
    | (intro h; right; right; right; right; right; left; omega)
    | (intro h; right; right; right; right; right; right; left; omega)
    | (intro h; right; right; right; right; right; right; right; omega)
    | omega
  
def o_Gr_mayAlter_18 : or_T := (129, 5, [(0, (2, 0, 0, [3])), (1, (0, 2, 2, [])), (2, (0, 0, 47, [])), (3, (0, -2147483648, 2147483647, [])), (4, (0, 1, 1, []))], [(20, [4, 2, 0], [50, 1, 0, 2001, 4, 6, 1, 2, 1, 0, 0, 1, 2, 6, 0, 2, 0, 0, 1, 1, 0, 6, 4, 2, 1, 1, 0, 1, 2, 2, 1]), (20, [4, 2, 0], [50, 1, 0, 2001, 4, 6, 1, 2, 1, 0, 0, 0, 3, 6, 0, 2, 1, 1, 0, -1, 0, 3, 2, 2, 1, 1, 1])], [], [], [(20, [4, 1, 2, 0, 3], [50, 3, 0, 3002, 3000, 3001, 4, 6, 1, 2, 1, 0, 0, 1, 3, 36, 2, 6, 1, 2, 1, 1, 0, 0, 2, 6, 0, 2, 0, 0, 1, 2, 2, 11, 0, 6, 4, 2, 1, 2, 0, 1, 2, 3, 2, 0, 3, 2, 3, 0, 0, 23, 3, 81, 2, 6, 1, 2, 1, 1, 0, 1, 2, 6, 0, 2, 0, 0, 1, 2, 2, 11, 0, 6, 4, 2, 1, 2, 0, 1, 2, 3, 0, 2, 6, 0, 2, 0, 0, 1, 4, 2, 11, 0, 6, 4, 2, 1, 4, 0, 1, 2, 3, 0, 2, 7, 0, 3, 2, 3, 1, 0, 47, 3, 10, 0, 6, 4, 2, 1, 2, 0, 1, 1, 4, 0, 6, 4, 2, 1, 4, 0, 1, 1, 2, 3, 27, 2, 6, 1, 2, 1, 1, 0, 2, 2, 6, 0, 2, 0, 0, 1, 2, 0, 6, 4, 2, 1, 2, 0, 1, 2, 3, 1, 3, 27, 2, 6, 1, 2, 1, 1, 0, 3, 2, 6, 0, 2, 0, 0, 1, 2, 0, 6, 4, 2, 1, 2, 0, 1, 2, 3, 0, 3, 43, 2, 6, 1, 2, 1, 1, 0, 4, 2, 6, 0, 2, 0, 0, 1, 2, 2, 11, 0, 6, 4, 2, 1, 2, 0, 1, 2, 3, 0, 2, 6, 0, 2, 0, 1, 1, 4, 0, 2, 1, 4, 0, 99, 3, 43, 2, 6, 1, 2, 1, 1, 0, 5, 2, 6, 0, 2, 0, 0, 1, 2, 2, 11, 0, 6, 4, 2, 1, 2, 0, 1, 2, 3, 1, 2, 6, 0, 2, 0, 1, 1, 4, 0, 2, 1, 4, 0, 9, 3, 48, 2, 6, 1, 2, 1, 1, 0, 6, 2, 6, 0, 2, 0, 0, 1, 2, 2, 11, 0, 6, 4, 2, 1, 2, 0, 1, 2, 3, 0, 2, 6, 0, 2, 0, 0, 1, 4, 0, 6, 4, 2, 1, 4, 0, 1, 2, 3, 2, 2, 6, 1, 2, 1, 1, 0, 7, 2, 6, 0, 2, 0, 0, 1, 2, 2, 11, 0, 6, 4, 2, 1, 2, 0, 1, 2, 3, 1, 2, 6, 0, 2, 0, 0, 1, 4, 0, 2, 1, 4, 0, 1])], [], [])
theorem oo_Gr_mayAlter_18 {kA : Nat → ClassId} : or_ok PRD kA GG o_Gr_mayAlter_18 := by
  refine or_mk fun A ta ws vs hD hth hl => ?_
  intro t0 r0 t1 k1 t2 k2 t3 k3 t4 k4 f0 f1
  have kz_0_0 := fdq_21 hD hth r0
  have kz_0_1 := fdq_30 hD hth r0
  have kz_0_2 := fdq_20 hD hth r0
  have nf0 : fc_1 PRD (20, [4, 1, 2, 0, 3], [50, 3, 0, 3002, 3000, 3001, 4, 6, 1, 2, 1, 0, 0, 1, 3, 36, 2, 6, 1, 2, 1, 1, 0, 0, 2, 6, 0, 2, 0, 0, 1, 2, 2, 11, 0, 6, 4, 2, 1, 2, 0, 1, 2, 3, 2, 0, 3, 2, 3, 0, 0, 23, 3, 81, 2, 6, 1, 2, 1, 1, 0, 1, 2, 6, 0, 2, 0, 0, 1, 2, 2, 11, 0, 6, 4, 2, 1, 2, 0, 1, 2, 3, 0, 2, 6, 0, 2, 0, 0, 1, 4, 2, 11, 0, 6, 4, 2, 1, 4, 0, 1, 2, 3, 0, 2, 7, 0, 3, 2, 3, 1, 0, 47, 3, 10, 0, 6, 4, 2, 1, 2, 0, 1, 1, 4, 0, 6, 4, 2, 1, 4, 0, 1, 1, 2, 3, 27, 2, 6, 1, 2, 1, 1, 0, 2, 2, 6, 0, 2, 0, 0, 1, 2, 0, 6, 4, 2, 1, 2, 0, 1, 2, 3, 1, 3, 27, 2, 6, 1, 2, 1, 1, 0, 3, 2, 6, 0, 2, 0, 0, 1, 2, 0, 6, 4, 2, 1, 2, 0, 1, 2, 3, 0, 3, 43, 2, 6, 1, 2, 1, 1, 0, 4, 2, 6, 0, 2, 0, 0, 1, 2, 2, 11, 0, 6, 4, 2, 1, 2, 0, 1, 2, 3, 0, 2, 6, 0, 2, 0, 1, 1, 4, 0, 2, 1, 4, 0, 99, 3, 43, 2, 6, 1, 2, 1, 1, 0, 5, 2, 6, 0, 2, 0, 0, 1, 2, 2, 11, 0, 6, 4, 2, 1, 2, 0, 1, 2, 3, 1, 2, 6, 0, 2, 0, 1, 1, 4, 0, 2, 1, 4, 0, 9, 3, 48, 2, 6, 1, 2, 1, 1, 0, 6, 2, 6, 0, 2, 0, 0, 1, 2, 2, 11, 0, 6, 4, 2, 1, 2, 0, 1, 2, 3, 0, 2, 6, 0, 2, 0, 0, 1, 4, 0, 6, 4, 2, 1, 4, 0, 1, 2, 3, 2, 2, 6, 1, 2, 1, 1, 0, 7, 2, 6, 0, 2, 0, 0, 1, 2, 2, 11, 0, 6, 4, 2, 1, 2, 0, 1, 2, 3, 1, 2, 6, 0, 2, 0, 0, 1, 4, 0, 2, 1, 4, 0, 1]) ws (vs) := ⟨nf_in hl rfl, sgq_1778 (vc_Gr_mayAlter_18_0 (v_iv (n_v vs 1)) (v_iv (n_v vs 2)) (v_iv (n_v vs 3)) (v_iv (n_v vs 4)) (w_fi ws (n_v vs 0) 1) (w_fi ws (n_v vs 0) 0) (w_fi ws (n_v vs 0) 2) k1 k2 k3 k4 (shm_378 f0) (shm_379 f1) kz_0_0 kz_0_1 kz_0_2)⟩
  refine ⟨(fun _ h => (by cases h)), [], trivial, ?_, (fun _ h => (by cases h))⟩
  rw [List.append_nil]
  exact List.forall_mem_cons.mpr ⟨⟨show (20 : Nat) < 100 from by decide, nf0⟩, (fun _ h => (by cases h))⟩
set_option maxHeartbeats 4000000 in
theorem vc_Gr_mayAlter_19_0 (x1 : Int) (x2 : Int) (x3 : Int) (x4 : Int) (nodes_0 : Int) (edges_0 : Int) (groups_0 : Int) (k1 : 3 ≤ x1 ∧ x1 ≤ 3) (k2 : (-2147483648) ≤ x2 ∧ x2 ≤ (-1)) (k3 : (-2147483648) ≤ x3 ∧ x3 ≤ 2147483647) (k4 : 0 ≤ x4 ∧ x4 ≤ 0) (kz_0_0 : 0 ≤ nodes_0 ∧ nodes_0 ≤ 24) (kz_0_1 : 0 ≤ edges_0 ∧ edges_0 ≤ 48) (kz_0_2 : 0 ≤ groups_0 ∧ groups_0 ≤ 8) : (x4 = 1) → (((x1 = 0) ∧ ((0 ≤ x2) ∧ (((x2 + 1) ≤ groups_0) ∧ (nodes_0 ≤ 23)))) ∨ (((x1 = 1) ∧ ((0 ≤ x2) ∧ (((x2 + 1) ≤ nodes_0) ∧ ((0 ≤ x3) ∧ (((x3 + 1) ≤ nodes_0) ∧ ((edges_0 ≤ 47) ∧ (((x2 + 1) ≤ x3) ∨ ((x3 + 1) ≤ x2)))))))) ∨ (((x1 = 2) ∧ ((0 ≤ x2) ∧ ((x2 + 1) ≤ edges_0))) ∨ (((x1 = 3) ∧ ((0 ≤ x2) ∧ ((x2 + 1) ≤ nodes_0))) ∨ (((x1 = 4) ∧ ((0 ≤ x2) ∧ (((x2 + 1) ≤ nodes_0) ∧ ((1 ≤ x3) ∧ (x3 ≤ 99))))) ∨ (((x1 = 5) ∧ ((0 ≤ x2) ∧ (((x2 + 1) ≤ edges_0) ∧ ((1 ≤ x3) ∧ (x3 ≤ 9))))) ∨ (((x1 = 6) ∧ ((0 ≤ x2) ∧ (((x2 + 1) ≤ nodes_0) ∧ ((0 ≤ x3) ∧ ((x3 + 1) ≤ groups_0))))) ∨ ((x1 = 7) ∧ ((0 ≤ x2) ∧ (((x2 + 1) ≤ edges_0) ∧ ((0 ≤ x3) ∧ (x3 ≤ 1)))))))))))) := by
  first
    | (intro h; exfalso; omega)
    | (intro h; left; omega)
    | (intro h; right; left; omega)
    | (intro h; right; right; left; omega)
    | (intro h; right; right; right; left; omega)
    | (intro h; right; right; right; right; left; omega)
    | (intro h; right; right; right; right; right; left; omega)
    | (intro h; right; right; right; right; right; right; left; omega)
    | (intro h; right; right; right; right; right; right; right; omega)
    | omega
  
def o_Gr_mayAlter_19 : or_T := (135, 5, [(0, (2, 0, 0, [3])), (1, (0, 3, 3, [])), (2, (0, -2147483648, -1, [])), (3, (0, -2147483648, 2147483647, [])), (4, (0, 0, 0, []))], [(20, [4, 2, 0], [50, 1, 0, 2000, 4, 6, 1, 2, 1, 0, 0, 1, 2, 6, 0, 2, 0, 0, 1, 1, 0, 6, 4, 2, 1, 1, 0, 1, 2, 2, 0])], [], [], [(20, [4, 1, 2, 0, 3], [50, 3, 0, 3002, 3000, 3001, 4, 6, 1, 2, 1, 0, 0, 1, 3, 36, 2, 6, 1, 2, 1, 1, 0, 0, 2, 6, 0, 2, 0, 0, 1, 2, 2, 11, 0, 6, 4, 2, 1, 2, 0, 1, 2, 3, 2, 0, 3, 2, 3, 0, 0, 23, 3, 81, 2, 6, 1, 2, 1, 1, 0, 1, 2, 6, 0, 2, 0, 0, 1, 2, 2, 11, 0, 6, 4, 2, 1, 2, 0, 1, 2, 3, 0, 2, 6, 0, 2, 0, 0, 1, 4, 2, 11, 0, 6, 4, 2, 1, 4, 0, 1, 2, 3, 0, 2, 7, 0, 3, 2, 3, 1, 0, 47, 3, 10, 0, 6, 4, 2, 1, 2, 0, 1, 1, 4, 0, 6, 4, 2, 1, 4, 0, 1, 1, 2, 3, 27, 2, 6, 1, 2, 1, 1, 0, 2, 2, 6, 0, 2, 0, 0, 1, 2, 0, 6, 4, 2, 1, 2, 0, 1, 2, 3, 1, 3, 27, 2, 6, 1, 2, 1, 1, 0, 3, 2, 6, 0, 2, 0, 0, 1, 2, 0, 6, 4, 2, 1, 2, 0, 1, 2, 3, 0, 3, 43, 2, 6, 1, 2, 1, 1, 0, 4, 2, 6, 0, 2, 0, 0, 1, 2, 2, 11, 0, 6, 4, 2, 1, 2, 0, 1, 2, 3, 0, 2, 6, 0, 2, 0, 1, 1, 4, 0, 2, 1, 4, 0, 99, 3, 43, 2, 6, 1, 2, 1, 1, 0, 5, 2, 6, 0, 2, 0, 0, 1, 2, 2, 11, 0, 6, 4, 2, 1, 2, 0, 1, 2, 3, 1, 2, 6, 0, 2, 0, 1, 1, 4, 0, 2, 1, 4, 0, 9, 3, 48, 2, 6, 1, 2, 1, 1, 0, 6, 2, 6, 0, 2, 0, 0, 1, 2, 2, 11, 0, 6, 4, 2, 1, 2, 0, 1, 2, 3, 0, 2, 6, 0, 2, 0, 0, 1, 4, 0, 6, 4, 2, 1, 4, 0, 1, 2, 3, 2, 2, 6, 1, 2, 1, 1, 0, 7, 2, 6, 0, 2, 0, 0, 1, 2, 2, 11, 0, 6, 4, 2, 1, 2, 0, 1, 2, 3, 1, 2, 6, 0, 2, 0, 0, 1, 4, 0, 2, 1, 4, 0, 1])], [], [])
theorem oo_Gr_mayAlter_19 {kA : Nat → ClassId} : or_ok PRD kA GG o_Gr_mayAlter_19 := by
  refine or_mk fun A ta ws vs hD hth hl => ?_
  intro t0 r0 t1 k1 t2 k2 t3 k3 t4 k4 f0
  have kz_0_0 := fdq_21 hD hth r0
  have kz_0_1 := fdq_30 hD hth r0
  have kz_0_2 := fdq_20 hD hth r0
  have nf0 : fc_1 PRD (20, [4, 1, 2, 0, 3], [50, 3, 0, 3002, 3000, 3001, 4, 6, 1, 2, 1, 0, 0, 1, 3, 36, 2, 6, 1, 2, 1, 1, 0, 0, 2, 6, 0, 2, 0, 0, 1, 2, 2, 11, 0, 6, 4, 2, 1, 2, 0, 1, 2, 3, 2, 0, 3, 2, 3, 0, 0, 23, 3, 81, 2, 6, 1, 2, 1, 1, 0, 1, 2, 6, 0, 2, 0, 0, 1, 2, 2, 11, 0, 6, 4, 2, 1, 2, 0, 1, 2, 3, 0, 2, 6, 0, 2, 0, 0, 1, 4, 2, 11, 0, 6, 4, 2, 1, 4, 0, 1, 2, 3, 0, 2, 7, 0, 3, 2, 3, 1, 0, 47, 3, 10, 0, 6, 4, 2, 1, 2, 0, 1, 1, 4, 0, 6, 4, 2, 1, 4, 0, 1, 1, 2, 3, 27, 2, 6, 1, 2, 1, 1, 0, 2, 2, 6, 0, 2, 0, 0, 1, 2, 0, 6, 4, 2, 1, 2, 0, 1, 2, 3, 1, 3, 27, 2, 6, 1, 2, 1, 1, 0, 3, 2, 6, 0, 2, 0, 0, 1, 2, 0, 6, 4, 2, 1, 2, 0, 1, 2, 3, 0, 3, 43, 2, 6, 1, 2, 1, 1, 0, 4, 2, 6, 0, 2, 0, 0, 1, 2, 2, 11, 0, 6, 4, 2, 1, 2, 0, 1, 2, 3, 0, 2, 6, 0, 2, 0, 1, 1, 4, 0, 2, 1, 4, 0, 99, 3, 43, 2, 6, 1, 2, 1, 1, 0, 5, 2, 6, 0, 2, 0, 0, 1, 2, 2, 11, 0, 6, 4, 2, 1, 2, 0, 1, 2, 3, 1, 2, 6, 0, 2, 0, 1, 1, 4, 0, 2, 1, 4, 0, 9, 3, 48, 2, 6, 1, 2, 1, 1, 0, 6, 2, 6, 0, 2, 0, 0, 1, 2, 2, 11, 0, 6, 4, 2, 1, 2, 0, 1, 2, 3, 0, 2, 6, 0, 2, 0, 0, 1, 4, 0, 6, 4, 2, 1, 4, 0, 1, 2, 3, 2, 2, 6, 1, 2, 1, 1, 0, 7, 2, 6, 0, 2, 0, 0, 1, 2, 2, 11, 0, 6, 4, 2, 1, 2, 0, 1, 2, 3, 1, 2, 6, 0, 2, 0, 0, 1, 4, 0, 2, 1, 4, 0, 1]) ws (vs) := ⟨nf_in hl rfl, sgq_1778 (vc_Gr_mayAlter_19_0 (v_iv (n_v vs 1)) (v_iv (n_v vs 2)) (v_iv (n_v vs 3)) (v_iv (n_v vs 4)) (w_fi ws (n_v vs 0) 0) (w_fi ws (n_v vs 0) 1) (w_fi ws (n_v vs 0) 2) k1 k2 k3 k4 kz_0_0 kz_0_1 kz_0_2)⟩
  refine ⟨(fun _ h => (by cases h)), [], trivial, ?_, (fun _ h => (by cases h))⟩
  rw [List.append_nil]
  exact List.forall_mem_cons.mpr ⟨⟨show (20 : Nat) < 100 from by decide, nf0⟩, (fun _ h => (by cases h))⟩
set_option maxHeartbeats 4000000 in
theorem vc_Gr_mayAlter_20_0 (x1 : Int) (x2 : Int) (x3 : Int) (x4 : Int) (nodes_0 : Int) (edges_0 : Int) (groups_0 : Int) (k1 : 3 ≤ x1 ∧ x1 ≤ 3) (k2 : 0 ≤ x2 ∧ x2 ≤ 2147483647) (k3 : (-2147483648) ≤ x3 ∧ x3 ≤ 2147483647) (k4 : 0 ≤ x4 ∧ x4 ≤ 0) (kz_0_0 : 0 ≤ nodes_0 ∧ nodes_0 ≤ 24) (kz_0_1 : 0 ≤ edges_0 ∧ edges_0 ≤ 48) (kz_0_2 : 0 ≤ groups_0 ∧ groups_0 ≤ 8) : (x4 = 1) → (((x1 = 0) ∧ ((0 ≤ x2) ∧ (((x2 + 1) ≤ groups_0) ∧ (nodes_0 ≤ 23)))) ∨ (((x1 = 1) ∧ ((0 ≤ x2) ∧ (((x2 + 1) ≤ nodes_0) ∧ ((0 ≤ x3) ∧ (((x3 + 1) ≤ nodes_0) ∧ ((edges_0 ≤ 47) ∧ (((x2 + 1) ≤ x3) ∨ ((x3 + 1) ≤ x2)))))))) ∨ (((x1 = 2) ∧ ((0 ≤ x2) ∧ ((x2 + 1) ≤ edges_0))) ∨ (((x1 = 3) ∧ ((0 ≤ x2) ∧ ((x2 + 1) ≤ nodes_0))) ∨ (((x1 = 4) ∧ ((0 ≤ x2) ∧ (((x2 + 1) ≤ nodes_0) ∧ ((1 ≤ x3) ∧ (x3 ≤ 99))))) ∨ (((x1 = 5) ∧ ((0 ≤ x2) ∧ (((x2 + 1) ≤ edges_0) ∧ ((1 ≤ x3) ∧ (x3 ≤ 9))))) ∨ (((x1 = 6) ∧ ((0 ≤ x2) ∧ (((x2 + 1) ≤ nodes_0) ∧ ((0 ≤ x3) ∧ ((x3 + 1) ≤ groups_0))))) ∨ ((x1 = 7) ∧ ((0 ≤ x2) ∧ (((x2 + 1) ≤ edges_0) ∧ ((0 ≤ x3) ∧ (x3 ≤ 1)))))))))))) := by
  first
    | (intro h; exfalso; omega)
    | (intro h; left; omega)
    | (intro h; right; left; omega)
    | (intro h; right; right; left; omega)
    | (intro h; right; right; right; left; omega)
    | (intro h; right; right; right; right; left; omega)
    | (intro h; right; right; right; right; right; left; omega)
    | (intro h; right; right; right; right; right; right; left; omega)
    | (intro h; right; right; right; right; right; right; right; omega)
    | omega
  
def o_Gr_mayAlter_20 : or_T := (135, 5, [(0, (2, 0, 0, [3])), (1, (0, 3, 3, [])), (2, (0, 0, 2147483647, [])), (3, (0, -2147483648, 2147483647, [])), (4, (0, 0, 0, []))], [(20, [4, 2, 0], [50, 1, 0, 2000, 4, 6, 1, 2, 1, 0, 0, 1, 2, 6, 0, 2, 0, 0, 1, 1, 0, 6, 4, 2, 1, 1, 0, 1, 2, 2, 0])], [], [], [(20, [4, 1, 2, 0, 3], [50, 3, 0, 3002, 3000, 3001, 4, 6, 1, 2, 1, 0, 0, 1, 3, 36, 2, 6, 1, 2, 1, 1, 0, 0, 2, 6, 0, 2, 0, 0, 1, 2, 2, 11, 0, 6, 4, 2, 1, 2, 0, 1, 2, 3, 2, 0, 3, 2, 3, 0, 0, 23, 3, 81, 2, 6, 1, 2, 1, 1, 0, 1, 2, 6, 0, 2, 0, 0, 1, 2, 2, 11, 0, 6, 4, 2, 1, 2, 0, 1, 2, 3, 0, 2, 6, 0, 2, 0, 0, 1, 4, 2, 11, 0, 6, 4, 2, 1, 4, 0, 1, 2, 3, 0, 2, 7, 0, 3, 2, 3, 1, 0, 47, 3, 10, 0, 6, 4, 2, 1, 2, 0, 1, 1, 4, 0, 6, 4, 2, 1, 4, 0, 1, 1, 2, 3, 27, 2, 6, 1, 2, 1, 1, 0, 2, 2, 6, 0, 2, 0, 0, 1, 2, 0, 6, 4, 2, 1, 2, 0, 1, 2, 3, 1, 3, 27, 2, 6, 1, 2, 1, 1, 0, 3, 2, 6, 0, 2, 0, 0, 1, 2, 0, 6, 4, 2, 1, 2, 0, 1, 2, 3, 0, 3, 43, 2, 6, 1, 2, 1, 1, 0, 4, 2, 6, 0, 2, 0, 0, 1, 2, 2, 11, 0, 6, 4, 2, 1, 2, 0, 1, 2, 3, 0, 2, 6, 0, 2, 0, 1, 1, 4, 0, 2, 1, 4, 0, 99, 3, 43, 2, 6, 1, 2, 1, 1, 0, 5, 2, 6, 0, 2, 0, 0, 1, 2, 2, 11, 0, 6, 4, 2, 1, 2, 0, 1, 2, 3, 1, 2, 6, 0, 2, 0, 1, 1, 4, 0, 2, 1, 4, 0, 9, 3, 48, 2, 6, 1, 2, 1, 1, 0, 6, 2, 6, 0, 2, 0, 0, 1, 2, 2, 11, 0, 6, 4, 2, 1, 2, 0, 1, 2, 3, 0, 2, 6, 0, 2, 0, 0, 1, 4, 0, 6, 4, 2, 1, 4, 0, 1, 2, 3, 2, 2, 6, 1, 2, 1, 1, 0, 7, 2, 6, 0, 2, 0, 0, 1, 2, 2, 11, 0, 6, 4, 2, 1, 2, 0, 1, 2, 3, 1, 2, 6, 0, 2, 0, 0, 1, 4, 0, 2, 1, 4, 0, 1])], [], [])
theorem oo_Gr_mayAlter_20 {kA : Nat → ClassId} : or_ok PRD kA GG o_Gr_mayAlter_20 := by
  refine or_mk fun A ta ws vs hD hth hl => ?_
  intro t0 r0 t1 k1 t2 k2 t3 k3 t4 k4 f0
  have kz_0_0 := fdq_21 hD hth r0
  have kz_0_1 := fdq_30 hD hth r0
  have kz_0_2 := fdq_20 hD hth r0
  have nf0 : fc_1 PRD (20, [4, 1, 2, 0, 3], [50, 3, 0, 3002, 3000, 3001, 4, 6, 1, 2, 1, 0, 0, 1, 3, 36, 2, 6, 1, 2, 1, 1, 0, 0, 2, 6, 0, 2, 0, 0, 1, 2, 2, 11, 0, 6, 4, 2, 1, 2, 0, 1, 2, 3, 2, 0, 3, 2, 3, 0, 0, 23, 3, 81, 2, 6, 1, 2, 1, 1, 0, 1, 2, 6, 0, 2, 0, 0, 1, 2, 2, 11, 0, 6, 4, 2, 1, 2, 0, 1, 2, 3, 0, 2, 6, 0, 2, 0, 0, 1, 4, 2, 11, 0, 6, 4, 2, 1, 4, 0, 1, 2, 3, 0, 2, 7, 0, 3, 2, 3, 1, 0, 47, 3, 10, 0, 6, 4, 2, 1, 2, 0, 1, 1, 4, 0, 6, 4, 2, 1, 4, 0, 1, 1, 2, 3, 27, 2, 6, 1, 2, 1, 1, 0, 2, 2, 6, 0, 2, 0, 0, 1, 2, 0, 6, 4, 2, 1, 2, 0, 1, 2, 3, 1, 3, 27, 2, 6, 1, 2, 1, 1, 0, 3, 2, 6, 0, 2, 0, 0, 1, 2, 0, 6, 4, 2, 1, 2, 0, 1, 2, 3, 0, 3, 43, 2, 6, 1, 2, 1, 1, 0, 4, 2, 6, 0, 2, 0, 0, 1, 2, 2, 11, 0, 6, 4, 2, 1, 2, 0, 1, 2, 3, 0, 2, 6, 0, 2, 0, 1, 1, 4, 0, 2, 1, 4, 0, 99, 3, 43, 2, 6, 1, 2, 1, 1, 0, 5, 2, 6, 0, 2, 0, 0, 1, 2, 2, 11, 0, 6, 4, 2, 1, 2, 0, 1, 2, 3, 1, 2, 6, 0, 2, 0, 1, 1, 4, 0, 2, 1, 4, 0, 9, 3, 48, 2, 6, 1, 2, 1, 1, 0, 6, 2, 6, 0, 2, 0, 0, 1, 2, 2, 11, 0, 6, 4, 2, 1, 2, 0, 1, 2, 3, 0, 2, 6, 0, 2, 0, 0, 1, 4, 0, 6, 4, 2, 1, 4, 0, 1, 2, 3, 2, 2, 6, 1, 2, 1, 1, 0, 7, 2, 6, 0, 2, 0, 0, 1, 2, 2, 11, 0, 6, 4, 2, 1, 2, 0, 1, 2, 3, 1, 2, 6, 0, 2, 0, 0, 1, 4, 0, 2, 1, 4, 0, 1]) ws (vs) := ⟨nf_in hl rfl, sgq_1778 (vc_Gr_mayAlter_20_0 (v_iv (n_v vs 1)) (v_iv (n_v vs 2)) (v_iv (n_v vs 3)) (v_iv (n_v vs 4)) (w_fi ws (n_v vs 0) 0) (w_fi ws (n_v vs 0) 1) (w_fi ws (n_v vs 0) 2) k1 k2 k3 k4 kz_0_0 kz_0_1 kz_0_2)⟩
  refine ⟨(fun _ h => (by cases h)), [], trivial, ?_, (fun _ h => (by cases h))⟩
  rw [List.append_nil]
  exact List.forall_mem_cons.mpr ⟨⟨show (20 : Nat) < 100 from by decide, nf0⟩, (fun _ h => (by cases h))⟩
set_option maxHeartbeats 4000000 in
theorem vc_Gr_mayAlter_21_0 (x1 : Int) (x2 : Int) (x3 : Int) (x4 : Int) (nodes_0 : Int) (edges_0 : Int) (groups_0 : Int) (k1 : 3 ≤ x1 ∧ x1 ≤ 3) (k2 : 0 ≤ x2 ∧ x2 ≤ 23) (k3 : (-2147483648) ≤ x3 ∧ x3 ≤ 2147483647) (k4 : 1 ≤ x4 ∧ x4 ≤ 1) (f0 : (x4 = 1) → ((0 ≤ x2) ∧ ((x2 + 1) ≤ nodes_0))) (kz_0_0 : 0 ≤ nodes_0 ∧ nodes_0 ≤ 24) (kz_0_1 : 0 ≤ edges_0 ∧ edges_0 ≤ 48) (kz_0_2 : 0 ≤ groups_0 ∧ groups_0 ≤ 8) : (x4 = 1) → (((x1 = 0) ∧ ((0 ≤ x2) ∧ (((x2 + 1) ≤ groups_0) ∧ (nodes_0 ≤ 23)))) ∨ (((x1 = 1) ∧ ((0 ≤ x2) ∧ (((x2 + 1) ≤ nodes_0) ∧ ((0 ≤ x3) ∧ (((x3 + 1) ≤ nodes_0) ∧ ((edges_0 ≤ 47) ∧ (((x2 + 1) ≤ x3) ∨ ((x3 + 1) ≤ x2)))))))) ∨ (((x1 = 2) ∧ ((0 ≤ x2) ∧ ((x2 + 1) ≤ edges_0))) ∨ (((x1 = 3) ∧ ((0 ≤ x2) ∧ ((x2 + 1) ≤ nodes_0))) ∨ (((x1 = 4) ∧ ((0 ≤ x2) ∧ (((x2 + 1) ≤ nodes_0) ∧ ((1 ≤ x3) ∧ (x3 ≤ 99))))) ∨ (((x1 = 5) ∧ ((0 ≤ x2) ∧ (((x2 + 1) ≤ edges_0) ∧ ((1 ≤ x3) ∧ (x3 ≤ 9))))) ∨ (((x1 = 6) ∧ ((0 ≤ x2) ∧ (((x2 + 1) ≤ nodes_0) ∧ ((0 ≤ x3) ∧ ((x3 + 1) ≤ groups_0))))) ∨ ((x1 = 7) ∧ ((0 ≤ x2) ∧ (((x2 + 1) ≤ edges_0) ∧ ((0 ≤ x3) ∧ (x3 ≤ 1)))))))))))) := by
  first
    | (intro h; exfalso; omega)
    | (intro h; left; omega)
    | (intro h; right; left; omega)
    | (intro h; right; right; left; omega)
    | (intro h; right; right; right; left; omega)
    | (intro h; right; right; right; right; left; omega)
    | (intro h; right; right; right; right; right; left; omega)
    | (intro h; right; right; right; right; right; right; left; omega)
    | (intro h; right; right; right; right; right; right; right; omega)
    | omega
  
def o_Gr_mayAlter_21 : or_T := (135, 5, [(0, (2, 0, 0, [3])), (1, (0, 3, 3, [])), (2, (0, 0, 23, [])), (3, (0, -2147483648, 2147483647, [])), (4, (0, 1, 1, []))], [(20, [4, 2, 0], [50, 1, 0, 2000, 4, 6, 1, 2, 1, 0, 0, 1, 2, 6, 0, 2, 0, 0, 1, 1, 0, 6, 4, 2, 1, 1, 0, 1, 2, 2, 0])], [], [], [(20, [4, 1, 2, 0, 3], [50, 3, 0, 3002, 3000, 3001, 4, 6, 1, 2, 1, 0, 0, 1, 3, 36, 2, 6, 1, 2, 1, 1, 0, 0, 2, 6, 0, 2, 0, 0, 1, 2, 2, 11, 0, 6, 4, 2, 1, 2, 0, 1, 2, 3, 2, 0, 3, 2, 3, 0, 0, 23, 3, 81, 2, 6, 1, 2, 1, 1, 0, 1, 2, 6, 0, 2, 0, 0, 1, 2, 2, 11, 0, 6, 4, 2, 1, 2, 0, 1, 2, 3, 0, 2, 6, 0, 2, 0, 0, 1, 4, 2, 11, 0, 6, 4, 2, 1, 4, 0, 1, 2, 3, 0, 2, 7, 0, 3, 2, 3, 1, 0, 47, 3, 10, 0, 6, 4, 2, 1, 2, 0, 1, 1, 4, 0, 6, 4, 2, 1, 4, 0, 1, 1, 2, 3, 27, 2, 6, 1, 2, 1, 1, 0, 2, 2, 6, 0, 2, 0, 0, 1, 2, 0, 6, 4, 2, 1, 2, 0, 1, 2, 3, 1, 3, 27, 2, 6, 1, 2, 1, 1, 0, 3, 2, 6, 0, 2, 0, 0, 1, 2, 0, 6, 4, 2, 1, 2, 0, 1, 2, 3, 0, 3, 43, 2, 6, 1, 2, 1, 1, 0, 4, 2, 6, 0, 2, 0, 0, 1, 2, 2, 11, 0, 6, 4, 2, 1, 2, 0, 1, 2, 3, 0, 2, 6, 0, 2, 0, 1, 1, 4, 0, 2, 1, 4, 0, 99, 3, 43, 2, 6, 1, 2, 1, 1, 0, 5, 2, 6, 0, 2, 0, 0, 1, 2, 2, 11, 0, 6, 4, 2, 1, 2, 0, 1, 2, 3, 1, 2, 6, 0, 2, 0, 1, 1, 4, 0, 2, 1, 4, 0, 9, 3, 48, 2, 6, 1, 2, 1, 1, 0, 6, 2, 6, 0, 2, 0, 0, 1, 2, 2, 11, 0, 6, 4, 2, 1, 2, 0, 1, 2, 3, 0, 2, 6, 0, 2, 0, 0, 1, 4, 0, 6, 4, 2, 1, 4, 0, 1, 2, 3, 2, 2, 6, 1, 2, 1, 1, 0, 7, 2, 6, 0, 2, 0, 0, 1, 2, 2, 11, 0, 6, 4, 2, 1, 2, 0, 1, 2, 3, 1, 2, 6, 0, 2, 0, 0, 1, 4, 0, 2, 1, 4, 0, 1])], [], [])
theorem oo_Gr_mayAlter_21 {kA : Nat → ClassId} : or_ok PRD kA GG o_Gr_mayAlter_21 := by
  refine or_mk fun A ta ws vs hD hth hl => ?_
  intro t0 r0 t1 k1 t2 k2 t3 k3 t4 k4 f0
  have kz_0_0 := fdq_21 hD hth r0
  have kz_0_1 := fdq_30 hD hth r0
  have kz_0_2 := fdq_20 hD hth r0
  have nf0 : fc_1 PRD (20, [4, 1, 2, 0, 3], [50, 3, 0, 3002, 3000, 3001, 4, 6, 1, 2, 1, 0, 0, 1, 3, 36, 2, 6, 1, 2, 1, 1, 0, 0, 2, 6, 0, 2, 0, 0, 1, 2, 2, 11, 0, 6, 4, 2, 1, 2, 0, 1, 2, 3, 2, 0, 3, 2, 3, 0, 0, 23, 3, 81, 2, 6, 1, 2, 1, 1, 0, 1, 2, 6, 0, 2, 0, 0, 1, 2, 2, 11, 0, 6, 4, 2, 1, 2, 0, 1, 2, 3, 0, 2, 6, 0, 2, 0, 0, 1, 4, 2, 11, 0, 6, 4, 2, 1, 4, 0, 1, 2, 3, 0, 2, 7, 0, 3, 2, 3, 1, 0, 47, 3, 10, 0, 6, 4, 2, 1, 2, 0, 1, 1, 4, 0, 6, 4, 2, 1, 4, 0, 1, 1, 2, 3, 27, 2, 6, 1, 2, 1, 1, 0, 2, 2, 6, 0, 2, 0, 0, 1, 2, 0, 6, 4, 2, 1, 2, 0, 1, 2, 3, 1, 3, 27, 2, 6, 1, 2, 1, 1, 0, 3, 2, 6, 0, 2, 0, 0, 1, 2, 0, 6, 4, 2, 1, 2, 0, 1, 2, 3, 0, 3, 43, 2, 6, 1, 2, 1, 1, 0, 4, 2, 6, 0, 2, 0, 0, 1, 2, 2, 11, 0, 6, 4, 2, 1, 2, 0, 1, 2, 3, 0, 2, 6, 0, 2, 0, 1, 1, 4, 0, 2, 1, 4, 0, 99, 3, 43, 2, 6, 1, 2, 1, 1, 0, 5, 2, 6, 0, 2, 0, 0, 1, 2, 2, 11, 0, 6, 4, 2, 1, 2, 0, 1, 2, 3, 1, 2, 6, 0, 2, 0, 1, 1, 4, 0, 2, 1, 4, 0, 9, 3, 48, 2, 6, 1, 2, 1, 1, 0, 6, 2, 6, 0, 2, 0, 0, 1, 2, 2, 11, 0, 6, 4, 2, 1, 2, 0, 1, 2, 3, 0, 2, 6, 0, 2, 0, 0, 1, 4, 0, 6, 4, 2, 1, 4, 0, 1, 2, 3, 2, 2, 6, 1, 2, 1, 1, 0, 7, 2, 6, 0, 2, 0, 0, 1, 2, 2, 11, 0, 6, 4, 2, 1, 2, 0, 1, 2, 3, 1, 2, 6, 0, 2, 0, 0, 1, 4, 0, 2, 1, 4, 0, 1]) ws (vs) := ⟨nf_in hl rfl, sgq_1778 (vc_Gr_mayAlter_21_0 (v_iv (n_v vs 1)) (v_iv (n_v vs 2)) (v_iv (n_v vs 3)) (v_iv (n_v vs 4)) (w_fi ws (n_v vs 0) 0) (w_fi ws (n_v vs 0) 1) (w_fi ws (n_v vs 0) 2) k1 k2 k3 k4 (shm_384 f0) kz_0_0 kz_0_1 kz_0_2)⟩
  refine ⟨(fun _ h => (by cases h)), [], trivial, ?_, (fun _ h => (by cases h))⟩
  rw [List.append_nil]
  exact List.forall_mem_cons.mpr ⟨⟨show (20 : Nat) < 100 from by decide, nf0⟩, (fun _ h => (by cases h))⟩
set_option maxHeartbeats 4000000 in
theorem vc_Gr_mayAlter_22_0 (x1 : Int) (x2 : Int) (x3 : Int) (x5 : Int) (nodes_0 : Int) (edges_0 : Int) (groups_0 : Int) (k1 : 4 ≤ x1 ∧ x1 ≤ 4) (k2 : (-2147483648) ≤ x2 ∧ x2 ≤ (-1)) (k3 : (-2147483648) ≤ x3 ∧ x3 ≤ 2147483647) (k5 : 0 ≤ x5 ∧ x5 ≤ 0) (kz_0_0 : 0 ≤ nodes_0 ∧ nodes_0 ≤ 24) (kz_0_1 : 0 ≤ edges_0 ∧ edges_0 ≤ 48) (kz_0_2 : 0 ≤ groups_0 ∧ groups_0 ≤ 8) : (x5 = 1) → (((x1 = 0) ∧ ((0 ≤ x2) ∧ (((x2 + 1) ≤ groups_0) ∧ (nodes_0 ≤ 23)))) ∨ (((x1 = 1) ∧ ((0 ≤ x2) ∧ (((x2 + 1) ≤ nodes_0) ∧ ((0 ≤ x3) ∧ (((x3 + 1) ≤ nodes_0) ∧ ((edges_0 ≤ 47) ∧ (((x2 + 1) ≤ x3) ∨ ((x3 + 1) ≤ x2)))))))) ∨ (((x1 = 2) ∧ ((0 ≤ x2) ∧ ((x2 + 1) ≤ edges_0))) ∨ (((x1 = 3) ∧ ((0 ≤ x2) ∧ ((x2 + 1) ≤ nodes_0))) ∨ (((x1 = 4) ∧ ((0 ≤ x2) ∧ (((x2 + 1) ≤ nodes_0) ∧ ((1 ≤ x3) ∧ (x3 ≤ 99))))) ∨ (((x1 = 5) ∧ ((0 ≤ x2) ∧ (((x2 + 1) ≤ edges_0) ∧ ((1 ≤ x3) ∧ (x3 ≤ 9))))) ∨ (((x1 = 6) ∧ ((0 ≤ x2) ∧ (((x2 + 1) ≤ nodes_0) ∧ ((0 ≤ x3) ∧ ((x3 + 1) ≤ groups_0))))) ∨ ((x1 = 7) ∧ ((0 ≤ x2) ∧ (((x2 + 1) ≤ edges_0) ∧ ((0 ≤ x3) ∧ (x3 ≤ 1)))))))))))) := by
  first
    | (intro h; exfalso; omega)
    | (intro h; left; omega)
    | (intro h; right; left; omega)
    | (intro h; right; right; left; omega)
    | (intro h; right; right; right; left; omega)
    | (intro h; right; right; right; right; left; omega)
    | (intro h; right; right; right; right; right; left; omega)
    | (intro h; right; right; right; right; right; right; left; omega)
    | (intro h; right; right; right; right; right; right; right; omega)
    | omega
  
def o_Gr_mayAlter_22 : or_T := (160, 6, [(0, (2, 0, 0, [3])), (1, (0, 4, 4, [])), (2, (0, -2147483648, -1, [])), (3, (0, -2147483648, 2147483647, [])), (4, (0, 0, 0, [])), (5, (0, 0, 0, []))], [(8, [4], [0]), (20, [4, 2, 0], [50, 1, 0, 2000, 4, 6, 1, 2, 1, 0, 0, 1, 2, 6, 0, 2, 0, 0, 1, 1, 0, 6, 4, 2, 1, 1, 0, 1, 2, 2, 0])], [], [], [(20, [5, 1, 2, 0, 3], [50, 3, 0, 3002, 3000, 3001, 4, 6, 1, 2, 1, 0, 0, 1, 3, 36, 2, 6, 1, 2, 1, 1, 0, 0, 2, 6, 0, 2, 0, 0, 1, 2, 2, 11, 0, 6, 4, 2, 1, 2, 0, 1, 2, 3, 2, 0, 3, 2, 3, 0, 0, 23, 3, 81, 2, 6, 1, 2, 1, 1, 0, 1, 2, 6, 0, 2, 0, 0, 1, 2, 2, 11, 0, 6, 4, 2, 1, 2, 0, 1, 2, 3, 0, 2, 6, 0, 2, 0, 0, 1, 4, 2, 11, 0, 6, 4, 2, 1, 4, 0, 1, 2, 3, 0, 2, 7, 0, 3, 2, 3, 1, 0, 47, 3, 10, 0, 6, 4, 2, 1, 2, 0, 1, 1, 4, 0, 6, 4, 2, 1, 4, 0, 1, 1, 2, 3, 27, 2, 6, 1, 2, 1, 1, 0, 2, 2, 6, 0, 2, 0, 0, 1, 2, 0, 6, 4, 2, 1, 2, 0, 1, 2, 3, 1, 3, 27, 2, 6, 1, 2, 1, 1, 0, 3, 2, 6, 0, 2, 0, 0, 1, 2, 0, 6, 4, 2, 1, 2, 0, 1, 2, 3, 0, 3, 43, 2, 6, 1, 2, 1, 1, 0, 4, 2, 6, 0, 2, 0, 0, 1, 2, 2, 11, 0, 6, 4, 2, 1, 2, 0, 1, 2, 3, 0, 2, 6, 0, 2, 0, 1, 1, 4, 0, 2, 1, 4, 0, 99, 3, 43, 2, 6, 1, 2, 1, 1, 0, 5, 2, 6, 0, 2, 0, 0, 1, 2, 2, 11, 0, 6, 4, 2, 1, 2, 0, 1, 2, 3, 1, 2, 6, 0, 2, 0, 1, 1, 4, 0, 2, 1, 4, 0, 9, 3, 48, 2, 6, 1, 2, 1, 1, 0, 6, 2, 6, 0, 2, 0, 0, 1, 2, 2, 11, 0, 6, 4, 2, 1, 2, 0, 1, 2, 3, 0, 2, 6, 0, 2, 0, 0, 1, 4, 0, 6, 4, 2, 1, 4, 0, 1, 2, 3, 2, 2, 6, 1, 2, 1, 1, 0, 7, 2, 6, 0, 2, 0, 0, 1, 2, 2, 11, 0, 6, 4, 2, 1, 2, 0, 1, 2, 3, 1, 2, 6, 0, 2, 0, 0, 1, 4, 0, 2, 1, 4, 0, 1])], [], [])
theorem oo_Gr_mayAlter_22 {kA : Nat → ClassId} : or_ok PRD kA GG o_Gr_mayAlter_22 := by
  refine or_mk fun A ta ws vs hD hth hl => ?_
  intro t0 r0 t1 k1 t2 k2 t3 k3 t4 k4 t5 k5 f0 f1
  have kz_0_0 := fdq_21 hD hth r0
  have kz_0_1 := fdq_30 hD hth r0
  have kz_0_2 := fdq_20 hD hth r0
  have nf0 : fc_1 PRD (20, [5, 1, 2, 0, 3], [50, 3, 0, 3002, 3000, 3001, 4, 6, 1, 2, 1, 0, 0, 1, 3, 36, 2, 6, 1, 2, 1, 1, 0, 0, 2, 6, 0, 2, 0, 0, 1, 2, 2, 11, 0, 6, 4, 2, 1, 2, 0, 1, 2, 3, 2, 0, 3, 2, 3, 0, 0, 23, 3, 81, 2, 6, 1, 2, 1, 1, 0, 1, 2, 6, 0, 2, 0, 0, 1, 2, 2, 11, 0, 6, 4, 2, 1, 2, 0, 1, 2, 3, 0, 2, 6, 0, 2, 0, 0, 1, 4, 2, 11, 0, 6, 4, 2, 1, 4, 0, 1, 2, 3, 0, 2, 7, 0, 3, 2, 3, 1, 0, 47, 3, 10, 0, 6, 4, 2, 1, 2, 0, 1, 1, 4, 0, 6, 4, 2, 1, 4, 0, 1, 1, 2, 3, 27, 2, 6, 1, 2, 1, 1, 0, 2, 2, 6, 0, 2, 0, 0, 1, 2, 0, 6, 4, 2, 1, 2, 0, 1, 2, 3, 1, 3, 27, 2, 6, 1, 2, 1, 1, 0, 3, 2, 6, 0, 2, 0, 0, 1, 2, 0, 6, 4, 2, 1, 2, 0, 1, 2, 3, 0, 3, 43, 2, 6, 1, 2, 1, 1, 0, 4, 2, 6, 0, 2, 0, 0, 1, 2, 2, 11, 0, 6, 4, 2, 1, 2, 0, 1, 2, 3, 0, 2, 6, 0, 2, 0, 1, 1, 4, 0, 2, 1, 4, 0, 99, 3, 43, 2, 6, 1, 2, 1, 1, 0, 5, 2, 6, 0, 2, 0, 0, 1, 2, 2, 11, 0, 6, 4, 2, 1, 2, 0, 1, 2, 3, 1, 2, 6, 0, 2, 0, 1, 1, 4, 0, 2, 1, 4, 0, 9, 3, 48, 2, 6, 1, 2, 1, 1, 0, 6, 2, 6, 0, 2, 0, 0, 1, 2, 2, 11, 0, 6, 4, 2, 1, 2, 0, 1, 2, 3, 0, 2, 6, 0, 2, 0, 0, 1, 4, 0, 6, 4, 2, 1, 4, 0, 1, 2, 3, 2, 2, 6, 1, 2, 1, 1, 0, 7, 2, 6, 0, 2, 0, 0, 1, 2, 2, 11, 0, 6, 4, 2, 1, 2, 0, 1, 2, 3, 1, 2, 6, 0, 2, 0, 0, 1, 4, 0, 2, 1, 4, 0, 1]) ws (vs) := ⟨nf_in hl rfl, sgq_1778 (vc_Gr_mayAlter_22_0 (v_iv (n_v vs 1)) (v_iv (n_v vs 2)) (v_iv (n_v vs 3)) (v_iv (n_v vs 5)) (w_fi ws (n_v vs 0) 0) (w_fi ws (n_v vs 0) 1) (w_fi ws (n_v vs 0) 2) k1 k2 k3 k5 kz_0_0 kz_0_1 kz_0_2)⟩
  refine ⟨(fun _ h => (by cases h)), [], trivial, ?_, (fun _ h => (by cases h))⟩
  rw [List.append_nil]
  exact List.forall_mem_cons.mpr ⟨⟨show (20 : Nat) < 100 from by decide, nf0⟩, (fun _ h => (by cases h))⟩
set_option maxHeartbeats 4000000 in
theorem vc_Gr_mayAlter_23_0 (x1 : Int) (x2 : Int) (x3 : Int) (x5 : Int) (nodes_0 : Int) (edges_0 : Int) (groups_0 : Int) (k1 : 4 ≤ x1 ∧ x1 ≤ 4) (k2 : 0 ≤ x2 ∧ x2 ≤ 2147483647) (k3 : (-2147483648) ≤ x3 ∧ x3 ≤ 2147483647) (k5 : 0 ≤ x5 ∧ x5 ≤ 0) (kz_0_0 : 0 ≤ nodes_0 ∧ nodes_0 ≤ 24) (kz_0_1 : 0 ≤ edges_0 ∧ edges_0 ≤ 48) (kz_0_2 : 0 ≤ groups_0 ∧ groups_0 ≤ 8) : (x5 = 1) → (((x1 = 0) ∧ ((0 ≤ x2) ∧ (((x2 + 1) ≤ groups_0) ∧ (nodes_0 ≤ 23)))) ∨ (((x1 = 1) ∧ ((0 ≤ x2) ∧ (((x2 + 1) ≤ nodes_0) ∧ ((0 ≤ x3) ∧ (((x3 + 1) ≤ nodes_0) ∧ ((edges_0 ≤ 47) ∧ (((x2 + 1) ≤ x3) ∨ ((x3 + 1) ≤ x2)))))))) ∨ (((x1 = 2) ∧ ((0 ≤ x2) ∧ ((x2 + 1) ≤ edges_0))) ∨ (((x1 = 3) ∧ ((0 ≤ x2) ∧ ((x2 + 1) ≤ nodes_0))) ∨ (((x1 = 4) ∧ ((0 ≤ x2) ∧ (((x2 + 1) ≤ nodes_0) ∧ ((1 ≤ x3) ∧ (x3 ≤ 99))))) ∨ (((x1 = 5) ∧ ((0 ≤ x2) ∧ (((x2 + 1) ≤ edges_0) ∧ ((1 ≤ x3) ∧ (x3 ≤ 9))))) ∨ (((x1 = 6) ∧ ((0 ≤ x2) ∧ (((x2 + 1) ≤ nodes_0) ∧ ((0 ≤ x3) ∧ ((x3 + 1) ≤ groups_0))))) ∨ ((x1 = 7) ∧ ((0 ≤ x2) ∧ (((x2 + 1) ≤ edges_0) ∧ ((0 ≤ x3) ∧ (x3 ≤ 1)))))))))))) := by
  first
    | (intro h; exfalso; omega)
    | (intro h; left; omega)
    | (intro h; right; left; omega)
    | (intro h; right; right; left; omega)
    | (intro h; right; right; right; left; omega)
    | (intro h; right; right; right; right; left; omega)
    | (intro h; right; right; right; right; right; left; omega)
    | (intro h; right; right; right; right; right; right; left; omega)
    | (intro h; right; right; right; right; right; right; right; omega)
    | omega
  
def o_Gr_mayAlter_23 : or_T := (160, 6, [(0, (2, 0, 0, [3])), (1, (0, 4, 4, [])), (2, (0, 0, 2147483647, [])), (3, (0, -2147483648, 2147483647, [])), (4, (0, 0, 0, [])), (5, (0, 0, 0, []))], [(8, [4], [0]), (20, [4, 2, 0], [50, 1, 0, 2000, 4, 6, 1, 2, 1, 0, 0, 1, 2, 6, 0, 2, 0, 0, 1, 1, 0, 6, 4, 2, 1, 1, 0, 1, 2, 2, 0])], [], [], [(20, [5, 1, 2, 0, 3], [50, 3, 0, 3002, 3000, 3001, 4, 6, 1, 2, 1, 0, 0, 1, 3, 36, 2, 6, 1, 2, 1, 1, 0, 0, 2, 6, 0, 2, 0, 0, 1, 2, 2, 11, 0, 6, 4, 2, 1, 2, 0, 1, 2, 3, 2, 0, 3, 2, 3, 0, 0, 23, 3, 81, 2, 6, 1, 2, 1, 1, 0, 1, 2, 6, 0, 2, 0, 0, 1, 2, 2, 11, 0, 6, 4, 2, 1, 2, 0, 1, 2, 3, 0, 2, 6, 0, 2, 0, 0, 1, 4, 2, 11, 0, 6, 4, 2, 1, 4, 0, 1, 2, 3, 0, 2, 7, 0, 3, 2, 3, 1, 0, 47, 3, 10, 0, 6, 4, 2, 1, 2, 0, 1, 1, 4, 0, 6, 4, 2, 1, 4, 0, 1, 1, 2, 3, 27, 2, 6, 1, 2, 1, 1, 0, 2, 2, 6, 0, 2, 0, 0, 1, 2, 0, 6, 4, 2, 1, 2, 0, 1, 2, 3, 1, 3, 27, 2, 6, 1, 2, 1, 1, 0, 3, 2, 6, 0, 2, 0, 0, 1, 2, 0, 6, 4, 2, 1, 2, 0, 1, 2, 3, 0, 3, 43, 2, 6, 1, 2, 1, 1, 0, 4, 2, 6, 0, 2, 0, 0, 1, 2, 2, 11, 0, 6, 4, 2, 1, 2, 0, 1, 2, 3, 0, 2, 6, 0, 2, 0, 1, 1, 4, 0, 2, 1, 4, 0, 99, 3, 43, 2, 6, 1, 2, 1, 1, 0, 5, 2, 6, 0, 2, 0, 0, 1, 2, 2, 11, 0, 6, 4, 2, 1, 2, 0, 1, 2, 3, 1, 2, 6, 0, 2, 0, 1, 1, 4, 0, 2, 1, 4, 0, 9, 3, 48, 2, 6, 1, 2, 1, 1, 0, 6, 2, 6, 0, 2, 0, 0, 1, 2, 2, 11, 0, 6, 4, 2, 1, 2, 0, 1, 2, 3, 0, 2, 6, 0, 2, 0, 0, 1, 4, 0, 6, 4, 2, 1, 4, 0, 1, 2, 3, 2, 2, 6, 1, 2, 1, 1, 0, 7, 2, 6, 0, 2, 0, 0, 1, 2, 2, 11, 0, 6, 4, 2, 1, 2, 0, 1, 2, 3, 1, 2, 6, 0, 2, 0, 0, 1, 4, 0, 2, 1, 4, 0, 1])], [], [])
theorem oo_Gr_mayAlter_23 {kA : Nat → ClassId} : or_ok PRD kA GG o_Gr_mayAlter_23 := by
  refine or_mk fun A ta ws vs hD hth hl => ?_
  intro t0 r0 t1 k1 t2 k2 t3 k3 t4 k4 t5 k5 f0 f1
  have kz_0_0 := fdq_21 hD hth r0
  have kz_0_1 := fdq_30 hD hth r0
  have kz_0_2 := fdq_20 hD hth r0
  have nf0 : fc_1 PRD (20, [5, 1, 2, 0, 3], [50, 3, 0, 3002, 3000, 3001, 4, 6, 1, 2, 1, 0, 0, 1, 3, 36, 2, 6, 1, 2, 1, 1, 0, 0, 2, 6, 0, 2, 0, 0, 1, 2, 2, 11, 0, 6, 4, 2, 1, 2, 0, 1, 2, 3, 2, 0, 3, 2, 3, 0, 0, 23, 3, 81, 2, 6, 1, 2, 1, 1, 0, 1, 2, 6, 0, 2, 0, 0, 1, 2, 2, 11, 0, 6, 4, 2, 1, 2, 0, 1, 2, 3, 0, 2, 6, 0, 2, 0, 0, 1, 4, 2, 11, 0, 6, 4, 2, 1, 4, 0, 1, 2, 3, 0, 2, 7, 0, 3, 2, 3, 1, 0, 47, 3, 10, 0, 6, 4, 2, 1, 2, 0, 1, 1, 4, 0, 6, 4, 2, 1, 4, 0, 1, 1, 2, 3, 27, 2, 6, 1, 2, 1, 1, 0, 2, 2, 6, 0, 2, 0, 0, 1, 2, 0, 6, 4, 2, 1, 2, 0, 1, 2, 3, 1, 3, 27, 2, 6, 1, 2, 1, 1, 0, 3, 2, 6, 0, 2, 0, 0, 1, 2, 0, 6, 4, 2, 1, 2, 0, 1, 2, 3, 0, 3, 43, 2, 6, 1, 2, 1, 1, 0, 4, 2, 6, 0, 2, 0, 0, 1, 2, 2, 11, 0, 6, 4, 2, 1, 2, 0, 1, 2, 3, 0, 2, 6, 0, 2, 0, 1, 1, 4, 0, 2, 1, 4, 0, 99, 3, 43, 2, 6, 1, 2, 1, 1, 0, 5, 2, 6, 0, 2, 0, 0, 1, 2, 2, 11, 0, 6, 4, 2, 1, 2, 0, 1, 2, 3, 1, 2, 6, 0, 2, 0, 1, 1, 4, 0, 2, 1, 4, 0, 9, 3, 48, 2, 6, 1, 2, 1, 1, 0, 6, 2, 6, 0, 2, 0, 0, 1, 2, 2, 11, 0, 6, 4, 2, 1, 2, 0, 1, 2, 3, 0, 2, 6, 0, 2, 0, 0, 1, 4, 0, 6, 4, 2, 1, 4, 0, 1, 2, 3, 2, 2, 6, 1, 2, 1, 1, 0, 7, 2, 6, 0, 2, 0, 0, 1, 2, 2, 11, 0, 6, 4, 2, 1, 2, 0, 1, 2, 3, 1, 2, 6, 0, 2, 0, 0, 1, 4, 0, 2, 1, 4, 0, 1]) ws (vs) := ⟨nf_in hl rfl, sgq_1778 (vc_Gr_mayAlter_23_0 (v_iv (n_v vs 1)) (v_iv (n_v vs 2)) (v_iv (n_v vs 3)) (v_iv (n_v vs 5)) (w_fi ws (n_v vs 0) 0) (w_fi ws (n_v vs 0) 1) (w_fi ws (n_v vs 0) 2) k1 k2 k3 k5 kz_0_0 kz_0_1 kz_0_2)⟩
  refine ⟨(fun _ h => (by cases h)), [], trivial, ?_, (fun _ h => (by cases h))⟩
  rw [List.append_nil]
  exact List.forall_mem_cons.mpr ⟨⟨show (20 : Nat) < 100 from by decide, nf0⟩, (fun _ h => (by cases h))⟩
set_option maxHeartbeats 4000000 in
theorem vc_Gr_mayAlter_24_0 (x1 : Int) (x2 : Int) (x3 : Int) (x6 : Int) (nodes_0 : Int) (edges_0 : Int) (groups_0 : Int) (k1 : 4 ≤ x1 ∧ x1 ≤ 4) (k2 : 0 ≤ x2 ∧ x2 ≤ 23) (k3 : (-2147483648) ≤ x3 ∧ x3 ≤ 0) (k6 : 0 ≤ x6 ∧ x6 ≤ 0) (kz_0_0 : 0 ≤ nodes_0 ∧ nodes_0 ≤ 24) (kz_0_1 : 0 ≤ edges_0 ∧ edges_0 ≤ 48) (kz_0_2 : 0 ≤ groups_0 ∧ groups_0 ≤ 8) : (x6 = 1) → (((x1 = 0) ∧ ((0 ≤ x2) ∧ (((x2 + 1) ≤ groups_0) ∧ (nodes_0 ≤ 23)))) ∨ (((x1 = 1) ∧ ((0 ≤ x2) ∧ (((x2 + 1) ≤ nodes_0) ∧ ((0 ≤ x3) ∧ (((x3 + 1) ≤ nodes_0) ∧ ((edges_0 ≤ 47) ∧ (((x2 + 1) ≤ x3) ∨ ((x3 + 1) ≤ x2)))))))) ∨ (((x1 = 2) ∧ ((0 ≤ x2) ∧ ((x2 + 1) ≤ edges_0))) ∨ (((x1 = 3) ∧ ((0 ≤ x2) ∧ ((x2 + 1) ≤ nodes_0))) ∨ (((x1 = 4) ∧ ((0 ≤ x2) ∧ (((x2 + 1) ≤ nodes_0) ∧ ((1 ≤ x3) ∧ (x3 ≤ 99))))) ∨ (((x1 = 5) ∧ ((0 ≤ x2) ∧ (((x2 + 1) ≤ edges_0) ∧ ((1 ≤ x3) ∧ (x3 ≤ 9))))) ∨ (((x1 = 6) ∧ ((0 ≤ x2) ∧ (((x2 + 1) ≤ nodes_0) ∧ ((0 ≤ x3) ∧ ((x3 + 1) ≤ groups_0))))) ∨ ((x1 = 7) ∧ ((0 ≤ x2) ∧ (((x2 + 1) ≤ edges_0) ∧ ((0 ≤ x3) ∧ (x3 ≤ 1)))))))))))) := by
  first
    | (intro h; exfalso; omega)
    | (intro h; left; omega)
    | (intro h; right; left; omega)
    | (intro h; right; right; left; omega)
    | (intro h; right; right; right; left; omega)
    | (intro h; right; right; right; right; left; omega)
    | (intro h; right; right; right; right; right; left; omega)
    | (intro h; right; right; right; right; right; right; left; omega)
    | (intro h; right; right; right; right; right; right; right; omega)
    | omega
  
def o_Gr_mayAlter_24 : or_T := (160, 7, [(0, (2, 0, 0, [3])), (1, (0, 4, 4, [])), (2, (0, 0, 23, [])), (3, (0, -2147483648, 0, [])), (6, (0, 0, 0, []))], [], [], [], [(20, [6, 1, 2, 0, 3], [50, 3, 0, 3002, 3000, 3001, 4, 6, 1, 2, 1, 0, 0, 1, 3, 36, 2, 6, 1, 2, 1, 1, 0, 0, 2, 6, 0, 2, 0, 0, 1, 2, 2, 11, 0, 6, 4, 2, 1, 2, 0, 1, 2, 3, 2, 0, 3, 2, 3, 0, 0, 23, 3, 81, 2, 6, 1, 2, 1, 1, 0, 1, 2, 6, 0, 2, 0, 0, 1, 2, 2, 11, 0, 6, 4, 2, 1, 2, 0, 1, 2, 3, 0, 2, 6, 0, 2, 0, 0, 1, 4, 2, 11, 0, 6, 4, 2, 1, 4, 0, 1, 2, 3, 0, 2, 7, 0, 3, 2, 3, 1, 0, 47, 3, 10, 0, 6, 4, 2, 1, 2, 0, 1, 1, 4, 0, 6, 4, 2, 1, 4, 0, 1, 1, 2, 3, 27, 2, 6, 1, 2, 1, 1, 0, 2, 2, 6, 0, 2, 0, 0, 1, 2, 0, 6, 4, 2, 1, 2, 0, 1, 2, 3, 1, 3, 27, 2, 6, 1, 2, 1, 1, 0, 3, 2, 6, 0, 2, 0, 0, 1, 2, 0, 6, 4, 2, 1, 2, 0, 1, 2, 3, 0, 3, 43, 2, 6, 1, 2, 1, 1, 0, 4, 2, 6, 0, 2, 0, 0, 1, 2, 2, 11, 0, 6, 4, 2, 1, 2, 0, 1, 2, 3, 0, 2, 6, 0, 2, 0, 1, 1, 4, 0, 2, 1, 4, 0, 99, 3, 43, 2, 6, 1, 2, 1, 1, 0, 5, 2, 6, 0, 2, 0, 0, 1, 2, 2, 11, 0, 6, 4, 2, 1, 2, 0, 1, 2, 3, 1, 2, 6, 0, 2, 0, 1, 1, 4, 0, 2, 1, 4, 0, 9, 3, 48, 2, 6, 1, 2, 1, 1, 0, 6, 2, 6, 0, 2, 0, 0, 1, 2, 2, 11, 0, 6, 4, 2, 1, 2, 0, 1, 2, 3, 0, 2, 6, 0, 2, 0, 0, 1, 4, 0, 6, 4, 2, 1, 4, 0, 1, 2, 3, 2, 2, 6, 1, 2, 1, 1, 0, 7, 2, 6, 0, 2, 0, 0, 1, 2, 2, 11, 0, 6, 4, 2, 1, 2, 0, 1, 2, 3, 1, 2, 6, 0, 2, 0, 0, 1, 4, 0, 2, 1, 4, 0, 1])], [], [])
theorem oo_Gr_mayAlter_24 {kA : Nat → ClassId} : or_ok PRD kA GG o_Gr_mayAlter_24 := by
  refine or_mk fun A ta ws vs hD hth hl => ?_
  intro t0 r0 t1 k1 t2 k2 t3 k3 t6 k6
  have kz_0_0 := fdq_21 hD hth r0
  have kz_0_1 := fdq_30 hD hth r0
  have kz_0_2 := fdq_20 hD hth r0
  have nf0 : fc_1 PRD (20, [6, 1, 2, 0, 3], [50, 3, 0, 3002, 3000, 3001, 4, 6, 1, 2, 1, 0, 0, 1, 3, 36, 2, 6, 1, 2, 1, 1, 0, 0, 2, 6, 0, 2, 0, 0, 1, 2, 2, 11, 0, 6, 4, 2, 1, 2, 0, 1, 2, 3, 2, 0, 3, 2, 3, 0, 0, 23, 3, 81, 2, 6, 1, 2, 1, 1, 0, 1, 2, 6, 0, 2, 0, 0, 1, 2, 2, 11, 0, 6, 4, 2, 1, 2, 0, 1, 2, 3, 0, 2, 6, 0, 2, 0, 0, 1, 4, 2, 11, 0, 6, 4, 2, 1, 4, 0, 1, 2, 3, 0, 2, 7, 0, 3, 2, 3, 1, 0, 47, 3, 10, 0, 6, 4, 2, 1, 2, 0, 1, 1, 4, 0, 6, 4, 2, 1, 4, 0, 1, 1, 2, 3, 27, 2, 6, 1, 2, 1, 1, 0, 2, 2, 6, 0, 2, 0, 0, 1, 2, 0, 6, 4, 2, 1, 2, 0, 1, 2, 3, 1, 3, 27, 2, 6, 1, 2, 1, 1, 0, 3, 2, 6, 0, 2, 0, 0, 1, 2, 0, 6, 4, 2, 1, 2, 0, 1, 2, 3, 0, 3, 43, 2, 6, 1, 2, 1, 1, 0, 4, 2, 6, 0, 2, 0, 0, 1, 2, 2, 11, 0, 6, 4, 2, 1, 2, 0, 1, 2, 3, 0, 2, 6, 0, 2, 0, 1, 1, 4, 0, 2, 1, 4, 0, 99, 3, 43, 2, 6, 1, 2, 1, 1, 0, 5, 2, 6, 0, 2, 0, 0, 1, 2, 2, 11, 0, 6, 4, 2, 1, 2, 0, 1, 2, 3, 1, 2, 6, 0, 2, 0, 1, 1, 4, 0, 2, 1, 4, 0, 9, 3, 48, 2, 6, 1, 2, 1, 1, 0, 6, 2, 6, 0, 2, 0, 0, 1, 2, 2, 11, 0, 6, 4, 2, 1, 2, 0, 1, 2, 3, 0, 2, 6, 0, 2, 0, 0, 1, 4, 0, 6, 4, 2, 1, 4, 0, 1, 2, 3, 2, 2, 6, 1, 2, 1, 1, 0, 7, 2, 6, 0, 2, 0, 0, 1, 2, 2, 11, 0, 6, 4, 2, 1, 2, 0, 1, 2, 3, 1, 2, 6, 0, 2, 0, 0, 1, 4, 0, 2, 1, 4, 0, 1]) ws (vs) := ⟨nf_in hl rfl, sgq_1778 (vc_Gr_mayAlter_24_0 (v_iv (n_v vs 1)) (v_iv (n_v vs 2)) (v_iv (n_v vs 3)) (v_iv (n_v vs 6)) (w_fi ws (n_v vs 0) 0) (w_fi ws (n_v vs 0) 1) (w_fi ws (n_v vs 0) 2) k1 k2 k3 k6 kz_0_0 kz_0_1 kz_0_2)⟩
  refine ⟨(fun _ h => (by cases h)), [], trivial, ?_, (fun _ h => (by cases h))⟩
  rw [List.append_nil]
  exact List.forall_mem_cons.mpr ⟨⟨show (20 : Nat) < 100 from by decide, nf0⟩, (fun _ h => (by cases h))⟩
set_option maxHeartbeats 4000000 in
theorem vc_Gr_mayAlter_25_0 (x1 : Int) (x2 : Int) (x3 : Int) (x7 : Int) (nodes_0 : Int) (edges_0 : Int) (groups_0 : Int) (k1 : 4 ≤ x1 ∧ x1 ≤ 4) (k2 : 0 ≤ x2 ∧ x2 ≤ 23) (k3 : 100 ≤ x3 ∧ x3 ≤ 2147483647) (k7 : 0 ≤ x7 ∧ x7 ≤ 0) (kz_0_0 : 0 ≤ nodes_0 ∧ nodes_0 ≤ 24) (kz_0_1 : 0 ≤ edges_0 ∧ edges_0 ≤ 48) (kz_0_2 : 0 ≤ groups_0 ∧ groups_0 ≤ 8) : (x7 = 1) → (((x1 = 0) ∧ ((0 ≤ x2) ∧ (((x2 + 1) ≤ groups_0) ∧ (nodes_0 ≤ 23)))) ∨ (((x1 = 1) ∧ ((0 ≤ x2) ∧ (((x2 + 1) ≤ nodes_0) ∧ ((0 ≤ x3) ∧ (((x3 + 1) ≤ nodes_0) ∧ ((edges_0 ≤ 47) ∧ (((x2 + 1) ≤ x3) ∨ ((x3 + 1) ≤ x2)))))))) ∨ (((x1 = 2) ∧ ((0 ≤ x2) ∧ ((x2 + 1) ≤ edges_0))) ∨ (((x1 = 3) ∧ ((0 ≤ x2) ∧ ((x2 + 1) ≤ nodes_0))) ∨ (((x1 = 4) ∧ ((0 ≤ x2) ∧ (((x2 + 1) ≤ nodes_0) ∧ ((1 ≤ x3) ∧ (x3 ≤ 99))))) ∨ (((x1 = 5) ∧ ((0 ≤ x2) ∧ (((x2 + 1) ≤ edges_0) ∧ ((1 ≤ x3) ∧ (x3 ≤ 9))))) ∨ (((x1 = 6) ∧ ((0 ≤ x2) ∧ (((x2 + 1) ≤ nodes_0) ∧ ((0 ≤ x3) ∧ ((x3 + 1) ≤ groups_0))))) ∨ ((x1 = 7) ∧ ((0 ≤ x2) ∧ (((x2 + 1) ≤ edges_0) ∧ ((0 ≤ x3) ∧ (x3 ≤ 1)))))))))))) := by
  first
    | (intro h; exfalso; omega)
    | (intro h; left; omega)
    | (intro h; right; left; omega)
    | (intro h; right; right; left; omega)
    | (intro h; right; right; right; left; omega)
    | (intro h; right; right; right; right; left; omega)
    | (intro h; right; right; right; right; right; left; omega)
    | (intro h; right; right; right; right; right; right; left; omega)
    | (intro h; right; right; right; right; right; right; right; omega)
    | omega
  
def o_Gr_mayAlter_25 : or_T := (160, 8, [(0, (2, 0, 0, [3])), (1, (0, 4, 4, [])), (2, (0, 0, 23, [])), (3, (0, 100, 2147483647, [])), (4, (0, 1, 1, [])), (5, (0, 1, 1, [])), (6, (0, 99, 99, [])), (7, (0, 0, 0, []))], [(7, [3, 6], [4]), (7, [3, 5], [3]), (8, [4], [1]), (20, [4, 2, 0], [50, 1, 0, 2000, 4, 6, 1, 2, 1, 0, 0, 1, 2, 6, 0, 2, 0, 0, 1, 1, 0, 6, 4, 2, 1, 1, 0, 1, 2, 2, 0])], [], [], [(20, [7, 1, 2, 0, 3], [50, 3, 0, 3002, 3000, 3001, 4, 6, 1, 2, 1, 0, 0, 1, 3, 36, 2, 6, 1, 2, 1, 1, 0, 0, 2, 6, 0, 2, 0, 0, 1, 2, 2, 11, 0, 6, 4, 2, 1, 2, 0, 1, 2, 3, 2, 0, 3, 2, 3, 0, 0, 23, 3, 81, 2, 6, 1, 2, 1, 1, 0, 1, 2, 6, 0, 2, 0, 0, 1, 2, 2, 11, 0, 6, 4, 2, 1, 2, 0, 1, 2, 3, 0, 2, 6, 0, 2, 0, 0, 1, 4, 2, 11, 0, 6, 4, 2, 1, 4, 0, 1, 2, 3, 0, 2, 7, 0, 3, 2, 3, 1, 0, 47, 3, 10, 0, 6, 4, 2, 1, 2, 0, 1, 1, 4, 0, 6, 4, 2, 1, 4, 0, 1, 1, 2, 3, 27, 2, 6, 1, 2, 1, 1, 0, 2, 2, 6, 0, 2, 0, 0, 1, 2, 0, 6, 4, 2, 1, 2, 0, 1, 2, 3, 1, 3, 27, 2, 6, 1, 2, 1, 1, 0, 3, 2, 6, 0, 2, 0, 0, 1, 2, 0, 6, 4, 2, 1, 2, 0, 1, 2, 3, 0, 3, 43, 2, 6, 1, 2, 1, 1, 0, 4, 2, 6, 0, 2, 0, 0, 1, 2, 2, 11, 0, 6, 4, 2, 1, 2, 0, 1, 2, 3, 0, 2, 6, 0, 2, 0, 1, 1, 4, 0, 2, 1, 4, 0, 99, 3, 43, 2, 6, 1, 2, 1, 1, 0, 5, 2, 6, 0, 2, 0, 0, 1, 2, 2, 11, 0, 6, 4, 2, 1, 2, 0, 1, 2, 3, 1, 2, 6, 0, 2, 0, 1, 1, 4, 0, 2, 1, 4, 0, 9, 3, 48, 2, 6, 1, 2, 1, 1, 0, 6, 2, 6, 0, 2, 0, 0, 1, 2, 2, 11, 0, 6, 4, 2, 1, 2, 0, 1, 2, 3, 0, 2, 6, 0, 2, 0, 0, 1, 4, 0, 6, 4, 2, 1, 4, 0, 1, 2, 3, 2, 2, 6, 1, 2, 1, 1, 0, 7, 2, 6, 0, 2, 0, 0, 1, 2, 2, 11, 0, 6, 4, 2, 1, 2, 0, 1, 2, 3, 1, 2, 6, 0, 2, 0, 0, 1, 4, 0, 2, 1, 4, 0, 1])], [], [])
theorem oo_Gr_mayAlter_25 {kA : Nat → ClassId} : or_ok PRD kA GG o_Gr_mayAlter_25 := by
  refine or_mk fun A ta ws vs hD hth hl => ?_
  intro t0 r0 t1 k1 t2 k2 t3 k3 t4 k4 t5 k5 t6 k6 t7 k7 f0 f1 f2 f3
  have kz_0_0 := fdq_21 hD hth r0
  have kz_0_1 := fdq_30 hD hth r0
  have kz_0_2 := fdq_20 hD hth r0
  have nf0 : fc_1 PRD (20, [7, 1, 2, 0, 3], [50, 3, 0, 3002, 3000, 3001, 4, 6, 1, 2, 1, 0, 0, 1, 3, 36, 2, 6, 1, 2, 1, 1, 0, 0, 2, 6, 0, 2, 0, 0, 1, 2, 2, 11, 0, 6, 4, 2, 1, 2, 0, 1, 2, 3, 2, 0, 3, 2, 3, 0, 0, 23, 3, 81, 2, 6, 1, 2, 1, 1, 0, 1, 2, 6, 0, 2, 0, 0, 1, 2, 2, 11, 0, 6, 4, 2, 1, 2, 0, 1, 2, 3, 0, 2, 6, 0, 2, 0, 0, 1, 4, 2, 11, 0, 6, 4, 2, 1, 4, 0, 1, 2, 3, 0, 2, 7, 0, 3, 2, 3, 1, 0, 47, 3, 10, 0, 6, 4, 2, 1, 2, 0, 1, 1, 4, 0, 6, 4, 2, 1, 4, 0, 1, 1, 2, 3, 27, 2, 6, 1, 2, 1, 1, 0, 2, 2, 6, 0, 2, 0, 0, 1, 2, 0, 6, 4, 2, 1, 2, 0, 1, 2, 3, 1, 3, 27, 2, 6, 1, 2, 1, 1, 0, 3, 2, 6, 0, 2, 0, 0, 1, 2, 0, 6, 4, 2, 1, 2, 0, 1, 2, 3, 0, 3, 43, 2, 6, 1, 2, 1, 1, 0, 4, 2, 6, 0, 2, 0, 0, 1, 2, 2, 11, 0, 6, 4, 2, 1, 2, 0, 1, 2, 3, 0, 2, 6, 0, 2, 0, 1, 1, 4, 0, 2, 1, 4, 0, 99, 3, 43, 2, 6, 1, 2, 1, 1, 0, 5, 2, 6, 0, 2, 0, 0, 1, 2, 2, 11, 0, 6, 4, 2, 1, 2, 0, 1, 2, 3, 1, 2, 6, 0, 2, 0, 1, 1, 4, 0, 2, 1, 4, 0, 9, 3, 48, 2, 6, 1, 2, 1, 1, 0, 6, 2, 6, 0, 2, 0, 0, 1, 2, 2, 11, 0, 6, 4, 2, 1, 2, 0, 1, 2, 3, 0, 2, 6, 0, 2, 0, 0, 1, 4, 0, 6, 4, 2, 1, 4, 0, 1, 2, 3, 2, 2, 6, 1, 2, 1, 1, 0, 7, 2, 6, 0, 2, 0, 0, 1, 2, 2, 11, 0, 6, 4, 2, 1, 2, 0, 1, 2, 3, 1, 2, 6, 0, 2, 0, 0, 1, 4, 0, 2, 1, 4, 0, 1]) ws (vs) := ⟨nf_in hl rfl, sgq_1778 (vc_Gr_mayAlter_25_0 (v_iv (n_v vs 1)) (v_iv (n_v vs 2)) (v_iv (n_v vs 3)) (v_iv (n_v vs 7)) (w_fi ws (n_v vs 0) 0) (w_fi ws (n_v vs 0) 1) (w_fi ws (n_v vs 0) 2) k1 k2 k3 k7 kz_0_0 kz_0_1 kz_0_2)⟩
  refine ⟨(fun _ h => (by cases h)), [], trivial, ?_, (fun _ h => (by cases h))⟩
  rw [List.append_nil]
  exact List.forall_mem_cons.mpr ⟨⟨show (20 : Nat) < 100 from by decide, nf0⟩, (fun _ h => (by cases h))⟩
set_option maxHeartbeats 4000000 in
theorem vc_Gr_mayAlter_26_0 (x1 : Int) (x2 : Int) (x3 : Int) (x4 : Int) (x7 : Int) (nodes_0 : Int) (edges_0 : Int) (groups_0 : Int) (k1 : 4 ≤ x1 ∧ x1 ≤ 4) (k2 : 0 ≤ x2 ∧ x2 ≤ 23) (k3 : 1 ≤ x3 ∧ x3 ≤ 99) (k4 : 1 ≤ x4 ∧ x4 ≤ 1) (k7 : 1 ≤ x7 ∧ x7 ≤ 1) (f3 : (x4 = 1) → ((0 ≤ x2) ∧ ((x2 + 1) ≤ nodes_0))) (kz_0_0 : 0 ≤ nodes_0 ∧ nodes_0 ≤ 24) (kz_0_1 : 0 ≤ edges_0 ∧ edges_0 ≤ 48) (kz_0_2 : 0 ≤ groups_0 ∧ groups_0 ≤ 8) : (x7 = 1) → (((x1 = 0) ∧ ((0 ≤ x2) ∧ (((x2 + 1) ≤ groups_0) ∧ (nodes_0 ≤ 23)))) ∨ (((x1 = 1) ∧ ((0 ≤ x2) ∧ (((x2 + 1) ≤ nodes_0) ∧ ((0 ≤ x3) ∧ (((x3 + 1) ≤ nodes_0) ∧ ((edges_0 ≤ 47) ∧ (((x2 + 1) ≤ x3) ∨ ((x3 + 1) ≤ x2)))))))) ∨ (((x1 = 2) ∧ ((0 ≤ x2) ∧ ((x2 + 1) ≤ edges_0))) ∨ (((x1 = 3) ∧ ((0 ≤ x2) ∧ ((x2 + 1) ≤ nodes_0))) ∨ (((x1 = 4) ∧ ((0 ≤ x2) ∧ (((x2 + 1) ≤ nodes_0) ∧ ((1 ≤ x3) ∧ (x3 ≤ 99))))) ∨ (((x1 = 5) ∧ ((0 ≤ x2) ∧ (((x2 + 1) ≤ edges_0) ∧ ((1 ≤ x3) ∧ (x3 ≤ 9))))) ∨ (((x1 = 6) ∧ ((0 ≤ x2) ∧ (((x2 + 1) ≤ nodes_0) ∧ ((0 ≤ x3) ∧ ((x3 + 1) ≤ groups_0))))) ∨ ((x1 = 7) ∧ ((0 ≤ x2) ∧ (((x2 + 1) ≤ edges_0) ∧ ((0 ≤ x3) ∧ (x3 ≤ 1)))))))))))) := by
  first
    | (intro h; exfalso; omega)
    | (intro h; left; omega)
    | (intro h; right; left; omega)
    | (intro h; right; right; left; omega)
    | (intro h; right; right; right; left; omega)
    | (intro h; right; right; right; right; left; omega)
    | (intro h; right; right; right; right; right; left; omega)
    | (intro h; right; right; right; right; right; right; left; omega)
    | (intro h; right; right; right; right; right; right; right; omega)
    | omega
  
def o_Gr_mayAlter_26 : or_T := (160, 8, [(0, (2, 0, 0, [3])), (1, (0, 4, 4, [])), (2, (0, 0, 23, [])), (3, (0, 1, 99, [])), (4, (0, 1, 1, [])), (5, (0, 1, 1, [])), (6, (0, 99, 99, [])), (7, (0, 1, 1, []))], [(7, [3, 6], [5]), (7, [3, 5], [3]), (8, [4], [1]), (20, [4, 2, 0], [50, 1, 0, 2000, 4, 6, 1, 2, 1, 0, 0, 1, 2, 6, 0, 2, 0, 0, 1, 1, 0, 6, 4, 2, 1, 1, 0, 1, 2, 2, 0])], [], [], [(20, [7, 1, 2, 0, 3], [50, 3, 0, 3002, 3000, 3001, 4, 6, 1, 2, 1, 0, 0, 1, 3, 36, 2, 6, 1, 2, 1, 1, 0, 0, 2, 6, 0, 2, 0, 0, 1, 2, 2, 11, 0, 6, 4, 2, 1, 2, 0, 1, 2, 3, 2, 0, 3, 2, 3, 0, 0, 23, 3, 81, 2, 6, 1, 2, 1, 1, 0, 1, 2, 6, 0, 2, 0, 0, 1, 2, 2, 11, 0, 6, 4, 2, 1, 2, 0, 1, 2, 3, 0, 2, 6, 0, 2, 0, 0, 1, 4, 2, 11, 0, 6, 4, 2, 1, 4, 0, 1, 2, 3, 0, 2, 7, 0, 3, 2, 3, 1, 0, 47, 3, 10, 0, 6, 4, 2, 1, 2, 0, 1, 1, 4, 0, 6, 4, 2, 1, 4, 0, 1, 1, 2, 3, 27, 2, 6, 1, 2, 1, 1, 0, 2, 2, 6, 0, 2, 0, 0, 1, 2, 0, 6, 4, 2, 1, 2, 0, 1, 2, 3, 1, 3, 27, 2, 6, 1, 2, 1, 1, 0, 3, 2, 6, 0, 2, 0, 0, 1, 2, 0, 6, 4, 2, 1, 2, 0, 1, 2, 3, 0, 3, 43, 2, 6, 1, 2, 1, 1, 0, 4, 2, 6, 0, 2, 0, 0, 1, 2, 2, 11, 0, 6, 4, 2, 1, 2, 0, 1, 2, 3, 0, 2, 6, 0, 2, 0, 1, 1, 4, 0, 2, 1, 4, 0, 99, 3, 43, 2, 6, 1, 2, 1, 1, 0, 5, 2, 6, 0, 2, 0, 0, 1, 2, 2, 11, 0, 6, 4, 2, 1, 2, 0, 1, 2, 3, 1, 2, 6, 0, 2, 0, 1, 1, 4, 0, 2, 1, 4, 0, 9, 3, 48, 2, 6, 1, 2, 1, 1, 0, 6, 2, 6, 0, 2, 0, 0, 1, 2, 2, 11, 0, 6, 4, 2, 1, 2, 0, 1, 2, 3, 0, 2, 6, 0, 2, 0, 0, 1, 4, 0, 6, 4, 2, 1, 4, 0, 1, 2, 3, 2, 2, 6, 1, 2, 1, 1, 0, 7, 2, 6, 0, 2, 0, 0, 1, 2, 2, 11, 0, 6, 4, 2, 1, 2, 0, 1, 2, 3, 1, 2, 6, 0, 2, 0, 0, 1, 4, 0, 2, 1, 4, 0, 1])], [], [])
theorem oo_Gr_mayAlter_26 {kA : Nat → ClassId} : or_ok PRD kA GG o_Gr_mayAlter_26 := by
  refine or_mk fun A ta ws vs hD hth hl => ?_
  intro t0 r0 t1 k1 t2 k2 t3 k3 t4 k4 t5 k5 t6 k6 t7 k7 f0 f1 f2 f3
  have kz_0_0 := fdq_21 hD hth r0
  have kz_0_1 := fdq_30 hD hth r0
  have kz_0_2 := fdq_20 hD hth r0
  have nf0 : fc_1 PRD (20, [7, 1, 2, 0, 3], [50, 3, 0, 3002, 3000, 3001, 4, 6, 1, 2, 1, 0, 0, 1, 3, 36, 2, 6, 1, 2, 1, 1, 0, 0, 2, 6, 0, 2, 0, 0, 1, 2, 2, 11, 0, 6, 4, 2, 1, 2, 0, 1, 2, 3, 2, 0, 3, 2, 3, 0, 0, 23, 3, 81, 2, 6, 1, 2, 1, 1, 0, 1, 2, 6, 0, 2, 0, 0, 1, 2, 2, 11, 0, 6, 4, 2, 1, 2, 0, 1, 2, 3, 0, 2, 6, 0, 2, 0, 0, 1, 4, 2, 11, 0, 6, 4, 2, 1, 4, 0, 1, 2, 3, 0, 2, 7, 0, 3, 2, 3, 1, 0, 47, 3, 10, 0, 6, 4, 2, 1, 2, 0, 1, 1, 4, 0, 6, 4, 2, 1, 4, 0, 1, 1, 2, 3, 27, 2, 6, 1, 2, 1, 1, 0, 2, 2, 6, 0, 2, 0, 0, 1, 2, 0, 6, 4, 2, 1, 2, 0, 1, 2, 3, 1, 3, 27, 2, 6, 1, 2, 1, 1, 0, 3, 2, 6, 0, 2, 0, 0, 1, 2, 0, 6, 4, 2, 1, 2, 0, 1, 2, 3, 0, 3, 43, 2, 6, 1, 2, 1, 1, 0, 4, 2, 6, 0, 2, 0, 0, 1, 2, 2, 11, 0, 6, 4, 2, 1, 2, 0, 1, 2, 3, 0, 2, 6, 0, 2, 0, 1, 1, 4, 0, 2, 1, 4, 0, 99, 3, 43, 2, 6, 1, 2, 1, 1, 0, 5, 2, 6, 0, 2, 0, 0, 1, 2, 2, 11, 0, 6, 4, 2, 1, 2, 0, 1, 2, 3, 1, 2, 6, 0, 2, 0, 1, 1, 4, 0, 2, 1, 4, 0, 9, 3, 48, 2, 6, 1, 2, 1, 1, 0, 6, 2, 6, 0, 2, 0, 0, 1, 2, 2, 11, 0, 6, 4, 2, 1, 2, 0, 1, 2, 3, 0, 2, 6, 0, 2, 0, 0, 1, 4, 0, 6, 4, 2, 1, 4, 0, 1, 2, 3, 2, 2, 6, 1, 2, 1, 1, 0, 7, 2, 6, 0, 2, 0, 0, 1, 2, 2, 11, 0, 6, 4, 2, 1, 2, 0, 1, 2, 3, 1, 2, 6, 0, 2, 0, 0, 1, 4, 0, 2, 1, 4, 0, 1]) ws (vs) := ⟨nf_in hl rfl, sgq_1778 (vc_Gr_mayAlter_26_0 (v_iv (n_v vs 1)) (v_iv (n_v vs 2)) (v_iv (n_v vs 3)) (v_iv (n_v vs 4)) (v_iv (n_v vs 7)) (w_fi ws (n_v vs 0) 0) (w_fi ws (n_v vs 0) 1) (w_fi ws (n_v vs 0) 2) k1 k2 k3 k4 k7 (shm_384 f3) kz_0_0 kz_0_1 kz_0_2)⟩
  refine ⟨(fun _ h => (by cases h)), [], trivial, ?_, (fun _ h => (by cases h))⟩
  rw [List.append_nil]
  exact List.forall_mem_cons.mpr ⟨⟨show (20 : Nat) < 100 from by decide, nf0⟩, (fun _ h => (by cases h))⟩
set_option maxHeartbeats 4000000 in
theorem vc_Gr_mayAlter_27_0 (x1 : Int) (x2 : Int) (x3 : Int) (x5 : Int) (edges_0 : Int) (nodes_0 : Int) (groups_0 : Int) (k1 : 5 ≤ x1 ∧ x1 ≤ 5) (k2 : (-2147483648) ≤ x2 ∧ x2 ≤ (-1)) (k3 : (-2147483648) ≤ x3 ∧ x3 ≤ 2147483647) (k5 : 0 ≤ x5 ∧ x5 ≤ 0) (kz_0_0 : 0 ≤ nodes_0 ∧ nodes_0 ≤ 24) (kz_0_1 : 0 ≤ edges_0 ∧ edges_0 ≤ 48) (kz_0_2 : 0 ≤ groups_0 ∧ groups_0 ≤ 8) : (x5 = 1) → (((x1 = 0) ∧ ((0 ≤ x2) ∧ (((x2 + 1) ≤ groups_0) ∧ (nodes_0 ≤ 23)))) ∨ (((x1 = 1) ∧ ((0 ≤ x2) ∧ (((x2 + 1) ≤ nodes_0) ∧ ((0 ≤ x3) ∧ (((x3 + 1) ≤ nodes_0) ∧ ((edges_0 ≤ 47) ∧ (((x2 + 1) ≤ x3) ∨ ((x3 + 1) ≤ x2)))))))) ∨ (((x1 = 2) ∧ ((0 ≤ x2) ∧ ((x2 + 1) ≤ edges_0))) ∨ (((x1 = 3) ∧ ((0 ≤ x2) ∧ ((x2 + 1) ≤ nodes_0))) ∨ (((x1 = 4) ∧ ((0 ≤ x2) ∧ (((x2 + 1) ≤ nodes_0) ∧ ((1 ≤ x3) ∧ (x3 ≤ 99))))) ∨ (((x1 = 5) ∧ ((0 ≤ x2) ∧ (((x2 + 1) ≤ edges_0) ∧ ((1 ≤ x3) ∧ (x3 ≤ 9))))) ∨ (((x1 = 6) ∧ ((0 ≤ x2) ∧ (((x2 + 1) ≤ nodes_0) ∧ ((0 ≤ x3) ∧ ((x3 + 1) ≤ groups_0))))) ∨ ((x1 = 7) ∧ ((0 ≤ x2) ∧ (((x2 + 1) ≤ edges_0) ∧ ((0 ≤ x3) ∧ (x3 ≤ 1)))))))))))) := by
  first
    | (intro h; exfalso; omega)
    | (intro h; left; omega)
    | (intro h; right; left; omega)
    | (intro h; right; right; left; omega)
    | (intro h; right; right; right; left; omega)
    | (intro h; right; right; right; right; left; omega)
    | (intro h; right; right; right; right; right; left; omega)
    | (intro h; right; right; right; right; right; right; left; omega)
    | (intro h; right; right; right; right; right; right; right; omega)
    | omega
  
def o_Gr_mayAlter_27 : or_T := (185, 6, [(0, (2, 0, 0, [3])), (1, (0, 5, 5, [])), (2, (0, -2147483648, -1, [])), (3, (0, -2147483648, 2147483647, [])), (4, (0, 0, 0, [])), (5, (0, 0, 0, []))], [(8, [4], [0]), (20, [4, 2, 0], [50, 1, 0, 2001, 4, 6, 1, 2, 1, 0, 0, 1, 2, 6, 0, 2, 0, 0, 1, 1, 0, 6, 4, 2, 1, 1, 0, 1, 2, 2, 1]), (20, [4, 2, 0], [50, 1, 0, 2001, 4, 6, 1, 2, 1, 0, 0, 0, 3, 6, 0, 2, 1, 1, 0, -1, 0, 3, 2, 2, 1, 1, 1])], [], [], [(20, [5, 1, 2, 0, 3], [50, 3, 0, 3002, 3000, 3001, 4, 6, 1, 2, 1, 0, 0, 1, 3, 36, 2, 6, 1, 2, 1, 1, 0, 0, 2, 6, 0, 2, 0, 0, 1, 2, 2, 11, 0, 6, 4, 2, 1, 2, 0, 1, 2, 3, 2, 0, 3, 2, 3, 0, 0, 23, 3, 81, 2, 6, 1, 2, 1, 1, 0, 1, 2, 6, 0, 2, 0, 0, 1, 2, 2, 11, 0, 6, 4, 2, 1, 2, 0, 1, 2, 3, 0, 2, 6, 0, 2, 0, 0, 1, 4, 2, 11, 0, 6, 4, 2, 1, 4, 0, 1, 2, 3, 0, 2, 7, 0, 3, 2, 3, 1, 0, 47, 3, 10, 0, 6, 4, 2, 1, 2, 0, 1, 1, 4, 0, 6, 4, 2, 1, 4, 0, 1, 1, 2, 3, 27, 2, 6, 1, 2, 1, 1, 0, 2, 2, 6, 0, 2, 0, 0, 1, 2, 0, 6, 4, 2, 1, 2, 0, 1, 2, 3, 1, 3, 27, 2, 6, 1, 2, 1, 1, 0, 3, 2, 6, 0, 2, 0, 0, 1, 2, 0, 6, 4, 2, 1, 2, 0, 1, 2, 3, 0, 3, 43, 2, 6, 1, 2, 1, 1, 0, 4, 2, 6, 0, 2, 0, 0, 1, 2, 2, 11, 0, 6, 4, 2, 1, 2, 0, 1, 2, 3, 0, 2, 6, 0, 2, 0, 1, 1, 4, 0, 2, 1, 4, 0, 99, 3, 43, 2, 6, 1, 2, 1, 1, 0, 5, 2, 6, 0, 2, 0, 0, 1, 2, 2, 11, 0, 6, 4, 2, 1, 2, 0, 1, 2, 3, 1, 2, 6, 0, 2, 0, 1, 1, 4, 0, 2, 1, 4, 0, 9, 3, 48, 2, 6, 1, 2, 1, 1, 0, 6, 2, 6, 0, 2, 0, 0, 1, 2, 2, 11, 0, 6, 4, 2, 1, 2, 0, 1, 2, 3, 0, 2, 6, 0, 2, 0, 0, 1, 4, 0, 6, 4, 2, 1, 4, 0, 1, 2, 3, 2, 2, 6, 1, 2, 1, 1, 0, 7, 2, 6, 0, 2, 0, 0, 1, 2, 2, 11, 0, 6, 4, 2, 1, 2, 0, 1, 2, 3, 1, 2, 6, 0, 2, 0, 0, 1, 4, 0, 2, 1, 4, 0, 1])], [], [])
theorem oo_Gr_mayAlter_27 {kA : Nat → ClassId} : or_ok PRD kA GG o_Gr_mayAlter_27 := by
  refine or_mk fun A ta ws vs hD hth hl => ?_
  intro t0 r0 t1 k1 t2 k2 t3 k3 t4 k4 t5 k5 f0 f1 f2
  have kz_0_0 := fdq_21 hD hth r0
  have kz_0_1 := fdq_30 hD hth r0
  have kz_0_2 := fdq_20 hD hth r0
  have nf0 : fc_1 PRD (20, [5, 1, 2, 0, 3], [50, 3, 0, 3002, 3000, 3001, 4, 6, 1, 2, 1, 0, 0, 1, 3, 36, 2, 6, 1, 2, 1, 1, 0, 0, 2, 6, 0, 2, 0, 0, 1, 2, 2, 11, 0, 6, 4, 2, 1, 2, 0, 1, 2, 3, 2, 0, 3, 2, 3, 0, 0, 23, 3, 81, 2, 6, 1, 2, 1, 1, 0, 1, 2, 6, 0, 2, 0, 0, 1, 2, 2, 11, 0, 6, 4, 2, 1, 2, 0, 1, 2, 3, 0, 2, 6, 0, 2, 0, 0, 1, 4, 2, 11, 0, 6, 4, 2, 1, 4, 0, 1, 2, 3, 0, 2, 7, 0, 3, 2, 3, 1, 0, 47, 3, 10, 0, 6, 4, 2, 1, 2, 0, 1, 1, 4, 0, 6, 4, 2, 1, 4, 0, 1, 1, 2, 3, 27, 2, 6, 1, 2, 1, 1, 0, 2, 2, 6, 0, 2, 0, 0, 1, 2, 0, 6, 4, 2, 1, 2, 0, 1, 2, 3, 1, 3, 27, 2, 6, 1, 2, 1, 1, 0, 3, 2, 6, 0, 2, 0, 0, 1, 2, 0, 6, 4, 2, 1, 2, 0, 1, 2, 3, 0, 3, 43, 2, 6, 1, 2, 1, 1, 0, 4, 2, 6, 0, 2, 0, 0, 1, 2, 2, 11, 0, 6, 4, 2, 1, 2, 0, 1, 2, 3, 0, 2, 6, 0, 2, 0, 1, 1, 4, 0, 2, 1, 4, 0, 99, 3, 43, 2, 6, 1, 2, 1, 1, 0, 5, 2, 6, 0, 2, 0, 0, 1, 2, 2, 11, 0, 6, 4, 2, 1, 2, 0, 1, 2, 3, 1, 2, 6, 0, 2, 0, 1, 1, 4, 0, 2, 1, 4, 0, 9, 3, 48, 2, 6, 1, 2, 1, 1, 0, 6, 2, 6, 0, 2, 0, 0, 1, 2, 2, 11, 0, 6, 4, 2, 1, 2, 0, 1, 2, 3, 0, 2, 6, 0, 2, 0, 0, 1, 4, 0, 6, 4, 2, 1, 4, 0, 1, 2, 3, 2, 2, 6, 1, 2, 1, 1, 0, 7, 2, 6, 0, 2, 0, 0, 1, 2, 2, 11, 0, 6, 4, 2, 1, 2, 0, 1, 2, 3, 1, 2, 6, 0, 2, 0, 0, 1, 4, 0, 2, 1, 4, 0, 1]) ws (vs) := ⟨nf_in hl rfl, sgq_1778 (vc_Gr_mayAlter_27_0 (v_iv (n_v vs 1)) (v_iv (n_v vs 2)) (v_iv (n_v vs 3)) (v_iv (n_v vs 5)) (w_fi ws (n_v vs 0) 1) (w_fi ws (n_v vs 0) 0) (w_fi ws (n_v vs 0) 2) k1 k2 k3 k5 kz_0_0 kz_0_1 kz_0_2)⟩
  refine ⟨(fun _ h => (by cases h)), [], trivial, ?_, (fun _ h => (by cases h))⟩
  rw [List.append_nil]
  exact List.forall_mem_cons.mpr ⟨⟨show (20 : Nat) < 100 from by decide, nf0⟩, (fun _ h => (by cases h))⟩
set_option maxHeartbeats 4000000 in
theorem vc_Gr_mayAlter_28_0 (x1 : Int) (x2 : Int) (x3 : Int) (x5 : Int) (edges_0 : Int) (nodes_0 : Int) (groups_0 : Int) (k1 : 5 ≤ x1 ∧ x1 ≤ 5) (k2 : 0 ≤ x2 ∧ x2 ≤ 2147483647) (k3 : (-2147483648) ≤ x3 ∧ x3 ≤ 2147483647) (k5 : 0 ≤ x5 ∧ x5 ≤ 0) (kz_0_0 : 0 ≤ nodes_0 ∧ nodes_0 ≤ 24) (kz_0_1 : 0 ≤ edges_0 ∧ edges_0 ≤ 48) (kz_0_2 : 0 ≤ groups_0 ∧ groups_0 ≤ 8) : (x5 = 1) → (((x1 = 0) ∧ ((0 ≤ x2) ∧ (((x2 + 1) ≤ groups_0) ∧ (nodes_0 ≤ 23)))) ∨ (((x1 = 1) ∧ ((0 ≤ x2) ∧ (((x2 + 1) ≤ nodes_0) ∧ ((0 ≤ x3) ∧ (((x3 + 1) ≤ nodes_0) ∧ ((edges_0 ≤ 47) ∧ (((x2 + 1) ≤ x3) ∨ ((x3 + 1) ≤ x2)))))))) ∨ (((x1 = 2) ∧ ((0 ≤ x2) ∧ ((x2 + 1) ≤ edges_0))) ∨ (((x1 = 3) ∧ ((0 ≤ x2) ∧ ((x2 + 1) ≤ nodes_0))) ∨ (((x1 = 4) ∧ ((0 ≤ x2) ∧ (((x2 + 1) ≤ nodes_0) ∧ ((1 ≤ x3) ∧ (x3 ≤ 99))))) ∨ (((x1 = 5) ∧ ((0 ≤ x2) ∧ (((x2 + 1) ≤ edges_0) ∧ ((1 ≤ x3) ∧ (x3 ≤ 9))))) ∨ (((x1 = 6) ∧ ((0 ≤ x2) ∧ (((x2 + 1) ≤ nodes_0) ∧ ((0 ≤ x3) ∧ ((x3 + 1) ≤ groups_0))))) ∨ ((x1 = 7) ∧ ((0 ≤ x2) ∧ (((x2 + 1) ≤ edges_0) ∧ ((0 ≤ x3) ∧ (x3 ≤ 1)))))))))))) := by
  first
    | (intro h; exfalso; omega)
    | (intro h; left; omega)
    | (intro h; right; left; omega)
    | (intro h; right; right; left; omega)
    | (intro h; right; right; right; left; omega)
    | (intro h; right; right; right; right; left; omega)
    | (intro h; right; right; right; right; right; left; omega)
    | (intro h; right; right; right; right; right; right; left; omega)
    | (intro h; right; right; right; right; right; right; right; omega)
    | omega
  
def o_Gr_mayAlter_28 : or_T := (185, 6, [(0, (2, 0, 0, [3])), (1, (0, 5, 5, [])), (2, (0, 0, 2147483647, [])), (3, (0, -2147483648, 2147483647, [])), (4, (0, 0, 0, [])), (5, (0, 0, 0, []))], [(8, [4], [0]), (20, [4, 2, 0], [50, 1, 0, 2001, 4, 6, 1, 2, 1, 0, 0, 1, 2, 6, 0, 2, 0, 0, 1, 1, 0, 6, 4, 2, 1, 1, 0, 1, 2, 2, 1]), (20, [4, 2, 0], [50, 1, 0, 2001, 4, 6, 1, 2, 1, 0, 0, 0, 3, 6, 0, 2, 1, 1, 0, -1, 0, 3, 2, 2, 1, 1, 1])], [], [], [(20, [5, 1, 2, 0, 3], [50, 3, 0, 3002, 3000, 3001, 4, 6, 1, 2, 1, 0, 0, 1, 3, 36, 2, 6, 1, 2, 1, 1, 0, 0, 2, 6, 0, 2, 0, 0, 1, 2, 2, 11, 0, 6, 4, 2, 1, 2, 0, 1, 2, 3, 2, 0, 3, 2, 3, 0, 0, 23, 3, 81, 2, 6, 1, 2, 1, 1, 0, 1, 2, 6, 0, 2, 0, 0, 1, 2, 2, 11, 0, 6, 4, 2, 1, 2, 0, 1, 2, 3, 0, 2, 6, 0, 2, 0, 0, 1, 4, 2, 11, 0, 6, 4, 2, 1, 4, 0, 1, 2, 3, 0, 2, 7, 0, 3, 2, 3, 1, 0, 47, 3, 10, 0, 6, 4, 2, 1, 2, 0, 1, 1, 4, 0, 6, 4, 2, 1, 4, 0, 1, 1, 2, 3, 27, 2, 6, 1, 2, 1, 1, 0, 2, 2, 6, 0, 2, 0, 0, 1, 2, 0, 6, 4, 2, 1, 2, 0, 1, 2, 3, 1, 3, 27, 2, 6, 1, 2, 1, 1, 0, 3, 2, 6, 0, 2, 0, 0, 1, 2, 0, 6, 4, 2, 1, 2, 0, 1, 2, 3, 0, 3, 43, 2, 6, 1, 2, 1, 1, 0, 4, 2, 6, 0, 2, 0, 0, 1, 2, 2, 11, 0, 6, 4, 2, 1, 2, 0, 1, 2, 3, 0, 2, 6, 0, 2, 0, 1, 1, 4, 0, 2, 1, 4, 0, 99, 3, 43, 2, 6, 1, 2, 1, 1, 0, 5, 2, 6, 0, 2, 0, 0, 1, 2, 2, 11, 0, 6, 4, 2, 1, 2, 0, 1, 2, 3, 1, 2, 6, 0, 2, 0, 1, 1, 4, 0, 2, 1, 4, 0, 9, 3, 48, 2, 6, 1, 2, 1, 1, 0, 6, 2, 6, 0, 2, 0, 0, 1, 2, 2, 11, 0, 6, 4, 2, 1, 2, 0, 1, 2, 3, 0, 2, 6, 0, 2, 0, 0, 1, 4, 0, 6, 4, 2, 1, 4, 0, 1, 2, 3, 2, 2, 6, 1, 2, 1, 1, 0, 7, 2, 6, 0, 2, 0, 0, 1, 2, 2, 11, 0, 6, 4, 2, 1, 2, 0, 1, 2, 3, 1, 2, 6, 0, 2, 0, 0, 1, 4, 0, 2, 1, 4, 0, 1])], [], [])
theorem oo_Gr_mayAlter_28 {kA : Nat → ClassId} : or_ok PRD kA GG o_Gr_mayAlter_28 := by
  refine or_mk fun A ta ws vs hD hth hl => ?_
  intro t0 r0 t1 k1 t2 k2 t3 k3 t4 k4 t5 k5 f0 f1 f2
  have kz_0_0 := fdq_21 hD hth r0
  have kz_0_1 := fdq_30 hD hth r0
  have kz_0_2 := fdq_20 hD hth r0
  have nf0 : fc_1 PRD (20, [5, 1, 2, 0, 3], [50, 3, 0, 3002, 3000, 3001, 4, 6, 1, 2, 1, 0, 0, 1, 3, 36, 2, 6, 1, 2, 1, 1, 0, 0, 2, 6, 0, 2, 0, 0, 1, 2, 2, 11, 0, 6, 4, 2, 1, 2, 0, 1, 2, 3, 2, 0, 3, 2, 3, 0, 0, 23, 3, 81, 2, 6, 1, 2, 1, 1, 0, 1, 2, 6, 0, 2, 0, 0, 1, 2, 2, 11, 0, 6, 4, 2, 1, 2, 0, 1, 2, 3, 0, 2, 6, 0, 2, 0, 0, 1, 4, 2, 11, 0, 6, 4, 2, 1, 4, 0, 1, 2, 3, 0, 2, 7, 0, 3, 2, 3, 1, 0, 47, 3, 10, 0, 6, 4, 2, 1, 2, 0, 1, 1, 4, 0, 6, 4, 2, 1, 4, 0, 1, 1, 2, 3, 27, 2, 6, 1, 2, 1, 1, 0, 2, 2, 6, 0, 2, 0, 0, 1, 2, 0, 6, 4, 2, 1, 2, 0, 1, 2, 3, 1, 3, 27, 2, 6, 1, 2, 1, 1, 0, 3, 2, 6, 0, 2, 0, 0, 1, 2, 0, 6, 4, 2, 1, 2, 0, 1, 2, 3, 0, 3, 43, 2, 6, 1, 2, 1, 1, 0, 4, 2, 6, 0, 2, 0, 0, 1, 2, 2, 11, 0, 6, 4, 2, 1, 2, 0, 1, 2, 3, 0, 2, 6, 0, 2, 0, 1, 1, 4, 0, 2, 1, 4, 0, 99, 3, 43, 2, 6, 1, 2, 1, 1, 0, 5, 2, 6, 0, 2, 0, 0, 1, 2, 2, 11, 0, 6, 4, 2, 1, 2, 0, 1, 2, 3, 1, 2, 6, 0, 2, 0, 1, 1, 4, 0, 2, 1, 4, 0, 9, 3, 48, 2, 6, 1, 2, 1, 1, 0, 6, 2, 6, 0, 2, 0, 0, 1, 2, 2, 11, 0, 6, 4, 2, 1, 2, 0, 1, 2, 3, 0, 2, 6, 0, 2, 0, 0, 1, 4, 0, 6, 4, 2, 1, 4, 0, 1, 2, 3, 2, 2, 6, 1, 2, 1, 1, 0, 7, 2, 6, 0, 2, 0, 0, 1, 2, 2, 11, 0, 6, 4, 2, 1, 2, 0, 1, 2, 3, 1, 2, 6, 0, 2, 0, 0, 1, 4, 0, 2, 1, 4, 0, 1]) ws (vs) := ⟨nf_in hl rfl, sgq_1778 (vc_Gr_mayAlter_28_0 (v_iv (n_v vs 1)) (v_iv (n_v vs 2)) (v_iv (n_v vs 3)) (v_iv (n_v vs 5)) (w_fi ws (n_v vs 0) 1) (w_fi ws (n_v vs 0) 0) (w_fi ws (n_v vs 0) 2) k1 k2 k3 k5 kz_0_0 kz_0_1 kz_0_2)⟩
  refine ⟨(fun _ h => (by cases h)), [], trivial, ?_, (fun _ h => (by cases h))⟩
  rw [List.append_nil]
  exact List.forall_mem_cons.mpr ⟨⟨show (20 : Nat) < 100 from by decide, nf0⟩, (fun _ h => (by cases h))⟩
set_option maxHeartbeats 4000000 in
theorem vc_Gr_mayAlter_29_0 (x1 : Int) (x2 : Int) (x3 : Int) (x6 : Int) (edges_0 : Int) (nodes_0 : Int) (groups_0 : Int) (k1 : 5 ≤ x1 ∧ x1 ≤ 5) (k2 : 0 ≤ x2 ∧ x2 ≤ 47) (k3 : (-2147483648) ≤ x3 ∧ x3 ≤ 0) (k6 : 0 ≤ x6 ∧ x6 ≤ 0) (kz_0_0 : 0 ≤ nodes_0 ∧ nodes_0 ≤ 24) (kz_0_1 : 0 ≤ edges_0 ∧ edges_0 ≤ 48) (kz_0_2 : 0 ≤ groups_0 ∧ groups_0 ≤ 8) : (x6 = 1) → (((x1 = 0) ∧ ((0 ≤ x2) ∧ (((x2 + 1) ≤ groups_0) ∧ (nodes_0 ≤ 23)))) ∨ (((x1 = 1) ∧ ((0 ≤ x2) ∧ (((x2 + 1) ≤ nodes_0) ∧ ((0 ≤ x3) ∧ (((x3 + 1) ≤ nodes_0) ∧ ((edges_0 ≤ 47) ∧ (((x2 + 1) ≤ x3) ∨ ((x3 + 1) ≤ x2)))))))) ∨ (((x1 = 2) ∧ ((0 ≤ x2) ∧ ((x2 + 1) ≤ edges_0))) ∨ (((x1 = 3) ∧ ((0 ≤ x2) ∧ ((x2 + 1) ≤ nodes_0))) ∨ (((x1 = 4) ∧ ((0 ≤ x2) ∧ (((x2 + 1) ≤ nodes_0) ∧ ((1 ≤ x3) ∧ (x3 ≤ 99))))) ∨ (((x1 = 5) ∧ ((0 ≤ x2) ∧ (((x2 + 1) ≤ edges_0) ∧ ((1 ≤ x3) ∧ (x3 ≤ 9))))) ∨ (((x1 = 6) ∧ ((0 ≤ x2) ∧ (((x2 + 1) ≤ nodes_0) ∧ ((0 ≤ x3) ∧ ((x3 + 1) ≤ groups_0))))) ∨ ((x1 = 7) ∧ ((0 ≤ x2) ∧ (((x2 + 1) ≤ edges_0) ∧ ((0 ≤ x3) ∧ (x3 ≤ 1)))))))))))) := by
  first
    | (intro h; exfalso; omega)
    | (intro h; left; omega)
    | (intro h; right; left; omega)
    | (intro h; right; right; left; omega)
    | (intro h; right; right; right; left; omega)
    | (intro h; right; right; right; right; left; omega)
    | (intro h; right; right; right; right; right; left; omega)
    | (intro h; right; right; right; right; right; right; left; omega)
    | (intro h; right; right; right; right; right; right; right; omega)
    | omega
  
def o_Gr_mayAlter_29 : or_T := (185, 7, [(0, (2, 0, 0, [3])), (1, (0, 5, 5, [])), (2, (0, 0, 47, [])), (3, (0, -2147483648, 0, [])), (6, (0, 0, 0, []))], [], [], [], [(20, [6, 1, 2, 0, 3], [50, 3, 0, 3002, 3000, 3001, 4, 6, 1, 2, 1, 0, 0, 1, 3, 36, 2, 6, 1, 2, 1, 1, 0, 0, 2, 6, 0, 2, 0, 0, 1, 2, 2, 11, 0, 6, 4, 2, 1, 2, 0, 1, 2, 3, 2, 0, 3, 2, 3, 0, 0, 23, 3, 81, 2, 6, 1, 2, 1, 1, 0, 1, 2, 6, 0, 2, 0, 0, 1, 2, 2, 11, 0, 6, 4, 2, 1, 2, 0, 1, 2, 3, 0, 2, 6, 0, 2, 0, 0, 1, 4, 2, 11, 0, 6, 4, 2, 1, 4, 0, 1, 2, 3, 0, 2, 7, 0, 3, 2, 3, 1, 0, 47, 3, 10, 0, 6, 4, 2, 1, 2, 0, 1, 1, 4, 0, 6, 4, 2, 1, 4, 0, 1, 1, 2, 3, 27, 2, 6, 1, 2, 1, 1, 0, 2, 2, 6, 0, 2, 0, 0, 1, 2, 0, 6, 4, 2, 1, 2, 0, 1, 2, 3, 1, 3, 27, 2, 6, 1, 2, 1, 1, 0, 3, 2, 6, 0, 2, 0, 0, 1, 2, 0, 6, 4, 2, 1, 2, 0, 1, 2, 3, 0, 3, 43, 2, 6, 1, 2, 1, 1, 0, 4, 2, 6, 0, 2, 0, 0, 1, 2, 2, 11, 0, 6, 4, 2, 1, 2, 0, 1, 2, 3, 0, 2, 6, 0, 2, 0, 1, 1, 4, 0, 2, 1, 4, 0, 99, 3, 43, 2, 6, 1, 2, 1, 1, 0, 5, 2, 6, 0, 2, 0, 0, 1, 2, 2, 11, 0, 6, 4, 2, 1, 2, 0, 1, 2, 3, 1, 2, 6, 0, 2, 0, 1, 1, 4, 0, 2, 1, 4, 0, 9, 3, 48, 2, 6, 1, 2, 1, 1, 0, 6, 2, 6, 0, 2, 0, 0, 1, 2, 2, 11, 0, 6, 4, 2, 1, 2, 0, 1, 2, 3, 0, 2, 6, 0, 2, 0, 0, 1, 4, 0, 6, 4, 2, 1, 4, 0, 1, 2, 3, 2, 2, 6, 1, 2, 1, 1, 0, 7, 2, 6, 0, 2, 0, 0, 1, 2, 2, 11, 0, 6, 4, 2, 1, 2, 0, 1, 2, 3, 1, 2, 6, 0, 2, 0, 0, 1, 4, 0, 2, 1, 4, 0, 1])], [], [])
theorem oo_Gr_mayAlter_29 {kA : Nat → ClassId} : or_ok PRD kA GG o_Gr_mayAlter_29 := by
  refine or_mk fun A ta ws vs hD hth hl => ?_
  intro t0 r0 t1 k1 t2 k2 t3 k3 t6 k6
  have kz_0_0 := fdq_21 hD hth r0
  have kz_0_1 := fdq_30 hD hth r0
  have kz_0_2 := fdq_20 hD hth r0
  have nf0 : fc_1 PRD (20, [6, 1, 2, 0, 3], [50, 3, 0, 3002, 3000, 3001, 4, 6, 1, 2, 1, 0, 0, 1, 3, 36, 2, 6, 1, 2, 1, 1, 0, 0, 2, 6, 0, 2, 0, 0, 1, 2, 2, 11, 0, 6, 4, 2, 1, 2, 0, 1, 2, 3, 2, 0, 3, 2, 3, 0, 0, 23, 3, 81, 2, 6, 1, 2, 1, 1, 0, 1, 2, 6, 0, 2, 0, 0, 1, 2, 2, 11, 0, 6, 4, 2, 1, 2, 0, 1, 2, 3, 0, 2, 6, 0, 2, 0, 0, 1, 4, 2, 11, 0, 6, 4, 2, 1, 4, 0, 1, 2, 3, 0, 2, 7, 0, 3, 2, 3, 1, 0, 47, 3, 10, 0, 6, 4, 2, 1, 2, 0, 1, 1, 4, 0, 6, 4, 2, 1, 4, 0, 1, 1, 2, 3, 27, 2, 6, 1, 2, 1, 1, 0, 2, 2, 6, 0, 2, 0, 0, 1, 2, 0, 6, 4, 2, 1, 2, 0, 1, 2, 3, 1, 3, 27, 2, 6, 1, 2, 1, 1, 0, 3, 2, 6, 0, 2, 0, 0, 1, 2, 0, 6, 4, 2, 1, 2, 0, 1, 2, 3, 0, 3, 43, 2, 6, 1, 2, 1, 1, 0, 4, 2, 6, 0, 2, 0, 0, 1, 2, 2, 11, 0, 6, 4, 2, 1, 2, 0, 1, 2, 3, 0, 2, 6, 0, 2, 0, 1, 1, 4, 0, 2, 1, 4, 0, 99, 3, 43, 2, 6, 1, 2, 1, 1, 0, 5, 2, 6, 0, 2, 0, 0, 1, 2, 2, 11, 0, 6, 4, 2, 1, 2, 0, 1, 2, 3, 1, 2, 6, 0, 2, 0, 1, 1, 4, 0, 2, 1, 4, 0, 9, 3, 48, 2, 6, 1, 2, 1, 1, 0, 6, 2, 6, 0, 2, 0, 0, 1, 2, 2, 11, 0, 6, 4, 2, 1, 2, 0, 1, 2, 3, 0, 2, 6, 0, 2, 0, 0, 1, 4, 0, 6, 4, 2, 1, 4, 0, 1, 2, 3, 2, 2, 6, 1, 2, 1, 1, 0, 7, 2, 6, 0, 2, 0, 0, 1, 2, 2, 11, 0, 6, 4, 2, 1, 2, 0, 1, 2, 3, 1, 2, 6, 0, 2, 0, 0, 1, 4, 0, 2, 1, 4, 0, 1]) ws (vs) := ⟨nf_in hl rfl, sgq_1778 (vc_Gr_mayAlter_29_0 (v_iv (n_v vs 1)) (v_iv (n_v vs 2)) (v_iv (n_v vs 3)) (v_iv (n_v vs 6)) (w_fi ws (n_v vs 0) 1) (w_fi ws (n_v vs 0) 0) (w_fi ws (n_v vs 0) 2) k1 k2 k3 k6 kz_0_0 kz_0_1 kz_0_2)⟩
  refine ⟨(fun _ h => (by cases h)), [], trivial, ?_, (fun _ h => (by cases h))⟩
  rw [List.append_nil]
  exact List.forall_mem_cons.mpr ⟨⟨show (20 : Nat) < 100 from by decide, nf0⟩, (fun _ h => (by cases h))⟩
set_option maxHeartbeats 4000000 in
theorem vc_Gr_mayAlter_30_0 (x1 : Int) (x2 : Int) (x3 : Int) (x7 : Int) (edges_0 : Int) (nodes_0 : Int) (groups_0 : Int) (k1 : 5 ≤ x1 ∧ x1 ≤ 5) (k2 : 0 ≤ x2 ∧ x2 ≤ 47) (k3 : 10 ≤ x3 ∧ x3 ≤ 2147483647) (k7 : 0 ≤ x7 ∧ x7 ≤ 0) (kz_0_0 : 0 ≤ nodes_0 ∧ nodes_0 ≤ 24) (kz_0_1 : 0 ≤ edges_0 ∧ edges_0 ≤ 48) (kz_0_2 : 0 ≤ groups_0 ∧ groups_0 ≤ 8) : (x7 = 1) → (((x1 = 0) ∧ ((0 ≤ x2) ∧ (((x2 + 1) ≤ groups_0) ∧ (nodes_0 ≤ 23)))) ∨ (((x1 = 1) ∧ ((0 ≤ x2) ∧ (((x2 + 1) ≤ nodes_0) ∧ ((0 ≤ x3) ∧ (((x3 + 1) ≤ nodes_0) ∧ ((edges_0 ≤ 47) ∧ (((x2 + 1) ≤ x3) ∨ ((x3 + 1) ≤ x2)))))))) ∨ (((x1 = 2) ∧ ((0 ≤ x2) ∧ ((x2 + 1) ≤ edges_0))) ∨ (((x1 = 3) ∧ ((0 ≤ x2) ∧ ((x2 + 1) ≤ nodes_0))) ∨ (((x1 = 4) ∧ ((0 ≤ x2) ∧ (((x2 + 1) ≤ nodes_0) ∧ ((1 ≤ x3) ∧ (x3 ≤ 99))))) ∨ (((x1 = 5) ∧ ((0 ≤ x2) ∧ (((x2 + 1) ≤ edges_0) ∧ ((1 ≤ x3) ∧ (x3 ≤ 9))))) ∨ (((x1 = 6) ∧ ((0 ≤ x2) ∧ (((x2 + 1) ≤ nodes_0) ∧ ((0 ≤ x3) ∧ ((x3 + 1) ≤ groups_0))))) ∨ ((x1 = 7) ∧ ((0 ≤ x2) ∧ (((x2 + 1) ≤ edges_0) ∧ ((0 ≤ x3) ∧ (x3 ≤ 1)))))))))))) := by
  first
    | (intro h; exfalso; omega)
    | (intro h; left; omega)
    | (intro h; right; left; omega)
    | (intro h; right; right; left; omega)
    | (intro h; right; right; right; left; omega)
    | (intro h; right; right; right; right; left; omega)
    | (intro h; right; right; right; right; right; left; omega)
    | (intro h; right; right; right; right; right; right; left; omega)
    | (intro h; right; right; right; right; right; right; right; omega)
    | omega
  
def o_Gr_mayAlter_30 : or_T := (185, 8, [(0, (2, 0, 0, [3])), (1, (0, 5, 5, [])), (2, (0, 0, 47, [])), (3, (0, 10, 2147483647, [])), (4, (0, 1, 1, [])), (5, (0, 1, 1, [])), (6, (0, 9, 9, [])), (7, (0, 0, 0, []))], [(7, [3, 6], [4]), (7, [3, 5], [3]), (8, [4], [1]), (20, [4, 2, 0], [50, 1, 0, 2001, 4, 6, 1, 2, 1, 0, 0, 1, 2, 6, 0, 2, 0, 0, 1, 1, 0, 6, 4, 2, 1, 1, 0, 1, 2, 2, 1]), (20, [4, 2, 0], [50, 1, 0, 2001, 4, 6, 1, 2, 1, 0, 0, 0, 3, 6, 0, 2, 1, 1, 0, -1, 0, 3, 2, 2, 1, 1, 1])], [], [], [(20, [7, 1, 2, 0, 3], [50, 3, 0, 3002, 3000, 3001, 4, 6, 1, 2, 1, 0, 0, 1, 3, 36, 2, 6, 1, 2, 1, 1, 0, 0, 2, 6, 0, 2, 0, 0, 1, 2, 2, 11, 0, 6, 4, 2, 1, 2, 0, 1, 2, 3, 2, 0, 3, 2, 3, 0, 0, 23, 3, 81, 2, 6, 1, 2, 1, 1, 0, 1, 2, 6, 0, 2, 0, 0, 1, 2, 2, 11, 0, 6, 4, 2, 1, 2, 0, 1, 2, 3, 0, 2, 6, 0, 2, 0, 0, 1, 4, 2, 11, 0, 6, 4, 2, 1, 4, 0, 1, 2, 3, 0, 2, 7, 0, 3, 2, 3, 1, 0, 47, 3, 10, 0, 6, 4, 2, 1, 2, 0, 1, 1, 4, 0, 6, 4, 2, 1, 4, 0, 1, 1, 2, 3, 27, 2, 6, 1, 2, 1, 1, 0, 2, 2, 6, 0, 2, 0, 0, 1, 2, 0, 6, 4, 2, 1, 2, 0, 1, 2, 3, 1, 3, 27, 2, 6, 1, 2, 1, 1, 0, 3, 2, 6, 0, 2, 0, 0, 1, 2, 0, 6, 4, 2, 1, 2, 0, 1, 2, 3, 0, 3, 43, 2, 6, 1, 2, 1, 1, 0, 4, 2, 6, 0, 2, 0, 0, 1, 2, 2, 11, 0, 6, 4, 2, 1, 2, 0, 1, 2, 3, 0, 2, 6, 0, 2, 0, 1, 1, 4, 0, 2, 1, 4, 0, 99, 3, 43, 2, 6, 1, 2, 1, 1, 0, 5, 2, 6, 0, 2, 0, 0, 1, 2, 2, 11, 0, 6, 4, 2, 1, 2, 0, 1, 2, 3, 1, 2, 6, 0, 2, 0, 1, 1, 4, 0, 2, 1, 4, 0, 9, 3, 48, 2, 6, 1, 2, 1, 1, 0, 6, 2, 6, 0, 2, 0, 0, 1, 2, 2, 11, 0, 6, 4, 2, 1, 2, 0, 1, 2, 3, 0, 2, 6, 0, 2, 0, 0, 1, 4, 0, 6, 4, 2, 1, 4, 0, 1, 2, 3, 2, 2, 6, 1, 2, 1, 1, 0, 7, 2, 6, 0, 2, 0, 0, 1, 2, 2, 11, 0, 6, 4, 2, 1, 2, 0, 1, 2, 3, 1, 2, 6, 0, 2, 0, 0, 1, 4, 0, 2, 1, 4, 0, 1])], [], [])
theorem oo_Gr_mayAlter_30 {kA : Nat → ClassId} : or_ok PRD kA GG o_Gr_mayAlter_30 := by
  refine or_mk fun A ta ws vs hD hth hl => ?_
  intro t0 r0 t1 k1 t2 k2 t3 k3 t4 k4 t5 k5 t6 k6 t7 k7 f0 f1 f2 f3 f4
  have kz_0_0 := fdq_21 hD hth r0
  have kz_0_1 := fdq_30 hD hth r0
  have kz_0_2 := fdq_20 hD hth r0
  have nf0 : fc_1 PRD (20, [7, 1, 2, 0, 3], [50, 3, 0, 3002, 3000, 3001, 4, 6, 1, 2, 1, 0, 0, 1, 3, 36, 2, 6, 1, 2, 1, 1, 0, 0, 2, 6, 0, 2, 0, 0, 1, 2, 2, 11, 0, 6, 4, 2, 1, 2, 0, 1, 2, 3, 2, 0, 3, 2, 3, 0, 0, 23, 3, 81, 2, 6, 1, 2, 1, 1, 0, 1, 2, 6, 0, 2, 0, 0, 1, 2, 2, 11, 0, 6, 4, 2, 1, 2, 0, 1, 2, 3, 0, 2, 6, 0, 2, 0, 0, 1, 4, 2, 11, 0, 6, 4, 2, 1, 4, 0, 1, 2, 3, 0, 2, 7, 0, 3, 2, 3, 1, 0, 47, 3, 10, 0, 6, 4, 2, 1, 2, 0, 1, 1, 4, 0, 6, 4, 2, 1, 4, 0, 1, 1, 2, 3, 27, 2, 6, 1, 2, 1, 1, 0, 2, 2, 6, 0, 2, 0, 0, 1, 2, 0, 6, 4, 2, 1, 2, 0, 1, 2, 3, 1, 3, 27, 2, 6, 1, 2, 1, 1, 0, 3, 2, 6, 0, 2, 0, 0, 1, 2, 0, 6, 4, 2, 1, 2, 0, 1, 2, 3, 0, 3, 43, 2, 6, 1, 2, 1, 1, 0, 4, 2, 6, 0, 2, 0, 0, 1, 2, 2, 11, 0, 6, 4, 2, 1, 2, 0, 1, 2, 3, 0, 2, 6, 0, 2, 0, 1, 1, 4, 0, 2, 1, 4, 0, 99, 3, 43, 2, 6, 1, 2, 1, 1, 0, 5, 2, 6, 0, 2, 0, 0, 1, 2, 2, 11, 0, 6, 4, 2, 1, 2, 0, 1, 2, 3, 1, 2, 6, 0, 2, 0, 1, 1, 4, 0, 2, 1, 4, 0, 9, 3, 48, 2, 6, 1, 2, 1, 1, 0, 6, 2, 6, 0, 2, 0, 0, 1, 2, 2, 11, 0, 6, 4, 2, 1, 2, 0, 1, 2, 3, 0, 2, 6, 0, 2, 0, 0, 1, 4, 0, 6, 4, 2, 1, 4, 0, 1, 2, 3, 2, 2, 6, 1, 2, 1, 1, 0, 7, 2, 6, 0, 2, 0, 0, 1, 2, 2, 11, 0, 6, 4, 2, 1, 2, 0, 1, 2, 3, 1, 2, 6, 0, 2, 0, 0, 1, 4, 0, 2, 1, 4, 0, 1]) ws (vs) := ⟨nf_in hl rfl, sgq_1778 (vc_Gr_mayAlter_30_0 (v_iv (n_v vs 1)) (v_iv (n_v vs 2)) (v_iv (n_v vs 3)) (v_iv (n_v vs 7)) (w_fi ws (n_v vs 0) 1) (w_fi ws (n_v vs 0) 0) (w_fi ws (n_v vs 0) 2) k1 k2 k3 k7 kz_0_0 kz_0_1 kz_0_2)⟩
  refine ⟨(fun _ h => (by cases h)), [], trivial, ?_, (fun _ h => (by cases h))⟩
  rw [List.append_nil]
  exact List.forall_mem_cons.mpr ⟨⟨show (20 : Nat) < 100 from by decide, nf0⟩, (fun _ h => (by cases h))⟩
set_option maxHeartbeats 4000000 in
theorem vc_Gr_mayAlter_31_0 (x1 : Int) (x2 : Int) (x3 : Int) (x4 : Int) (x7 : Int) (edges_0 : Int) (nodes_0 : Int) (groups_0 : Int) (k1 : 5 ≤ x1 ∧ x1 ≤ 5) (k2 : 0 ≤ x2 ∧ x2 ≤ 47) (k3 : 1 ≤ x3 ∧ x3 ≤ 9) (k4 : 1 ≤ x4 ∧ x4 ≤ 1) (k7 : 1 ≤ x7 ∧ x7 ≤ 1) (f3 : (x4 = 1) → ((0 ≤ x2) ∧ ((x2 + 1) ≤ edges_0))) (f4 : (x4 = 0) → ((x2 ≤ (-1)) ∨ (edges_0 ≤ x2))) (kz_0_0 : 0 ≤ nodes_0 ∧ nodes_0 ≤ 24) (kz_0_1 : 0 ≤ edges_0 ∧ edges_0 ≤ 48) (kz_0_2 : 0 ≤ groups_0 ∧ groups_0 ≤ 8) : (x7 = 1) → (((x1 = 0) ∧ ((0 ≤ x2) ∧ (((x2 + 1) ≤ groups_0) ∧ (nodes_0 ≤ 23)))) ∨ (((x1 = 1) ∧ ((0 ≤ x2) ∧ (((x2 + 1) ≤ nodes_0) ∧ ((0 ≤ x3) ∧ (((x3 + 1) ≤ nodes_0) ∧ ((edges_0 ≤ 47) ∧ (((x2 + 1) ≤ x3) ∨ ((x3 + 1) ≤ x2)))))))) ∨ (((x1 = 2) ∧ ((0 ≤ x2) ∧ ((x2 + 1) ≤ edges_0))) ∨ (((x1 = 3) ∧ ((0 ≤ x2) ∧ ((x2 + 1) ≤ nodes_0))) ∨ (((x1 = 4) ∧ ((0 ≤ x2) ∧ (((x2 + 1) ≤ nodes_0) ∧ ((1 ≤ x3) ∧ (x3 ≤ 99))))) ∨ (((x1 = 5) ∧ ((0 ≤ x2) ∧ (((x2 + 1) ≤ edges_0) ∧ ((1 ≤ x3) ∧ (x3 ≤ 9))))) ∨ (((x1 = 6) ∧ ((0 ≤ x2) ∧ (((x2 + 1) ≤ nodes_0) ∧ ((0 ≤ x3) ∧ ((x3 + 1) ≤ groups_0))))) ∨ ((x1 = 7) ∧ ((0 ≤ x2) ∧ (((x2 + 1) ≤ edges_0) ∧ ((0 ≤ x3) ∧ (x3 ≤ 1)))))))))))) := by
  first
    | (intro h; exfalso; omega)
    | (intro h; left; omega)
    | (intro h; right; left; omega)
    | (intro h; right; right; left; omega)
    | (intro h; right; right; right; left; omega)
    | (intro h; right; right; right; right; left; omega)
    | (intro h; right; right; right; right; right; left; omega)
    | (intro h; right; right; right; right; right; right; left; omega)
    | (intro h; right; right; right; right; right; right; right; omega)
    | omega
  
def o_Gr_mayAlter_31 : or_T := (185, 8, [(0, (2, 0, 0, [3])), (1, (0, 5, 5, [])), (2, (0, 0, 47, [])), (3, (0, 1, 9, [])), (4, (0, 1, 1, [])), (5, (0, 1, 1, [])), (6, (0, 9, 9, [])), (7, (0, 1, 1, []))], [(7, [3, 6], [5]), (7, [3, 5], [3]), (8, [4], [1]), (20, [4, 2, 0], [50, 1, 0, 2001, 4, 6, 1, 2, 1, 0, 0, 1, 2, 6, 0, 2, 0, 0, 1, 1, 0, 6, 4, 2, 1, 1, 0, 1, 2, 2, 1]), (20, [4, 2, 0], [50, 1, 0, 2001, 4, 6, 1, 2, 1, 0, 0, 0, 3, 6, 0, 2, 1, 1, 0, -1, 0, 3, 2, 2, 1, 1, 1])], [], [], [(20, [7, 1, 2, 0, 3], [50, 3, 0, 3002, 3000, 3001, 4, 6, 1, 2, 1, 0, 0, 1, 3, 36, 2, 6, 1, 2, 1, 1, 0, 0, 2, 6, 0, 2, 0, 0, 1, 2, 2, 11, 0, 6, 4, 2, 1, 2, 0, 1, 2, 3, 2, 0, 3, 2, 3, 0, 0, 23, 3, 81, 2, 6, 1, 2, 1, 1, 0, 1, 2, 6, 0, 2, 0, 0, 1, 2, 2, 11, 0, 6, 4, 2, 1, 2, 0, 1, 2, 3, 0, 2, 6, 0, 2, 0, 0, 1, 4, 2, 11, 0, 6, 4, 2, 1, 4, 0, 1, 2, 3, 0, 2, 7, 0, 3, 2, 3, 1, 0, 47, 3, 10, 0, 6, 4, 2, 1, 2, 0, 1, 1, 4, 0, 6, 4, 2, 1, 4, 0, 1, 1, 2, 3, 27, 2, 6, 1, 2, 1, 1, 0, 2, 2, 6, 0, 2, 0, 0, 1, 2, 0, 6, 4, 2, 1, 2, 0, 1, 2, 3, 1, 3, 27, 2, 6, 1, 2, 1, 1, 0, 3, 2, 6, 0, 2, 0, 0, 1, 2, 0, 6, 4, 2, 1, 2, 0, 1, 2, 3, 0, 3, 43, 2, 6, 1, 2, 1, 1, 0, 4, 2, 6, 0, 2, 0, 0, 1, 2, 2, 11, 0, 6, 4, 2, 1, 2, 0, 1, 2, 3, 0, 2, 6, 0, 2, 0, 1, 1, 4, 0, 2, 1, 4, 0, 99, 3, 43, 2, 6, 1, 2, 1, 1, 0, 5, 2, 6, 0, 2, 0, 0, 1, 2, 2, 11, 0, 6, 4, 2, 1, 2, 0, 1, 2, 3, 1, 2, 6, 0, 2, 0, 1, 1, 4, 0, 2, 1, 4, 0, 9, 3, 48, 2, 6, 1, 2, 1, 1, 0, 6, 2, 6, 0, 2, 0, 0, 1, 2, 2, 11, 0, 6, 4, 2, 1, 2, 0, 1, 2, 3, 0, 2, 6, 0, 2, 0, 0, 1, 4, 0, 6, 4, 2, 1, 4, 0, 1, 2, 3, 2, 2, 6, 1, 2, 1, 1, 0, 7, 2, 6, 0, 2, 0, 0, 1, 2, 2, 11, 0, 6, 4, 2, 1, 2, 0, 1, 2, 3, 1, 2, 6, 0, 2, 0, 0, 1, 4, 0, 2, 1, 4, 0, 1])], [], [])
theorem oo_Gr_mayAlter_31 {kA : Nat → ClassId} : or_ok PRD kA GG o_Gr_mayAlter_31 := by
  refine or_mk fun A ta ws vs hD hth hl => ?_
  intro t0 r0 t1 k1 t2 k2 t3 k3 t4 k4 t5 k5 t6 k6 t7 k7 f0 f1 f2 f3 f4
  have kz_0_0 := fdq_21 hD hth r0
  have kz_0_1 := fdq_30 hD hth r0
  have kz_0_2 := fdq_20 hD hth r0
  have nf0 : fc_1 PRD (20, [7, 1, 2, 0, 3], [50, 3, 0, 3002, 3000, 3001, 4, 6, 1, 2, 1, 0, 0, 1, 3, 36, 2, 6, 1, 2, 1, 1, 0, 0, 2, 6, 0, 2, 0, 0, 1, 2, 2, 11, 0, 6, 4, 2, 1, 2, 0, 1, 2, 3, 2, 0, 3, 2, 3, 0, 0, 23, 3, 81, 2, 6, 1, 2, 1, 1, 0, 1, 2, 6, 0, 2, 0, 0, 1, 2, 2, 11, 0, 6, 4, 2, 1, 2, 0, 1, 2, 3, 0, 2, 6, 0, 2, 0, 0, 1, 4, 2, 11, 0, 6, 4, 2, 1, 4, 0, 1, 2, 3, 0, 2, 7, 0, 3, 2, 3, 1, 0, 47, 3, 10, 0, 6, 4, 2, 1, 2, 0, 1, 1, 4, 0, 6, 4, 2, 1, 4, 0, 1, 1, 2, 3, 27, 2, 6, 1, 2, 1, 1, 0, 2, 2, 6, 0, 2, 0, 0, 1, 2, 0, 6, 4, 2, 1, 2, 0, 1, 2, 3, 1, 3, 27, 2, 6, 1, 2, 1, 1, 0, 3, 2, 6, 0, 2, 0, 0, 1, 2, 0, 6, 4, 2, 1, 2, 0, 1, 2, 3, 0, 3, 43, 2, 6, 1, 2, 1, 1, 0, 4, 2, 6, 0, 2, 0, 0, 1, 2, 2, 11, 0, 6, 4, 2, 1, 2, 0, 1, 2, 3, 0, 2, 6, 0, 2, 0, 1, 1, 4, 0, 2, 1, 4, 0, 99, 3, 43, 2, 6, 1, 2, 1, 1, 0, 5, 2, 6, 0, 2, 0, 0, 1, 2, 2, 11, 0, 6, 4, 2, 1, 2, 0, 1, 2, 3, 1, 2, 6, 0, 2, 0, 1, 1, 4, 0, 2, 1, 4, 0, 9, 3, 48, 2, 6, 1, 2, 1, 1, 0, 6, 2, 6, 0, 2, 0, 0, 1, 2, 2, 11, 0, 6, 4, 2, 1, 2, 0, 1, 2, 3, 0, 2, 6, 0, 2, 0, 0, 1, 4, 0, 6, 4, 2, 1, 4, 0, 1, 2, 3, 2, 2, 6, 1, 2, 1, 1, 0, 7, 2, 6, 0, 2, 0, 0, 1, 2, 2, 11, 0, 6, 4, 2, 1, 2, 0, 1, 2, 3, 1, 2, 6, 0, 2, 0, 0, 1, 4, 0, 2, 1, 4, 0, 1]) ws (vs) := ⟨nf_in hl rfl, sgq_1778 (vc_Gr_mayAlter_31_0 (v_iv (n_v vs 1)) (v_iv (n_v vs 2)) (v_iv (n_v vs 3)) (v_iv (n_v vs 4)) (v_iv (n_v vs 7)) (w_fi ws (n_v vs 0) 1) (w_fi ws (n_v vs 0) 0) (w_fi ws (n_v vs 0) 2) k1 k2 k3 k4 k7 (shm_378 f3) (shm_379 f4) kz_0_0 kz_0_1 kz_0_2)⟩
  refine ⟨(fun _ h => (by cases h)), [], trivial, ?_, (fun _ h => (by cases h))⟩
  rw [List.append_nil]
  exact List.forall_mem_cons.mpr ⟨⟨show (20 : Nat) < 100 from by decide, nf0⟩, (fun _ h => (by cases h))⟩
set_option maxHeartbeats 4000000 in
theorem vc_Gr_mayAlter_32_0 (x1 : Int) (x2 : Int) (x3 : Int) (x5 : Int) (nodes_0 : Int) (edges_0 : Int) (groups_0 : Int) (k1 : 6 ≤ x1 ∧ x1 ≤ 6) (k2 : (-2147483648) ≤ x2 ∧ x2 ≤ (-1)) (k3 : (-2147483648) ≤ x3 ∧ x3 ≤ 2147483647) (k5 : 0 ≤ x5 ∧ x5 ≤ 0) (kz_0_0 : 0 ≤ nodes_0 ∧ nodes_0 ≤ 24) (kz_0_1 : 0 ≤ edges_0 ∧ edges_0 ≤ 48) (kz_0_2 : 0 ≤ groups_0 ∧ groups_0 ≤ 8) : (x5 = 1) → (((x1 = 0) ∧ ((0 ≤ x2) ∧ (((x2 + 1) ≤ groups_0) ∧ (nodes_0 ≤ 23)))) ∨ (((x1 = 1) ∧ ((0 ≤ x2) ∧ (((x2 + 1) ≤ nodes_0) ∧ ((0 ≤ x3) ∧ (((x3 + 1) ≤ nodes_0) ∧ ((edges_0 ≤ 47) ∧ (((x2 + 1) ≤ x3) ∨ ((x3 + 1) ≤ x2)))))))) ∨ (((x1 = 2) ∧ ((0 ≤ x2) ∧ ((x2 + 1) ≤ edges_0))) ∨ (((x1 = 3) ∧ ((0 ≤ x2) ∧ ((x2 + 1) ≤ nodes_0))) ∨ (((x1 = 4) ∧ ((0 ≤ x2) ∧ (((x2 + 1) ≤ nodes_0) ∧ ((1 ≤ x3) ∧ (x3 ≤ 99))))) ∨ (((x1 = 5) ∧ ((0 ≤ x2) ∧ (((x2 + 1) ≤ edges_0) ∧ ((1 ≤ x3) ∧ (x3 ≤ 9))))) ∨ (((x1 = 6) ∧ ((0 ≤ x2) ∧ (((x2 + 1) ≤ nodes_0) ∧ ((0 ≤ x3) ∧ ((x3 + 1) ≤ groups_0))))) ∨ ((x1 = 7) ∧ ((0 ≤ x2) ∧ (((x2 + 1) ≤ edges_0) ∧ ((0 ≤ x3) ∧ (x3 ≤ 1)))))))))))) := by
  first
    | (intro h; exfalso; omega)
    | (intro h; left; omega)
    | (intro h; right; left; omega)
    | (intro h; right; right; left; omega)
    | (intro h; right; right; right; left; omega)
    | (intro h; right; right; right; right; left; omega)
    | (intro h; right; right; right; right; right; left; omega)
    | (intro h; right; right; right; right; right; right; left; omega)
    | (intro h; right; right; right; right; right; right; right; omega)
    | omega
  
def o_Gr_mayAlter_32 : or_T := (207, 6, [(0, (2, 0, 0, [3])), (1, (0, 6, 6, [])), (2, (0, -2147483648, -1, [])), (3, (0, -2147483648, 2147483647, [])), (4, (0, 0, 0, [])), (5, (0, 0, 0, []))], [(8, [4], [0]), (20, [4, 2, 0], [50, 1, 0, 2000, 4, 6, 1, 2, 1, 0, 0, 1, 2, 6, 0, 2, 0, 0, 1, 1, 0, 6, 4, 2, 1, 1, 0, 1, 2, 2, 0])], [], [], [(20, [5, 1, 2, 0, 3], [50, 3, 0, 3002, 3000, 3001, 4, 6, 1, 2, 1, 0, 0, 1, 3, 36, 2, 6, 1, 2, 1, 1, 0, 0, 2, 6, 0, 2, 0, 0, 1, 2, 2, 11, 0, 6, 4, 2, 1, 2, 0, 1, 2, 3, 2, 0, 3, 2, 3, 0, 0, 23, 3, 81, 2, 6, 1, 2, 1, 1, 0, 1, 2, 6, 0, 2, 0, 0, 1, 2, 2, 11, 0, 6, 4, 2, 1, 2, 0, 1, 2, 3, 0, 2, 6, 0, 2, 0, 0, 1, 4, 2, 11, 0, 6, 4, 2, 1, 4, 0, 1, 2, 3, 0, 2, 7, 0, 3, 2, 3, 1, 0, 47, 3, 10, 0, 6, 4, 2, 1, 2, 0, 1, 1, 4, 0, 6, 4, 2, 1, 4, 0, 1, 1, 2, 3, 27, 2, 6, 1, 2, 1, 1, 0, 2, 2, 6, 0, 2, 0, 0, 1, 2, 0, 6, 4, 2, 1, 2, 0, 1, 2, 3, 1, 3, 27, 2, 6, 1, 2, 1, 1, 0, 3, 2, 6, 0, 2, 0, 0, 1, 2, 0, 6, 4, 2, 1, 2, 0, 1, 2, 3, 0, 3, 43, 2, 6, 1, 2, 1, 1, 0, 4, 2, 6, 0, 2, 0, 0, 1, 2, 2, 11, 0, 6, 4, 2, 1, 2, 0, 1, 2, 3, 0, 2, 6, 0, 2, 0, 1, 1, 4, 0, 2, 1, 4, 0, 99, 3, 43, 2, 6, 1, 2, 1, 1, 0, 5, 2, 6, 0, 2, 0, 0, 1, 2, 2, 11, 0, 6, 4, 2, 1, 2, 0, 1, 2, 3, 1, 2, 6, 0, 2, 0, 1, 1, 4, 0, 2, 1, 4, 0, 9, 3, 48, 2, 6, 1, 2, 1, 1, 0, 6, 2, 6, 0, 2, 0, 0, 1, 2, 2, 11, 0, 6, 4, 2, 1, 2, 0, 1, 2, 3, 0, 2, 6, 0, 2, 0, 0, 1, 4, 0, 6, 4, 2, 1, 4, 0, 1, 2, 3, 2, 2, 6, 1, 2, 1, 1, 0, 7, 2, 6, 0, 2, 0, 0, 1, 2, 2, 11, 0, 6, 4, 2, 1, 2, 0, 1, 2, 3, 1, 2, 6, 0, 2, 0, 0, 1, 4, 0, 2, 1, 4, 0, 1])], [], [])
theorem oo_Gr_mayAlter_32 {kA : Nat → ClassId} : or_ok PRD kA GG o_Gr_mayAlter_32 := by
  refine or_mk fun A ta ws vs hD hth hl => ?_
  intro t0 r0 t1 k1 t2 k2 t3 k3 t4 k4 t5 k5 f0 f1
  have kz_0_0 := fdq_21 hD hth r0
  have kz_0_1 := fdq_30 hD hth r0
  have kz_0_2 := fdq_20 hD hth r0
  have nf0 : fc_1 PRD (20, [5, 1, 2, 0, 3], [50, 3, 0, 3002, 3000, 3001, 4, 6, 1, 2, 1, 0, 0, 1, 3, 36, 2, 6, 1, 2, 1, 1, 0, 0, 2, 6, 0, 2, 0, 0, 1, 2, 2, 11, 0, 6, 4, 2, 1, 2, 0, 1, 2, 3, 2, 0, 3, 2, 3, 0, 0, 23, 3, 81, 2, 6, 1, 2, 1, 1, 0, 1, 2, 6, 0, 2, 0, 0, 1, 2, 2, 11, 0, 6, 4, 2, 1, 2, 0, 1, 2, 3, 0, 2, 6, 0, 2, 0, 0, 1, 4, 2, 11, 0, 6, 4, 2, 1, 4, 0, 1, 2, 3, 0, 2, 7, 0, 3, 2, 3, 1, 0, 47, 3, 10, 0, 6, 4, 2, 1, 2, 0, 1, 1, 4, 0, 6, 4, 2, 1, 4, 0, 1, 1, 2, 3, 27, 2, 6, 1, 2, 1, 1, 0, 2, 2, 6, 0, 2, 0, 0, 1, 2, 0, 6, 4, 2, 1, 2, 0, 1, 2, 3, 1, 3, 27, 2, 6, 1, 2, 1, 1, 0, 3, 2, 6, 0, 2, 0, 0, 1, 2, 0, 6, 4, 2, 1, 2, 0, 1, 2, 3, 0, 3, 43, 2, 6, 1, 2, 1, 1, 0, 4, 2, 6, 0, 2, 0, 0, 1, 2, 2, 11, 0, 6, 4, 2, 1, 2, 0, 1, 2, 3, 0, 2, 6, 0, 2, 0, 1, 1, 4, 0, 2, 1, 4, 0, 99, 3, 43, 2, 6, 1, 2, 1, 1, 0, 5, 2, 6, 0, 2, 0, 0, 1, 2, 2, 11, 0, 6, 4, 2, 1, 2, 0, 1, 2, 3, 1, 2, 6, 0, 2, 0, 1, 1, 4, 0, 2, 1, 4, 0, 9, 3, 48, 2, 6, 1, 2, 1, 1, 0, 6, 2, 6, 0, 2, 0, 0, 1, 2, 2, 11, 0, 6, 4, 2, 1, 2, 0, 1, 2, 3, 0, 2, 6, 0, 2, 0, 0, 1, 4, 0, 6, 4, 2, 1, 4, 0, 1, 2, 3, 2, 2, 6, 1, 2, 1, 1, 0, 7, 2, 6, 0, 2, 0, 0, 1, 2, 2, 11, 0, 6, 4, 2, 1, 2, 0, 1, 2, 3, 1, 2, 6, 0, 2, 0, 0, 1, 4, 0, 2, 1, 4, 0, 1]) ws (vs) := ⟨nf_in hl rfl, sgq_1778 (vc_Gr_mayAlter_32_0 (v_iv (n_v vs 1)) (v_iv (n_v vs 2)) (v_iv (n_v vs 3)) (v_iv (n_v vs 5)) (w_fi ws (n_v vs 0) 0) (w_fi ws (n_v vs 0) 1) (w_fi ws (n_v vs 0) 2) k1 k2 k3 k5 kz_0_0 kz_0_1 kz_0_2)⟩
  refine ⟨(fun _ h => (by cases h)), [], trivial, ?_, (fun _ h => (by cases h))⟩
  rw [List.append_nil]
  exact List.forall_mem_cons.mpr ⟨⟨show (20 : Nat) < 100 from by decide, nf0⟩, (fun _ h => (by cases h))⟩
set_option maxHeartbeats 4000000 in
theorem vc_Gr_mayAlter_33_0 (x1 : Int) (x2 : Int) (x3 : Int) (x5 : Int) (nodes_0 : Int) (edges_0 : Int) (groups_0 : Int) (k1 : 6 ≤ x1 ∧ x1 ≤ 6) (k2 : 0 ≤ x2 ∧ x2 ≤ 2147483647) (k3 : (-2147483648) ≤ x3 ∧ x3 ≤ 2147483647) (k5 : 0 ≤ x5 ∧ x5 ≤ 0) (kz_0_0 : 0 ≤ nodes_0 ∧ nodes_0 ≤ 24) (kz_0_1 : 0 ≤ edges_0 ∧ edges_0 ≤ 48) (kz_0_2 : 0 ≤ groups_0 ∧ groups_0 ≤ 8) : (x5 = 1) → (((x1 = 0) ∧ ((0 ≤ x2) ∧ (((x2 + 1) ≤ groups_0) ∧ (nodes_0 ≤ 23)))) ∨ (((x1 = 1) ∧ ((0 ≤ x2) ∧ (((x2 + 1) ≤ nodes_0) ∧ ((0 ≤ x3) ∧ (((x3 + 1) ≤ nodes_0) ∧ ((edges_0 ≤ 47) ∧ (((x2 + 1) ≤ x3) ∨ ((x3 + 1) ≤ x2)))))))) ∨ (((x1 = 2) ∧ ((0 ≤ x2) ∧ ((x2 + 1) ≤ edges_0))) ∨ (((x1 = 3) ∧ ((0 ≤ x2) ∧ ((x2 + 1) ≤ nodes_0))) ∨ (((x1 = 4) ∧ ((0 ≤ x2) ∧ (((x2 + 1) ≤ nodes_0) ∧ ((1 ≤ x3) ∧ (x3 ≤ 99))))) ∨ (((x1 = 5) ∧ ((0 ≤ x2) ∧ (((x2 + 1) ≤ edges_0) ∧ ((1 ≤ x3) ∧ (x3 ≤ 9))))) ∨ (((x1 = 6) ∧ ((0 ≤ x2) ∧ (((x2 + 1) ≤ nodes_0) ∧ ((0 ≤ x3) ∧ ((x3 + 1) ≤ groups_0))))) ∨ ((x1 = 7) ∧ ((0 ≤ x2) ∧ (((x2 + 1) ≤ edges_0) ∧ ((0 ≤ x3) ∧ (x3 ≤ 1)))))))))))) := by
  first
    | (intro h; exfalso; omega)
    | (intro h; left; omega)
    | (intro h; right; left; omega)
    | (intro h; right; right; left; omega)
    | (intro h; right; right; right; left; omega)
    | (intro h; right; right; right; right; left; omega)
    | (intro h; right; right; right; right; right; left; omega)
    | (intro h; right; right; right; right; right; right; left; omega)
    | (intro h; right; right; right; right; right; right; right; omega)
    | omega
  
def o_Gr_mayAlter_33 : or_T := (207, 6, [(0, (2, 0, 0, [3])), (1, (0, 6, 6, [])), (2, (0, 0, 2147483647, [])), (3, (0, -2147483648, 2147483647, [])), (4, (0, 0, 0, [])), (5, (0, 0, 0, []))], [(8, [4], [0]), (20, [4, 2, 0], [50, 1, 0, 2000, 4, 6, 1, 2, 1, 0, 0, 1, 2, 6, 0, 2, 0, 0, 1, 1, 0, 6, 4, 2, 1, 1, 0, 1, 2, 2, 0])], [], [], [(20, [5, 1, 2, 0, 3], [50, 3, 0, 3002, 3000, 3001, 4, 6, 1, 2, 1, 0, 0, 1, 3, 36, 2, 6, 1, 2, 1, 1, 0, 0, 2, 6, 0, 2, 0, 0, 1, 2, 2, 11, 0, 6, 4, 2, 1, 2, 0, 1, 2, 3, 2, 0, 3, 2, 3, 0, 0, 23, 3, 81, 2, 6, 1, 2, 1, 1, 0, 1, 2, 6, 0, 2, 0, 0, 1, 2, 2, 11, 0, 6, 4, 2, 1, 2, 0, 1, 2, 3, 0, 2, 6, 0, 2, 0, 0, 1, 4, 2, 11, 0, 6, 4, 2, 1, 4, 0, 1, 2, 3, 0, 2, 7, 0, 3, 2, 3, 1, 0, 47, 3, 10, 0, 6, 4, 2, 1, 2, 0, 1, 1, 4, 0, 6, 4, 2, 1, 4, 0, 1, 1, 2, 3, 27, 2, 6, 1, 2, 1, 1, 0, 2, 2, 6, 0, 2, 0, 0, 1, 2, 0, 6, 4, 2, 1, 2, 0, 1, 2, 3, 1, 3, 27, 2, 6, 1, 2, 1, 1, 0, 3, 2, 6, 0, 2, 0, 0, 1, 2, 0, 6, 4, 2, 1, 2, 0, 1, 2, 3, 0, 3, 43, 2, 6, 1, 2, 1, 1, 0, 4, 2, 6, 0, 2, 0, 0, 1, 2, 2, 11, 0, 6, 4, 2, 1, 2, 0, 1, 2, 3, 0, 2, 6, 0, 2, 0, 1, 1, 4, 0, 2, 1, 4, 0, 99, 3, 43, 2, 6, 1, 2, 1, 1, 0, 5, 2, 6, 0, 2, 0, 0, 1, 2, 2, 11, 0, 6, 4, 2, 1, 2, 0, 1, 2, 3, 1, 2, 6, 0, 2, 0, 1, 1, 4, 0, 2, 1, 4, 0, 9, 3, 48, 2, 6, 1, 2, 1, 1, 0, 6, 2, 6, 0, 2, 0, 0, 1, 2, 2, 11, 0, 6, 4, 2, 1, 2, 0, 1, 2, 3, 0, 2, 6, 0, 2, 0, 0, 1, 4, 0, 6, 4, 2, 1, 4, 0, 1, 2, 3, 2, 2, 6, 1, 2, 1, 1, 0, 7, 2, 6, 0, 2, 0, 0, 1, 2, 2, 11, 0, 6, 4, 2, 1, 2, 0, 1, 2, 3, 1, 2, 6, 0, 2, 0, 0, 1, 4, 0, 2, 1, 4, 0, 1])], [], [])
theorem oo_Gr_mayAlter_33 {kA : Nat → ClassId} : or_ok PRD kA GG o_Gr_mayAlter_33 := by
  refine or_mk fun A ta ws vs hD hth hl => ?_
  intro t0 r0 t1 k1 t2 k2 t3 k3 t4 k4 t5 k5 f0 f1
  have kz_0_0 := fdq_21 hD hth r0
  have kz_0_1 := fdq_30 hD hth r0
  have kz_0_2 := fdq_20 hD hth r0
  have nf0 : fc_1 PRD (20, [5, 1, 2, 0, 3], [50, 3, 0, 3002, 3000, 3001, 4, 6, 1, 2, 1, 0, 0, 1, 3, 36, 2, 6, 1, 2, 1, 1, 0, 0, 2, 6, 0, 2, 0, 0, 1, 2, 2, 11, 0, 6, 4, 2, 1, 2, 0, 1, 2, 3, 2, 0, 3, 2, 3, 0, 0, 23, 3, 81, 2, 6, 1, 2, 1, 1, 0, 1, 2, 6, 0, 2, 0, 0, 1, 2, 2, 11, 0, 6, 4, 2, 1, 2, 0, 1, 2, 3, 0, 2, 6, 0, 2, 0, 0, 1, 4, 2, 11, 0, 6, 4, 2, 1, 4, 0, 1, 2, 3, 0, 2, 7, 0, 3, 2, 3, 1, 0, 47, 3, 10, 0, 6, 4, 2, 1, 2, 0, 1, 1, 4, 0, 6, 4, 2, 1, 4, 0, 1, 1, 2, 3, 27, 2, 6, 1, 2, 1, 1, 0, 2, 2, 6, 0, 2, 0, 0, 1, 2, 0, 6, 4, 2, 1, 2, 0, 1, 2, 3, 1, 3, 27, 2, 6, 1, 2, 1, 1, 0, 3, 2, 6, 0, 2, 0, 0, 1, 2, 0, 6, 4, 2, 1, 2, 0, 1, 2, 3, 0, 3, 43, 2, 6, 1, 2, 1, 1, 0, 4, 2, 6, 0, 2, 0, 0, 1, 2, 2, 11, 0, 6, 4, 2, 1, 2, 0, 1, 2, 3, 0, 2, 6, 0, 2, 0, 1, 1, 4, 0, 2, 1, 4, 0, 99, 3, 43, 2, 6, 1, 2, 1, 1, 0, 5, 2, 6, 0, 2, 0, 0, 1, 2, 2, 11, 0, 6, 4, 2, 1, 2, 0, 1, 2, 3, 1, 2, 6, 0, 2, 0, 1, 1, 4, 0, 2, 1, 4, 0, 9, 3, 48, 2, 6, 1, 2, 1, 1, 0, 6, 2, 6, 0, 2, 0, 0, 1, 2, 2, 11, 0, 6, 4, 2, 1, 2, 0, 1, 2, 3, 0, 2, 6, 0, 2, 0, 0, 1, 4, 0, 6, 4, 2, 1, 4, 0, 1, 2, 3, 2, 2, 6, 1, 2, 1, 1, 0, 7, 2, 6, 0, 2, 0, 0, 1, 2, 2, 11, 0, 6, 4, 2, 1, 2, 0, 1, 2, 3, 1, 2, 6, 0, 2, 0, 0, 1, 4, 0, 2, 1, 4, 0, 1]) ws (vs) := ⟨nf_in hl rfl, sgq_1778 (vc_Gr_mayAlter_33_0 (v_iv (n_v vs 1)) (v_iv (n_v vs 2)) (v_iv (n_v vs 3)) (v_iv (n_v vs 5)) (w_fi ws (n_v vs 0) 0) (w_fi ws (n_v vs 0) 1) (w_fi ws (n_v vs 0) 2) k1 k2 k3 k5 kz_0_0 kz_0_1 kz_0_2)⟩
  refine ⟨(fun _ h => (by cases h)), [], trivial, ?_, (fun _ h => (by cases h))⟩
  rw [List.append_nil]
  exact List.forall_mem_cons.mpr ⟨⟨show (20 : Nat) < 100 from by decide, nf0⟩, (fun _ h => (by cases h))⟩
set_option maxHeartbeats 4000000 in
theorem vc_Gr_mayAlter_34_0 (x1 : Int) (x2 : Int) (x3 : Int) (x6 : Int) (groups_0 : Int) (nodes_0 : Int) (edges_0 : Int) (k1 : 6 ≤ x1 ∧ x1 ≤ 6) (k2 : 0 ≤ x2 ∧ x2 ≤ 23) (k3 : (-2147483648) ≤ x3 ∧ x3 ≤ (-1)) (k6 : 0 ≤ x6 ∧ x6 ≤ 0) (kz_0_0 : 0 ≤ nodes_0 ∧ nodes_0 ≤ 24) (kz_0_1 : 0 ≤ edges_0 ∧ edges_0 ≤ 48) (kz_0_2 : 0 ≤ groups_0 ∧ groups_0 ≤ 8) : (x6 = 1) → (((x1 = 0) ∧ ((0 ≤ x2) ∧ (((x2 + 1) ≤ groups_0) ∧ (nodes_0 ≤ 23)))) ∨ (((x1 = 1) ∧ ((0 ≤ x2) ∧ (((x2 + 1) ≤ nodes_0) ∧ ((0 ≤ x3) ∧ (((x3 + 1) ≤ nodes_0) ∧ ((edges_0 ≤ 47) ∧ (((x2 + 1) ≤ x3) ∨ ((x3 + 1) ≤ x2)))))))) ∨ (((x1 = 2) ∧ ((0 ≤ x2) ∧ ((x2 + 1) ≤ edges_0))) ∨ (((x1 = 3) ∧ ((0 ≤ x2) ∧ ((x2 + 1) ≤ nodes_0))) ∨ (((x1 = 4) ∧ ((0 ≤ x2) ∧ (((x2 + 1) ≤ nodes_0) ∧ ((1 ≤ x3) ∧ (x3 ≤ 99))))) ∨ (((x1 = 5) ∧ ((0 ≤ x2) ∧ (((x2 + 1) ≤ edges_0) ∧ ((1 ≤ x3) ∧ (x3 ≤ 9))))) ∨ (((x1 = 6) ∧ ((0 ≤ x2) ∧ (((x2 + 1) ≤ nodes_0) ∧ ((0 ≤ x3) ∧ ((x3 + 1) ≤ groups_0))))) ∨ ((x1 = 7) ∧ ((0 ≤ x2) ∧ (((x2 + 1) ≤ edges_0) ∧ ((0 ≤ x3) ∧ (x3 ≤ 1)))))))))))) := by
  first
    | (intro h; exfalso; omega)
    | (intro h; left; omega)
    | (intro h; right; left; omega)
    | (intro h; right; right; left; omega)
    | (intro h; right; right; right; left; omega)
    | (intro h; right; right; right; right; left; omega)
    | (intro h; right; right; right; right; right; left; omega)
    | (intro h; right; right; right; right; right; right; left; omega)
    | (intro h; right; right; right; right; right; right; right; omega)
    | omega
  
def o_Gr_mayAlter_34 : or_T := (207, 7, [(0, (2, 0, 0, [3])), (1, (0, 6, 6, [])), (2, (0, 0, 23, [])), (3, (0, -2147483648, -1, [])), (4, (0, 1, 1, [])), (5, (0, 0, 0, [])), (6, (0, 0, 0, []))], [(8, [5], [0]), (20, [5, 3, 0], [50, 1, 0, 2002, 4, 6, 1, 2, 1, 0, 0, 1, 2, 6, 0, 2, 0, 0, 1, 1, 0, 6, 4, 2, 1, 1, 0, 1, 2, 2, 2]), (8, [4], [1]), (20, [4, 2, 0], [50, 1, 0, 2000, 4, 6, 1, 2, 1, 0, 0, 1, 2, 6, 0, 2, 0, 0, 1, 1, 0, 6, 4, 2, 1, 1, 0, 1, 2, 2, 0])], [], [], [(20, [6, 1, 2, 0, 3], [50, 3, 0, 3002, 3000, 3001, 4, 6, 1, 2, 1, 0, 0, 1, 3, 36, 2, 6, 1, 2, 1, 1, 0, 0, 2, 6, 0, 2, 0, 0, 1, 2, 2, 11, 0, 6, 4, 2, 1, 2, 0, 1, 2, 3, 2, 0, 3, 2, 3, 0, 0, 23, 3, 81, 2, 6, 1, 2, 1, 1, 0, 1, 2, 6, 0, 2, 0, 0, 1, 2, 2, 11, 0, 6, 4, 2, 1, 2, 0, 1, 2, 3, 0, 2, 6, 0, 2, 0, 0, 1, 4, 2, 11, 0, 6, 4, 2, 1, 4, 0, 1, 2, 3, 0, 2, 7, 0, 3, 2, 3, 1, 0, 47, 3, 10, 0, 6, 4, 2, 1, 2, 0, 1, 1, 4, 0, 6, 4, 2, 1, 4, 0, 1, 1, 2, 3, 27, 2, 6, 1, 2, 1, 1, 0, 2, 2, 6, 0, 2, 0, 0, 1, 2, 0, 6, 4, 2, 1, 2, 0, 1, 2, 3, 1, 3, 27, 2, 6, 1, 2, 1, 1, 0, 3, 2, 6, 0, 2, 0, 0, 1, 2, 0, 6, 4, 2, 1, 2, 0, 1, 2, 3, 0, 3, 43, 2, 6, 1, 2, 1, 1, 0, 4, 2, 6, 0, 2, 0, 0, 1, 2, 2, 11, 0, 6, 4, 2, 1, 2, 0, 1, 2, 3, 0, 2, 6, 0, 2, 0, 1, 1, 4, 0, 2, 1, 4, 0, 99, 3, 43, 2, 6, 1, 2, 1, 1, 0, 5, 2, 6, 0, 2, 0, 0, 1, 2, 2, 11, 0, 6, 4, 2, 1, 2, 0, 1, 2, 3, 1, 2, 6, 0, 2, 0, 1, 1, 4, 0, 2, 1, 4, 0, 9, 3, 48, 2, 6, 1, 2, 1, 1, 0, 6, 2, 6, 0, 2, 0, 0, 1, 2, 2, 11, 0, 6, 4, 2, 1, 2, 0, 1, 2, 3, 0, 2, 6, 0, 2, 0, 0, 1, 4, 0, 6, 4, 2, 1, 4, 0, 1, 2, 3, 2, 2, 6, 1, 2, 1, 1, 0, 7, 2, 6, 0, 2, 0, 0, 1, 2, 2, 11, 0, 6, 4, 2, 1, 2, 0, 1, 2, 3, 1, 2, 6, 0, 2, 0, 0, 1, 4, 0, 2, 1, 4, 0, 1])], [], [])
theorem oo_Gr_mayAlter_34 {kA : Nat → ClassId} : or_ok PRD kA GG o_Gr_mayAlter_34 := by
  refine or_mk fun A ta ws vs hD hth hl => ?_
  intro t0 r0 t1 k1 t2 k2 t3 k3 t4 k4 t5 k5 t6 k6 f0 f1 f2 f3
  have kz_0_0 := fdq_21 hD hth r0
  have kz_0_1 := fdq_30 hD hth r0
  have kz_0_2 := fdq_20 hD hth r0
  have nf0 : fc_1 PRD (20, [6, 1, 2, 0, 3], [50, 3, 0, 3002, 3000, 3001, 4, 6, 1, 2, 1, 0, 0, 1, 3, 36, 2, 6, 1, 2, 1, 1, 0, 0, 2, 6, 0, 2, 0, 0, 1, 2, 2, 11, 0, 6, 4, 2, 1, 2, 0, 1, 2, 3, 2, 0, 3, 2, 3, 0, 0, 23, 3, 81, 2, 6, 1, 2, 1, 1, 0, 1, 2, 6, 0, 2, 0, 0, 1, 2, 2, 11, 0, 6, 4, 2, 1, 2, 0, 1, 2, 3, 0, 2, 6, 0, 2, 0, 0, 1, 4, 2, 11, 0, 6, 4, 2, 1, 4, 0, 1, 2, 3, 0, 2, 7, 0, 3, 2, 3, 1, 0, 47, 3, 10, 0, 6, 4, 2, 1, 2, 0, 1, 1, 4, 0, 6, 4, 2, 1, 4, 0, 1, 1, 2, 3, 27, 2, 6, 1, 2, 1, 1, 0, 2, 2, 6, 0, 2, 0, 0, 1, 2, 0, 6, 4, 2, 1, 2, 0, 1, 2, 3, 1, 3, 27, 2, 6, 1, 2, 1, 1, 0, 3, 2, 6, 0, 2, 0, 0, 1, 2, 0, 6, 4, 2, 1, 2, 0, 1, 2, 3, 0, 3, 43, 2, 6, 1, 2, 1, 1, 0, 4, 2, 6, 0, 2, 0, 0, 1, 2, 2, 11, 0, 6, 4, 2, 1, 2, 0, 1, 2, 3, 0, 2, 6, 0, 2, 0, 1, 1, 4, 0, 2, 1, 4, 0, 99, 3, 43, 2, 6, 1, 2, 1, 1, 0, 5, 2, 6, 0, 2, 0, 0, 1, 2, 2, 11, 0, 6, 4, 2, 1, 2, 0, 1, 2, 3, 1, 2, 6, 0, 2, 0, 1, 1, 4, 0, 2, 1, 4, 0, 9, 3, 48, 2, 6, 1, 2, 1, 1, 0, 6, 2, 6, 0, 2, 0, 0, 1, 2, 2, 11, 0, 6, 4, 2, 1, 2, 0, 1, 2, 3, 0, 2, 6, 0, 2, 0, 0, 1, 4, 0, 6, 4, 2, 1, 4, 0, 1, 2, 3, 2, 2, 6, 1, 2, 1, 1, 0, 7, 2, 6, 0, 2, 0, 0, 1, 2, 2, 11, 0, 6, 4, 2, 1, 2, 0, 1, 2, 3, 1, 2, 6, 0, 2, 0, 0, 1, 4, 0, 2, 1, 4, 0, 1]) ws (vs) := ⟨nf_in hl rfl, sgq_1778 (vc_Gr_mayAlter_34_0 (v_iv (n_v vs 1)) (v_iv (n_v vs 2)) (v_iv (n_v vs 3)) (v_iv (n_v vs 6)) (w_fi ws (n_v vs 0) 2) (w_fi ws (n_v vs 0) 0) (w_fi ws (n_v vs 0) 1) k1 k2 k3 k6 kz_0_0 kz_0_1 kz_0_2)⟩
  refine ⟨(fun _ h => (by cases h)), [], trivial, ?_, (fun _ h => (by cases h))⟩
  rw [List.append_nil]
  exact List.forall_mem_cons.mpr ⟨⟨show (20 : Nat) < 100 from by decide, nf0⟩, (fun _ h => (by cases h))⟩
set_option maxHeartbeats 4000000 in
theorem vc_Gr_mayAlter_35_0 (x1 : Int) (x2 : Int) (x3 : Int) (x6 : Int) (groups_0 : Int) (nodes_0 : Int) (edges_0 : Int) (k1 : 6 ≤ x1 ∧ x1 ≤ 6) (k2 : 0 ≤ x2 ∧ x2 ≤ 23) (k3 : 0 ≤ x3 ∧ x3 ≤ 2147483647) (k6 : 0 ≤ x6 ∧ x6 ≤ 0) (kz_0_0 : 0 ≤ nodes_0 ∧ nodes_0 ≤ 24) (kz_0_1 : 0 ≤ edges_0 ∧ edges_0 ≤ 48) (kz_0_2 : 0 ≤ groups_0 ∧ groups_0 ≤ 8) : (x6 = 1) → (((x1 = 0) ∧ ((0 ≤ x2) ∧ (((x2 + 1) ≤ groups_0) ∧ (nodes_0 ≤ 23)))) ∨ (((x1 = 1) ∧ ((0 ≤ x2) ∧ (((x2 + 1) ≤ nodes_0) ∧ ((0 ≤ x3) ∧ (((x3 + 1) ≤ nodes_0) ∧ ((edges_0 ≤ 47) ∧ (((x2 + 1) ≤ x3) ∨ ((x3 + 1) ≤ x2)))))))) ∨ (((x1 = 2) ∧ ((0 ≤ x2) ∧ ((x2 + 1) ≤ edges_0))) ∨ (((x1 = 3) ∧ ((0 ≤ x2) ∧ ((x2 + 1) ≤ nodes_0))) ∨ (((x1 = 4) ∧ ((0 ≤ x2) ∧ (((x2 + 1) ≤ nodes_0) ∧ ((1 ≤ x3) ∧ (x3 ≤ 99))))) ∨ (((x1 = 5) ∧ ((0 ≤ x2) ∧ (((x2 + 1) ≤ edges_0) ∧ ((1 ≤ x3) ∧ (x3 ≤ 9))))) ∨ (((x1 = 6) ∧ ((0 ≤ x2) ∧ (((x2 + 1) ≤ nodes_0) ∧ ((0 ≤ x3) ∧ ((x3 + 1) ≤ groups_0))))) ∨ ((x1 = 7) ∧ ((0 ≤ x2) ∧ (((x2 + 1) ≤ edges_0) ∧ ((0 ≤ x3) ∧ (x3 ≤ 1)))))))))))) := by
  first
    | (intro h; exfalso; omega)
    | (intro h; left; omega)
    | (intro h; right; left; omega)
    | (intro h; right; right; left; omega)
    | (intro h; right; right; right; left; omega)
    | (intro h; right; right; right; right; left; omega)
    | (intro h; right; right; right; right; right; left; omega)
    | (intro h; right; right; right; right; right; right; left; omega)
    | (intro h; right; right; right; right; right; right; right; omega)
    | omega
  
def o_Gr_mayAlter_35 : or_T := (207, 7, [(0, (2, 0, 0, [3])), (1, (0, 6, 6, [])), (2, (0, 0, 23, [])), (3, (0, 0, 2147483647, [])), (4, (0, 1, 1, [])), (5, (0, 0, 0, [])), (6, (0, 0, 0, []))], [(8, [5], [0]), (20, [5, 3, 0], [50, 1, 0, 2002, 4, 6, 1, 2, 1, 0, 0, 1, 2, 6, 0, 2, 0, 0, 1, 1, 0, 6, 4, 2, 1, 1, 0, 1, 2, 2, 2]), (8, [4], [1]), (20, [4, 2, 0], [50, 1, 0, 2000, 4, 6, 1, 2, 1, 0, 0, 1, 2, 6, 0, 2, 0, 0, 1, 1, 0, 6, 4, 2, 1, 1, 0, 1, 2, 2, 0])], [], [], [(20, [6, 1, 2, 0, 3], [50, 3, 0, 3002, 3000, 3001, 4, 6, 1, 2, 1, 0, 0, 1, 3, 36, 2, 6, 1, 2, 1, 1, 0, 0, 2, 6, 0, 2, 0, 0, 1, 2, 2, 11, 0, 6, 4, 2, 1, 2, 0, 1, 2, 3, 2, 0, 3, 2, 3, 0, 0, 23, 3, 81, 2, 6, 1, 2, 1, 1, 0, 1, 2, 6, 0, 2, 0, 0, 1, 2, 2, 11, 0, 6, 4, 2, 1, 2, 0, 1, 2, 3, 0, 2, 6, 0, 2, 0, 0, 1, 4, 2, 11, 0, 6, 4, 2, 1, 4, 0, 1, 2, 3, 0, 2, 7, 0, 3, 2, 3, 1, 0, 47, 3, 10, 0, 6, 4, 2, 1, 2, 0, 1, 1, 4, 0, 6, 4, 2, 1, 4, 0, 1, 1, 2, 3, 27, 2, 6, 1, 2, 1, 1, 0, 2, 2, 6, 0, 2, 0, 0, 1, 2, 0, 6, 4, 2, 1, 2, 0, 1, 2, 3, 1, 3, 27, 2, 6, 1, 2, 1, 1, 0, 3, 2, 6, 0, 2, 0, 0, 1, 2, 0, 6, 4, 2, 1, 2, 0, 1, 2, 3, 0, 3, 43, 2, 6, 1, 2, 1, 1, 0, 4, 2, 6, 0, 2, 0, 0, 1, 2, 2, 11, 0, 6, 4, 2, 1, 2, 0, 1, 2, 3, 0, 2, 6, 0, 2, 0, 1, 1, 4, 0, 2, 1, 4, 0, 99, 3, 43, 2, 6, 1, 2, 1, 1, 0, 5, 2, 6, 0, 2, 0, 0, 1, 2, 2, 11, 0, 6, 4, 2, 1, 2, 0, 1, 2, 3, 1, 2, 6, 0, 2, 0, 1, 1, 4, 0, 2, 1, 4, 0, 9, 3, 48, 2, 6, 1, 2, 1, 1, 0, 6, 2, 6, 0, 2, 0, 0, 1, 2, 2, 11, 0, 6, 4, 2, 1, 2, 0, 1, 2, 3, 0, 2, 6, 0, 2, 0, 0, 1, 4, 0, 6, 4, 2, 1, 4, 0, 1, 2, 3, 2, 2, 6, 1, 2, 1, 1, 0, 7, 2, 6, 0, 2, 0, 0, 1, 2, 2, 11, 0, 6, 4, 2, 1, 2, 0, 1, 2, 3, 1, 2, 6, 0, 2, 0, 0, 1, 4, 0, 2, 1, 4, 0, 1])], [], [])
theorem oo_Gr_mayAlter_35 {kA : Nat → ClassId} : or_ok PRD kA GG o_Gr_mayAlter_35 := by
  refine or_mk fun A ta ws vs hD hth hl => ?_
  intro t0 r0 t1 k1 t2 k2 t3 k3 t4 k4 t5 k5 t6 k6 f0 f1 f2 f3
  have kz_0_0 := fdq_21 hD hth r0
  have kz_0_1 := fdq_30 hD hth r0
  have kz_0_2 := fdq_20 hD hth r0
  have nf0 : fc_1 PRD (20, [6, 1, 2, 0, 3], [50, 3, 0, 3002, 3000, 3001, 4, 6, 1, 2, 1, 0, 0, 1, 3, 36, 2, 6, 1, 2, 1, 1, 0, 0, 2, 6, 0, 2, 0, 0, 1, 2, 2, 11, 0, 6, 4, 2, 1, 2, 0, 1, 2, 3, 2, 0, 3, 2, 3, 0, 0, 23, 3, 81, 2, 6, 1, 2, 1, 1, 0, 1, 2, 6, 0, 2, 0, 0, 1, 2, 2, 11, 0, 6, 4, 2, 1, 2, 0, 1, 2, 3, 0, 2, 6, 0, 2, 0, 0, 1, 4, 2, 11, 0, 6, 4, 2, 1, 4, 0, 1, 2, 3, 0, 2, 7, 0, 3, 2, 3, 1, 0, 47, 3, 10, 0, 6, 4, 2, 1, 2, 0, 1, 1, 4, 0, 6, 4, 2, 1, 4, 0, 1, 1, 2, 3, 27, 2, 6, 1, 2, 1, 1, 0, 2, 2, 6, 0, 2, 0, 0, 1, 2, 0, 6, 4, 2, 1, 2, 0, 1, 2, 3, 1, 3, 27, 2, 6, 1, 2, 1, 1, 0, 3, 2, 6, 0, 2, 0, 0, 1, 2, 0, 6, 4, 2, 1, 2, 0, 1, 2, 3, 0, 3, 43, 2, 6, 1, 2, 1, 1, 0, 4, 2, 6, 0, 2, 0, 0, 1, 2, 2, 11, 0, 6, 4, 2, 1, 2, 0, 1, 2, 3, 0, 2, 6, 0, 2, 0, 1, 1, 4, 0, 2, 1, 4, 0, 99, 3, 43, 2, 6, 1, 2, 1, 1, 0, 5, 2, 6, 0, 2, 0, 0, 1, 2, 2, 11, 0, 6, 4, 2, 1, 2, 0, 1, 2, 3, 1, 2, 6, 0, 2, 0, 1, 1, 4, 0, 2, 1, 4, 0, 9, 3, 48, 2, 6, 1, 2, 1, 1, 0, 6, 2, 6, 0, 2, 0, 0, 1, 2, 2, 11, 0, 6, 4, 2, 1, 2, 0, 1, 2, 3, 0, 2, 6, 0, 2, 0, 0, 1, 4, 0, 6, 4, 2, 1, 4, 0, 1, 2, 3, 2, 2, 6, 1, 2, 1, 1, 0, 7, 2, 6, 0, 2, 0, 0, 1, 2, 2, 11, 0, 6, 4, 2, 1, 2, 0, 1, 2, 3, 1, 2, 6, 0, 2, 0, 0, 1, 4, 0, 2, 1, 4, 0, 1]) ws (vs) := ⟨nf_in hl rfl, sgq_1778 (vc_Gr_mayAlter_35_0 (v_iv (n_v vs 1)) (v_iv (n_v vs 2)) (v_iv (n_v vs 3)) (v_iv (n_v vs 6)) (w_fi ws (n_v vs 0) 2) (w_fi ws (n_v vs 0) 0) (w_fi ws (n_v vs 0) 1) k1 k2 k3 k6 kz_0_0 kz_0_1 kz_0_2)⟩
  refine ⟨(fun _ h => (by cases h)), [], trivial, ?_, (fun _ h => (by cases h))⟩
  rw [List.append_nil]
  exact List.forall_mem_cons.mpr ⟨⟨show (20 : Nat) < 100 from by decide, nf0⟩, (fun _ h => (by cases h))⟩
set_option maxHeartbeats 4000000 in
theorem vc_Gr_mayAlter_36_0 (x1 : Int) (x2 : Int) (x3 : Int) (x4 : Int) (x5 : Int) (x6 : Int) (groups_0 : Int) (nodes_0 : Int) (edges_0 : Int) (k1 : 6 ≤ x1 ∧ x1 ≤ 6) (k2 : 0 ≤ x2 ∧ x2 ≤ 23) (k3 : 0 ≤ x3 ∧ x3 ≤ 7) (k4 : 1 ≤ x4 ∧ x4 ≤ 1) (k5 : 1 ≤ x5 ∧ x5 ≤ 1) (k6 : 1 ≤ x6 ∧ x6 ≤ 1) (f1 : (x5 = 1) → ((0 ≤ x3) ∧ ((x3 + 1) ≤ groups_0))) (f2 : x4 ≠ 0) (f3 : (x4 = 1) → ((0 ≤ x2) ∧ ((x2 + 1) ≤ nodes_0))) (kz_0_0 : 0 ≤ nodes_0 ∧ nodes_0 ≤ 24) (kz_0_1 : 0 ≤ edges_0 ∧ edges_0 ≤ 48) (kz_0_2 : 0 ≤ groups_0 ∧ groups_0 ≤ 8) : (x6 = 1) → (((x1 = 0) ∧ ((0 ≤ x2) ∧ (((x2 + 1) ≤ groups_0) ∧ (nodes_0 ≤ 23)))) ∨ (((x1 = 1) ∧ ((0 ≤ x2) ∧ (((x2 + 1) ≤ nodes_0) ∧ ((0 ≤ x3) ∧ (((x3 + 1) ≤ nodes_0) ∧ ((edges_0 ≤ 47) ∧ (((x2 + 1) ≤ x3) ∨ ((x3 + 1) ≤ x2)))))))) ∨ (((x1 = 2) ∧ ((0 ≤ x2) ∧ ((x2 + 1) ≤ edges_0))) ∨ (((x1 = 3) ∧ ((0 ≤ x2) ∧ ((x2 + 1) ≤ nodes_0))) ∨ (((x1 = 4) ∧ ((0 ≤ x2) ∧ (((x2 + 1) ≤ nodes_0) ∧ ((1 ≤ x3) ∧ (x3 ≤ 99))))) ∨ (((x1 = 5) ∧ ((0 ≤ x2) ∧ (((x2 + 1) ≤ edges_0) ∧ ((1 ≤ x3) ∧ (x3 ≤ 9))))) ∨ (((x1 = 6) ∧ ((0 ≤ x2) ∧ (((x2 + 1) ≤ nodes_0) ∧ ((0 ≤ x3) ∧ ((x3 + 1) ≤ groups_0))))) ∨ ((x1 = 7) ∧ ((0 ≤ x2) ∧ (((x2 + 1) ≤ edges_0) ∧ ((0 ≤ x3) ∧ (x3 ≤ 1)))))))))))) := by
  first
    | (intro h; exfalso; omega)
    | (intro h; left; omega)
    | (intro h; right; left; omega)
    | (intro h; right; right; left; omega)
    | (intro h; right; right; right; left; omega)
    | (intro h; right; right; right; right; left; omega)
    | (intro h; right; right; right; right; right; left; omega)
    | (intro h; right; right; right; right; right; right; left; omega)
    | (intro h; right; right; right; right; right; right; right; omega)
    | omega
  
def o_Gr_mayAlter_36 : or_T := (207, 7, [(0, (2, 0, 0, [3])), (1, (0, 6, 6, [])), (2, (0, 0, 23, [])), (3, (0, 0, 7, [])), (4, (0, 1, 1, [])), (5, (0, 1, 1, [])), (6, (0, 1, 1, []))], [(8, [5], [1]), (20, [5, 3, 0], [50, 1, 0, 2002, 4, 6, 1, 2, 1, 0, 0, 1, 2, 6, 0, 2, 0, 0, 1, 1, 0, 6, 4, 2, 1, 1, 0, 1, 2, 2, 2]), (8, [4], [1]), (20, [4, 2, 0], [50, 1, 0, 2000, 4, 6, 1, 2, 1, 0, 0, 1, 2, 6, 0, 2, 0, 0, 1, 1, 0, 6, 4, 2, 1, 1, 0, 1, 2, 2, 0])], [], [], [(20, [6, 1, 2, 0, 3], [50, 3, 0, 3002, 3000, 3001, 4, 6, 1, 2, 1, 0, 0, 1, 3, 36, 2, 6, 1, 2, 1, 1, 0, 0, 2, 6, 0, 2, 0, 0, 1, 2, 2, 11, 0, 6, 4, 2, 1, 2, 0, 1, 2, 3, 2, 0, 3, 2, 3, 0, 0, 23, 3, 81, 2, 6, 1, 2, 1, 1, 0, 1, 2, 6, 0, 2, 0, 0, 1, 2, 2, 11, 0, 6, 4, 2, 1, 2, 0, 1, 2, 3, 0, 2, 6, 0, 2, 0, 0, 1, 4, 2, 11, 0, 6, 4, 2, 1, 4, 0, 1, 2, 3, 0, 2, 7, 0, 3, 2, 3, 1, 0, 47, 3, 10, 0, 6, 4, 2, 1, 2, 0, 1, 1, 4, 0, 6, 4, 2, 1, 4, 0, 1, 1, 2, 3, 27, 2, 6, 1, 2, 1, 1, 0, 2, 2, 6, 0, 2, 0, 0, 1, 2, 0, 6, 4, 2, 1, 2, 0, 1, 2, 3, 1, 3, 27, 2, 6, 1, 2, 1, 1, 0, 3, 2, 6, 0, 2, 0, 0, 1, 2, 0, 6, 4, 2, 1, 2, 0, 1, 2, 3, 0, 3, 43, 2, 6, 1, 2, 1, 1, 0, 4, 2, 6, 0, 2, 0, 0, 1, 2, 2, 11, 0, 6, 4, 2, 1, 2, 0, 1, 2, 3, 0, 2, 6, 0, 2, 0, 1, 1, 4, 0, 2, 1, 4, 0, 99, 3, 43, 2, 6, 1, 2, 1, 1, 0, 5, 2, 6, 0, 2, 0, 0, 1, 2, 2, 11, 0, 6, 4, 2, 1, 2, 0, 1, 2, 3, 1, 2, 6, 0, 2, 0, 1, 1, 4, 0, 2, 1, 4, 0, 9, 3, 48, 2, 6, 1, 2, 1, 1, 0, 6, 2, 6, 0, 2, 0, 0, 1, 2, 2, 11, 0, 6, 4, 2, 1, 2, 0, 1, 2, 3, 0, 2, 6, 0, 2, 0, 0, 1, 4, 0, 6, 4, 2, 1, 4, 0, 1, 2, 3, 2, 2, 6, 1, 2, 1, 1, 0, 7, 2, 6, 0, 2, 0, 0, 1, 2, 2, 11, 0, 6, 4, 2, 1, 2, 0, 1, 2, 3, 1, 2, 6, 0, 2, 0, 0, 1, 4, 0, 2, 1, 4, 0, 1])], [], [])
theorem oo_Gr_mayAlter_36 {kA : Nat → ClassId} : or_ok PRD kA GG o_Gr_mayAlter_36 := by
  refine or_mk fun A ta ws vs hD hth hl => ?_
  intro t0 r0 t1 k1 t2 k2 t3 k3 t4 k4 t5 k5 t6 k6 f0 f1 f2 f3
  have kz_0_0 := fdq_21 hD hth r0
  have kz_0_1 := fdq_30 hD hth r0
  have kz_0_2 := fdq_20 hD hth r0
  have nf0 : fc_1 PRD (20, [6, 1, 2, 0, 3], [50, 3, 0, 3002, 3000, 3001, 4, 6, 1, 2, 1, 0, 0, 1, 3, 36, 2, 6, 1, 2, 1, 1, 0, 0, 2, 6, 0, 2, 0, 0, 1, 2, 2, 11, 0, 6, 4, 2, 1, 2, 0, 1, 2, 3, 2, 0, 3, 2, 3, 0, 0, 23, 3, 81, 2, 6, 1, 2, 1, 1, 0, 1, 2, 6, 0, 2, 0, 0, 1, 2, 2, 11, 0, 6, 4, 2, 1, 2, 0, 1, 2, 3, 0, 2, 6, 0, 2, 0, 0, 1, 4, 2, 11, 0, 6, 4, 2, 1, 4, 0, 1, 2, 3, 0, 2, 7, 0, 3, 2, 3, 1, 0, 47, 3, 10, 0, 6, 4, 2, 1, 2, 0, 1, 1, 4, 0, 6, 4, 2, 1, 4, 0, 1, 1, 2, 3, 27, 2, 6, 1, 2, 1, 1, 0, 2, 2, 6, 0, 2, 0, 0, 1, 2, 0, 6, 4, 2, 1, 2, 0, 1, 2, 3, 1, 3, 27, 2, 6, 1, 2, 1, 1, 0, 3, 2, 6, 0, 2, 0, 0, 1, 2, 0, 6, 4, 2, 1, 2, 0, 1, 2, 3, 0, 3, 43, 2, 6, 1, 2, 1, 1, 0, 4, 2, 6, 0, 2, 0, 0, 1, 2, 2, 11, 0, 6, 4, 2, 1, 2, 0, 1, 2, 3, 0, 2, 6, 0, 2, 0, 1, 1, 4, 0, 2, 1, 4, 0, 99, 3, 43, 2, 6, 1, 2, 1, 1, 0, 5, 2, 6, 0, 2, 0, 0, 1, 2, 2, 11, 0, 6, 4, 2, 1, 2, 0, 1, 2, 3, 1, 2, 6, 0, 2, 0, 1, 1, 4, 0, 2, 1, 4, 0, 9, 3, 48, 2, 6, 1, 2, 1, 1, 0, 6, 2, 6, 0, 2, 0, 0, 1, 2, 2, 11, 0, 6, 4, 2, 1, 2, 0, 1, 2, 3, 0, 2, 6, 0, 2, 0, 0, 1, 4, 0, 6, 4, 2, 1, 4, 0, 1, 2, 3, 2, 2, 6, 1, 2, 1, 1, 0, 7, 2, 6, 0, 2, 0, 0, 1, 2, 2, 11, 0, 6, 4, 2, 1, 2, 0, 1, 2, 3, 1, 2, 6, 0, 2, 0, 0, 1, 4, 0, 2, 1, 4, 0, 1]) ws (vs) := ⟨nf_in hl rfl, sgq_1778 (vc_Gr_mayAlter_36_0 (v_iv (n_v vs 1)) (v_iv (n_v vs 2)) (v_iv (n_v vs 3)) (v_iv (n_v vs 4)) (v_iv (n_v vs 5)) (v_iv (n_v vs 6)) (w_fi ws (n_v vs 0) 2) (w_fi ws (n_v vs 0) 0) (w_fi ws (n_v vs 0) 1) k1 k2 k3 k4 k5 k6 (shm_380 f1) (shm_142 f2) (shm_384 f3) kz_0_0 kz_0_1 kz_0_2)⟩
  refine ⟨(fun _ h => (by cases h)), [], trivial, ?_, (fun _ h => (by cases h))⟩
  rw [List.append_nil]
  exact List.forall_mem_cons.mpr ⟨⟨show (20 : Nat) < 100 from by decide, nf0⟩, (fun _ h => (by cases h))⟩
set_option maxHeartbeats 4000000 in
theorem vc_Gr_mayAlter_37_0 (x1 : Int) (x2 : Int) (x3 : Int) (x5 : Int) (edges_0 : Int) (nodes_0 : Int) (groups_0 : Int) (k1 : 7 ≤ x1 ∧ x1 ≤ 7) (k2 : (-2147483648) ≤ x2 ∧ x2 ≤ (-1)) (k3 : (-2147483648) ≤ x3 ∧ x3 ≤ 2147483647) (k5 : 0 ≤ x5 ∧ x5 ≤ 0) (kz_0_0 : 0 ≤ nodes_0 ∧ nodes_0 ≤ 24) (kz_0_1 : 0 ≤ edges_0 ∧ edges_0 ≤ 48) (kz_0_2 : 0 ≤ groups_0 ∧ groups_0 ≤ 8) : (x5 = 1) → (((x1 = 0) ∧ ((0 ≤ x2) ∧ (((x2 + 1) ≤ groups_0) ∧ (nodes_0 ≤ 23)))) ∨ (((x1 = 1) ∧ ((0 ≤ x2) ∧ (((x2 + 1) ≤ nodes_0) ∧ ((0 ≤ x3) ∧ (((x3 + 1) ≤ nodes_0) ∧ ((edges_0 ≤ 47) ∧ (((x2 + 1) ≤ x3) ∨ ((x3 + 1) ≤ x2)))))))) ∨ (((x1 = 2) ∧ ((0 ≤ x2) ∧ ((x2 + 1) ≤ edges_0))) ∨ (((x1 = 3) ∧ ((0 ≤ x2) ∧ ((x2 + 1) ≤ nodes_0))) ∨ (((x1 = 4) ∧ ((0 ≤ x2) ∧ (((x2 + 1) ≤ nodes_0) ∧ ((1 ≤ x3) ∧ (x3 ≤ 99))))) ∨ (((x1 = 5) ∧ ((0 ≤ x2) ∧ (((x2 + 1) ≤ edges_0) ∧ ((1 ≤ x3) ∧ (x3 ≤ 9))))) ∨ (((x1 = 6) ∧ ((0 ≤ x2) ∧ (((x2 + 1) ≤ nodes_0) ∧ ((0 ≤ x3) ∧ ((x3 + 1) ≤ groups_0))))) ∨ ((x1 = 7) ∧ ((0 ≤ x2) ∧ (((x2 + 1) ≤ edges_0) ∧ ((0 ≤ x3) ∧ (x3 ≤ 1)))))))))))) := by
  first
    | (intro h; exfalso; omega)
    | (intro h; left; omega)
    | (intro h; right; left; omega)
    | (intro h; right; right; left; omega)
    | (intro h; right; right; right; left; omega)
    | (intro h; right; right; right; right; left; omega)
    | (intro h; right; right; right; right; right; left; omega)
    | (intro h; right; right; right; right; right; right; left; omega)
    | (intro h; right; right; right; right; right; right; right; omega)
    | omega
  
def o_Gr_mayAlter_37 : or_T := (230, 6, [(0, (2, 0, 0, [3])), (1, (0, 7, 7, [])), (2, (0, -2147483648, -1, [])), (3, (0, -2147483648, 2147483647, [])), (4, (0, 0, 0, [])), (5, (0, 0, 0, []))], [(8, [4], [0]), (20, [4, 2, 0], [50, 1, 0, 2001, 4, 6, 1, 2, 1, 0, 0, 1, 2, 6, 0, 2, 0, 0, 1, 1, 0, 6, 4, 2, 1, 1, 0, 1, 2, 2, 1]), (20, [4, 2, 0], [50, 1, 0, 2001, 4, 6, 1, 2, 1, 0, 0, 0, 3, 6, 0, 2, 1, 1, 0, -1, 0, 3, 2, 2, 1, 1, 1])], [], [], [(20, [5, 1, 2, 0, 3], [50, 3, 0, 3002, 3000, 3001, 4, 6, 1, 2, 1, 0, 0, 1, 3, 36, 2, 6, 1, 2, 1, 1, 0, 0, 2, 6, 0, 2, 0, 0, 1, 2, 2, 11, 0, 6, 4, 2, 1, 2, 0, 1, 2, 3, 2, 0, 3, 2, 3, 0, 0, 23, 3, 81, 2, 6, 1, 2, 1, 1, 0, 1, 2, 6, 0, 2, 0, 0, 1, 2, 2, 11, 0, 6, 4, 2, 1, 2, 0, 1, 2, 3, 0, 2, 6, 0, 2, 0, 0, 1, 4, 2, 11, 0, 6, 4, 2, 1, 4, 0, 1, 2, 3, 0, 2, 7, 0, 3, 2, 3, 1, 0, 47, 3, 10, 0, 6, 4, 2, 1, 2, 0, 1, 1, 4, 0, 6, 4, 2, 1, 4, 0, 1, 1, 2, 3, 27, 2, 6, 1, 2, 1, 1, 0, 2, 2, 6, 0, 2, 0, 0, 1, 2, 0, 6, 4, 2, 1, 2, 0, 1, 2, 3, 1, 3, 27, 2, 6, 1, 2, 1, 1, 0, 3, 2, 6, 0, 2, 0, 0, 1, 2, 0, 6, 4, 2, 1, 2, 0, 1, 2, 3, 0, 3, 43, 2, 6, 1, 2, 1, 1, 0, 4, 2, 6, 0, 2, 0, 0, 1, 2, 2, 11, 0, 6, 4, 2, 1, 2, 0, 1, 2, 3, 0, 2, 6, 0, 2, 0, 1, 1, 4, 0, 2, 1, 4, 0, 99, 3, 43, 2, 6, 1, 2, 1, 1, 0, 5, 2, 6, 0, 2, 0, 0, 1, 2, 2, 11, 0, 6, 4, 2, 1, 2, 0, 1, 2, 3, 1, 2, 6, 0, 2, 0, 1, 1, 4, 0, 2, 1, 4, 0, 9, 3, 48, 2, 6, 1, 2, 1, 1, 0, 6, 2, 6, 0, 2, 0, 0, 1, 2, 2, 11, 0, 6, 4, 2, 1, 2, 0, 1, 2, 3, 0, 2, 6, 0, 2, 0, 0, 1, 4, 0, 6, 4, 2, 1, 4, 0, 1, 2, 3, 2, 2, 6, 1, 2, 1, 1, 0, 7, 2, 6, 0, 2, 0, 0, 1, 2, 2, 11, 0, 6, 4, 2, 1, 2, 0, 1, 2, 3, 1, 2, 6, 0, 2, 0, 0, 1, 4, 0, 2, 1, 4, 0, 1])], [], [])
theorem oo_Gr_mayAlter_37 {kA : Nat → ClassId} : or_ok PRD kA GG o_Gr_mayAlter_37 := by
  refine or_mk fun A ta ws vs hD hth hl => ?_
  intro t0 r0 t1 k1 t2 k2 t3 k3 t4 k4 t5 k5 f0 f1 f2
  have kz_0_0 := fdq_21 hD hth r0
  have kz_0_1 := fdq_30 hD hth r0
  have kz_0_2 := fdq_20 hD hth r0
  have nf0 : fc_1 PRD (20, [5, 1, 2, 0, 3], [50, 3, 0, 3002, 3000, 3001, 4, 6, 1, 2, 1, 0, 0, 1, 3, 36, 2, 6, 1, 2, 1, 1, 0, 0, 2, 6, 0, 2, 0, 0, 1, 2, 2, 11, 0, 6, 4, 2, 1, 2, 0, 1, 2, 3, 2, 0, 3, 2, 3, 0, 0, 23, 3, 81, 2, 6, 1, 2, 1, 1, 0, 1, 2, 6, 0, 2, 0, 0, 1, 2, 2, 11, 0, 6, 4, 2, 1, 2, 0, 1, 2, 3, 0, 2, 6, 0, 2, 0, 0, 1, 4, 2, 11, 0, 6, 4, 2, 1, 4, 0, 1, 2, 3, 0, 2, 7, 0, 3, 2, 3, 1, 0, 47, 3, 10, 0, 6, 4, 2, 1, 2, 0, 1, 1, 4, 0, 6, 4, 2, 1, 4, 0, 1, 1, 2, 3, 27, 2, 6, 1, 2, 1, 1, 0, 2, 2, 6, 0, 2, 0, 0, 1, 2, 0, 6, 4, 2, 1, 2, 0, 1, 2, 3, 1, 3, 27, 2, 6, 1, 2, 1, 1, 0, 3, 2, 6, 0, 2, 0, 0, 1, 2, 0, 6, 4, 2, 1, 2, 0, 1, 2, 3, 0, 3, 43, 2, 6, 1, 2, 1, 1, 0, 4, 2, 6, 0, 2, 0, 0, 1, 2, 2, 11, 0, 6, 4, 2, 1, 2, 0, 1, 2, 3, 0, 2, 6, 0, 2, 0, 1, 1, 4, 0, 2, 1, 4, 0, 99, 3, 43, 2, 6, 1, 2, 1, 1, 0, 5, 2, 6, 0, 2, 0, 0, 1, 2, 2, 11, 0, 6, 4, 2, 1, 2, 0, 1, 2, 3, 1, 2, 6, 0, 2, 0, 1, 1, 4, 0, 2, 1, 4, 0, 9, 3, 48, 2, 6, 1, 2, 1, 1, 0, 6, 2, 6, 0, 2, 0, 0, 1, 2, 2, 11, 0, 6, 4, 2, 1, 2, 0, 1, 2, 3, 0, 2, 6, 0, 2, 0, 0, 1, 4, 0, 6, 4, 2, 1, 4, 0, 1, 2, 3, 2, 2, 6, 1, 2, 1, 1, 0, 7, 2, 6, 0, 2, 0, 0, 1, 2, 2, 11, 0, 6, 4, 2, 1, 2, 0, 1, 2, 3, 1, 2, 6, 0, 2, 0, 0, 1, 4, 0, 2, 1, 4, 0, 1]) ws (vs) := ⟨nf_in hl rfl, sgq_1778 (vc_Gr_mayAlter_37_0 (v_iv (n_v vs 1)) (v_iv (n_v vs 2)) (v_iv (n_v vs 3)) (v_iv (n_v vs 5)) (w_fi ws (n_v vs 0) 1) (w_fi ws (n_v vs 0) 0) (w_fi ws (n_v vs 0) 2) k1 k2 k3 k5 kz_0_0 kz_0_1 kz_0_2)⟩
  refine ⟨(fun _ h => (by cases h)), [], trivial, ?_, (fun _ h => (by cases h))⟩
  rw [List.append_nil]
  exact List.forall_mem_cons.mpr ⟨⟨show (20 : Nat) < 100 from by decide, nf0⟩, (fun _ h => (by cases h))⟩
set_option maxHeartbeats 4000000 in
theorem vc_Gr_mayAlter_38_0 (x1 : Int) (x2 : Int) (x3 : Int) (x5 : Int) (edges_0 : Int) (nodes_0 : Int) (groups_0 : Int) (k1 : 7 ≤ x1 ∧ x1 ≤ 7) (k2 : 0 ≤ x2 ∧ x2 ≤ 2147483647) (k3 : (-2147483648) ≤ x3 ∧ x3 ≤ 2147483647) (k5 : 0 ≤ x5 ∧ x5 ≤ 0) (kz_0_0 : 0 ≤ nodes_0 ∧ nodes_0 ≤ 24) (kz_0_1 : 0 ≤ edges_0 ∧ edges_0 ≤ 48) (kz_0_2 : 0 ≤ groups_0 ∧ groups_0 ≤ 8) : (x5 = 1) → (((x1 = 0) ∧ ((0 ≤ x2) ∧ (((x2 + 1) ≤ groups_0) ∧ (nodes_0 ≤ 23)))) ∨ (((x1 = 1) ∧ ((0 ≤ x2) ∧ (((x2 + 1) ≤ nodes_0) ∧ ((0 ≤ x3) ∧ (((x3 + 1) ≤ nodes_0) ∧ ((edges_0 ≤ 47) ∧ (((x2 + 1) ≤ x3) ∨ ((x3 + 1) ≤ x2)))))))) ∨ (((x1 = 2) ∧ ((0 ≤ x2) ∧ ((x2 + 1) ≤ edges_0))) ∨ (((x1 = 3) ∧ ((0 ≤ x2) ∧ ((x2 + 1) ≤ nodes_0))) ∨ (((x1 = 4) ∧ ((0 ≤ x2) ∧ (((x2 + 1) ≤ nodes_0) ∧ ((1 ≤ x3) ∧ (x3 ≤ 99))))) ∨ (((x1 = 5) ∧ ((0 ≤ x2) ∧ (((x2 + 1) ≤ edges_0) ∧ ((1 ≤ x3) ∧ (x3 ≤ 9))))) ∨ (((x1 = 6) ∧ ((0 ≤ x2) ∧ (((x2 + 1) ≤ nodes_0) ∧ ((0 ≤ x3) ∧ ((x3 + 1) ≤ groups_0))))) ∨ ((x1 = 7) ∧ ((0 ≤ x2) ∧ (((x2 + 1) ≤ edges_0) ∧ ((0 ≤ x3) ∧ (x3 ≤ 1)))))))))))) := by
  first
    | (intro h; exfalso; omega)
    | (intro h; left; omega)
    | (intro h; right; left; omega)
    | (intro h; right; right; left; omega)
    | (intro h; right; right; right; left; omega)
    | (intro h; right; right; right; right; left; omega)
    | (intro h; right; right; right; right; right; left; omega)
    | (intro h; right; right; right; right; right; right; left; omega)
    | (intro h; right; right; right; right; right; right; right; omega)
    | omega
  
def o_Gr_mayAlter_38 : or_T := (230, 6, [(0, (2, 0, 0, [3])), (1, (0, 7, 7, [])), (2, (0, 0, 2147483647, [])), (3, (0, -2147483648, 2147483647, [])), (4, (0, 0, 0, [])), (5, (0, 0, 0, []))], [(8, [4], [0]), (20, [4, 2, 0], [50, 1, 0, 2001, 4, 6, 1, 2, 1, 0, 0, 1, 2, 6, 0, 2, 0, 0, 1, 1, 0, 6, 4, 2, 1, 1, 0, 1, 2, 2, 1]), (20, [4, 2, 0], [50, 1, 0, 2001, 4, 6, 1, 2, 1, 0, 0, 0, 3, 6, 0, 2, 1, 1, 0, -1, 0, 3, 2, 2, 1, 1, 1])], [], [], [(20, [5, 1, 2, 0, 3], [50, 3, 0, 3002, 3000, 3001, 4, 6, 1, 2, 1, 0, 0, 1, 3, 36, 2, 6, 1, 2, 1, 1, 0, 0, 2, 6, 0, 2, 0, 0, 1, 2, 2, 11, 0, 6, 4, 2, 1, 2, 0, 1, 2, 3, 2, 0, 3, 2, 3, 0, 0, 23, 3, 81, 2, 6, 1, 2, 1, 1, 0, 1, 2, 6, 0, 2, 0, 0, 1, 2, 2, 11, 0, 6, 4, 2, 1, 2, 0, 1, 2, 3, 0, 2, 6, 0, 2, 0, 0, 1, 4, 2, 11, 0, 6, 4, 2, 1, 4, 0, 1, 2, 3, 0, 2, 7, 0, 3, 2, 3, 1, 0, 47, 3, 10, 0, 6, 4, 2, 1, 2, 0, 1, 1, 4, 0, 6, 4, 2, 1, 4, 0, 1, 1, 2, 3, 27, 2, 6, 1, 2, 1, 1, 0, 2, 2, 6, 0, 2, 0, 0, 1, 2, 0, 6, 4, 2, 1, 2, 0, 1, 2, 3, 1, 3, 27, 2, 6, 1, 2, 1, 1, 0, 3, 2, 6, 0, 2, 0, 0, 1, 2, 0, 6, 4, 2, 1, 2, 0, 1, 2, 3, 0, 3, 43, 2, 6, 1, 2, 1, 1, 0, 4, 2, 6, 0, 2, 0, 0, 1, 2, 2, 11, 0, 6, 4, 2, 1, 2, 0, 1, 2, 3, 0, 2, 6, 0, 2, 0, 1, 1, 4, 0, 2, 1, 4, 0, 99, 3, 43, 2, 6, 1, 2, 1, 1, 0, 5, 2, 6, 0, 2, 0, 0, 1, 2, 2, 11, 0, 6, 4, 2, 1, 2, 0, 1, 2, 3, 1, 2, 6, 0, 2, 0, 1, 1, 4, 0, 2, 1, 4, 0, 9, 3, 48, 2, 6, 1, 2, 1, 1, 0, 6, 2, 6, 0, 2, 0, 0, 1, 2, 2, 11, 0, 6, 4, 2, 1, 2, 0, 1, 2, 3, 0, 2, 6, 0, 2, 0, 0, 1, 4, 0, 6, 4, 2, 1, 4, 0, 1, 2, 3, 2, 2, 6, 1, 2, 1, 1, 0, 7, 2, 6, 0, 2, 0, 0, 1, 2, 2, 11, 0, 6, 4, 2, 1, 2, 0, 1, 2, 3, 1, 2, 6, 0, 2, 0, 0, 1, 4, 0, 2, 1, 4, 0, 1])], [], [])
theorem oo_Gr_mayAlter_38 {kA : Nat → ClassId} : or_ok PRD kA GG o_Gr_mayAlter_38 := by
  refine or_mk fun A ta ws vs hD hth hl => ?_
  intro t0 r0 t1 k1 t2 k2 t3 k3 t4 k4 t5 k5 f0 f1 f2
  have kz_0_0 := fdq_21 hD hth r0
  have kz_0_1 := fdq_30 hD hth r0
  have kz_0_2 := fdq_20 hD hth r0
  have nf0 : fc_1 PRD (20, [5, 1, 2, 0, 3], [50, 3, 0, 3002, 3000, 3001, 4, 6, 1, 2, 1, 0, 0, 1, 3, 36, 2, 6, 1, 2, 1, 1, 0, 0, 2, 6, 0, 2, 0, 0, 1, 2, 2, 11, 0, 6, 4, 2, 1, 2, 0, 1, 2, 3, 2, 0, 3, 2, 3, 0, 0, 23, 3, 81, 2, 6, 1, 2, 1, 1, 0, 1, 2, 6, 0, 2, 0, 0, 1, 2, 2, 11, 0, 6, 4, 2, 1, 2, 0, 1, 2, 3, 0, 2, 6, 0, 2, 0, 0, 1, 4, 2, 11, 0, 6, 4, 2, 1, 4, 0, 1, 2, 3, 0, 2, 7, 0, 3, 2, 3, 1, 0, 47, 3, 10, 0, 6, 4, 2, 1, 2, 0, 1, 1, 4, 0, 6, 4, 2, 1, 4, 0, 1, 1, 2, 3, 27, 2, 6, 1, 2, 1, 1, 0, 2, 2, 6, 0, 2, 0, 0, 1, 2, 0, 6, 4, 2, 1, 2, 0, 1, 2, 3, 1, 3, 27, 2, 6, 1, 2, 1, 1, 0, 3, 2, 6, 0, 2, 0, 0, 1, 2, 0, 6, 4, 2, 1, 2, 0, 1, 2, 3, 0, 3, 43, 2, 6, 1, 2, 1, 1, 0, 4, 2, 6, 0, 2, 0, 0, 1, 2, 2, 11, 0, 6, 4, 2, 1, 2, 0, 1, 2, 3, 0, 2, 6, 0, 2, 0, 1, 1, 4, 0, 2, 1, 4, 0, 99, 3, 43, 2, 6, 1, 2, 1, 1, 0, 5, 2, 6, 0, 2, 0, 0, 1, 2, 2, 11, 0, 6, 4, 2, 1, 2, 0, 1, 2, 3, 1, 2, 6, 0, 2, 0, 1, 1, 4, 0, 2, 1, 4, 0, 9, 3, 48, 2, 6, 1, 2, 1, 1, 0, 6, 2, 6, 0, 2, 0, 0, 1, 2, 2, 11, 0, 6, 4, 2, 1, 2, 0, 1, 2, 3, 0, 2, 6, 0, 2, 0, 0, 1, 4, 0, 6, 4, 2, 1, 4, 0, 1, 2, 3, 2, 2, 6, 1, 2, 1, 1, 0, 7, 2, 6, 0, 2, 0, 0, 1, 2, 2, 11, 0, 6, 4, 2, 1, 2, 0, 1, 2, 3, 1, 2, 6, 0, 2, 0, 0, 1, 4, 0, 2, 1, 4, 0, 1]) ws (vs) := ⟨nf_in hl rfl, sgq_1778 (vc_Gr_mayAlter_38_0 (v_iv (n_v vs 1)) (v_iv (n_v vs 2)) (v_iv (n_v vs 3)) (v_iv (n_v vs 5)) (w_fi ws (n_v vs 0) 1) (w_fi ws (n_v vs 0) 0) (w_fi ws (n_v vs 0) 2) k1 k2 k3 k5 kz_0_0 kz_0_1 kz_0_2)⟩
  refine ⟨(fun _ h => (by cases h)), [], trivial, ?_, (fun _ h => (by cases h))⟩
  rw [List.append_nil]
  exact List.forall_mem_cons.mpr ⟨⟨show (20 : Nat) < 100 from by decide, nf0⟩, (fun _ h => (by cases h))⟩
set_option maxHeartbeats 4000000 in
theorem vc_Gr_mayAlter_39_0 (x1 : Int) (x2 : Int) (x3 : Int) (x4 : Int) (x5 : Int) (edges_0 : Int) (nodes_0 : Int) (groups_0 : Int) (k1 : 7 ≤ x1 ∧ x1 ≤ 7) (k2 : 0 ≤ x2 ∧ x2 ≤ 47) (k3 : 0 ≤ x3 ∧ x3 ≤ 0) (k4 : 1 ≤ x4 ∧ x4 ≤ 1) (k5 : 1 ≤ x5 ∧ x5 ≤ 1) (f2 : (x4 = 1) → ((0 ≤ x2) ∧ ((x2 + 1) ≤ edges_0))) (f3 : (x4 = 0) → ((x2 ≤ (-1)) ∨ (edges_0 ≤ x2))) (kz_0_0 : 0 ≤ nodes_0 ∧ nodes_0 ≤ 24) (kz_0_1 : 0 ≤ edges_0 ∧ edges_0 ≤ 48) (kz_0_2 : 0 ≤ groups_0 ∧ groups_0 ≤ 8) : (x5 = 1) → (((x1 = 0) ∧ ((0 ≤ x2) ∧ (((x2 + 1) ≤ groups_0) ∧ (nodes_0 ≤ 23)))) ∨ (((x1 = 1) ∧ ((0 ≤ x2) ∧ (((x2 + 1) ≤ nodes_0) ∧ ((0 ≤ x3) ∧ (((x3 + 1) ≤ nodes_0) ∧ ((edges_0 ≤ 47) ∧ (((x2 + 1) ≤ x3) ∨ ((x3 + 1) ≤ x2)))))))) ∨ (((x1 = 2) ∧ ((0 ≤ x2) ∧ ((x2 + 1) ≤ edges_0))) ∨ (((x1 = 3) ∧ ((0 ≤ x2) ∧ ((x2 + 1) ≤ nodes_0))) ∨ (((x1 = 4) ∧ ((0 ≤ x2) ∧ (((x2 + 1) ≤ nodes_0) ∧ ((1 ≤ x3) ∧ (x3 ≤ 99))))) ∨ (((x1 = 5) ∧ ((0 ≤ x2) ∧ (((x2 + 1) ≤ edges_0) ∧ ((1 ≤ x3) ∧ (x3 ≤ 9))))) ∨ (((x1 = 6) ∧ ((0 ≤ x2) ∧ (((x2 + 1) ≤ nodes_0) ∧ ((0 ≤ x3) ∧ ((x3 + 1) ≤ groups_0))))) ∨ ((x1 = 7) ∧ ((0 ≤ x2) ∧ (((x2 + 1) ≤ edges_0) ∧ ((0 ≤ x3) ∧ (x3 ≤ 1)))))))))))) := by
  first
    | (intro h; exfalso; omega)
    | (intro h; left; omega)
    | (intro h; right; left; omega)
    | (intro h; right; right; left; omega)
    | (intro h; right; right; right; left; omega)
    | (intro h; right; right; right; right; left; omega)
    | (intro h; right; right; right; right; right; left; omega)
    | (intro h; right; right; right; right; right; right; left; omega)
    | (intro h; right; right; right; right; right; right; right; omega)
    | omega
  
def o_Gr_mayAlter_39 : or_T := (230, 6, [(0, (2, 0, 0, [3])), (1, (0, 7, 7, [])), (2, (0, 0, 47, [])), (3, (0, 0, 0, [])), (4, (0, 1, 1, [])), (5, (0, 1, 1, []))], [(8, [3], [0]), (8, [4], [1]), (20, [4, 2, 0], [50, 1, 0, 2001, 4, 6, 1, 2, 1, 0, 0, 1, 2, 6, 0, 2, 0, 0, 1, 1, 0, 6, 4, 2, 1, 1, 0, 1, 2, 2, 1]), (20, [4, 2, 0], [50, 1, 0, 2001, 4, 6, 1, 2, 1, 0, 0, 0, 3, 6, 0, 2, 1, 1, 0, -1, 0, 3, 2, 2, 1, 1, 1])], [], [], [(20, [5, 1, 2, 0, 3], [50, 3, 0, 3002, 3000, 3001, 4, 6, 1, 2, 1, 0, 0, 1, 3, 36, 2, 6, 1, 2, 1, 1, 0, 0, 2, 6, 0, 2, 0, 0, 1, 2, 2, 11, 0, 6, 4, 2, 1, 2, 0, 1, 2, 3, 2, 0, 3, 2, 3, 0, 0, 23, 3, 81, 2, 6, 1, 2, 1, 1, 0, 1, 2, 6, 0, 2, 0, 0, 1, 2, 2, 11, 0, 6, 4, 2, 1, 2, 0, 1, 2, 3, 0, 2, 6, 0, 2, 0, 0, 1, 4, 2, 11, 0, 6, 4, 2, 1, 4, 0, 1, 2, 3, 0, 2, 7, 0, 3, 2, 3, 1, 0, 47, 3, 10, 0, 6, 4, 2, 1, 2, 0, 1, 1, 4, 0, 6, 4, 2, 1, 4, 0, 1, 1, 2, 3, 27, 2, 6, 1, 2, 1, 1, 0, 2, 2, 6, 0, 2, 0, 0, 1, 2, 0, 6, 4, 2, 1, 2, 0, 1, 2, 3, 1, 3, 27, 2, 6, 1, 2, 1, 1, 0, 3, 2, 6, 0, 2, 0, 0, 1, 2, 0, 6, 4, 2, 1, 2, 0, 1, 2, 3, 0, 3, 43, 2, 6, 1, 2, 1, 1, 0, 4, 2, 6, 0, 2, 0, 0, 1, 2, 2, 11, 0, 6, 4, 2, 1, 2, 0, 1, 2, 3, 0, 2, 6, 0, 2, 0, 1, 1, 4, 0, 2, 1, 4, 0, 99, 3, 43, 2, 6, 1, 2, 1, 1, 0, 5, 2, 6, 0, 2, 0, 0, 1, 2, 2, 11, 0, 6, 4, 2, 1, 2, 0, 1, 2, 3, 1, 2, 6, 0, 2, 0, 1, 1, 4, 0, 2, 1, 4, 0, 9, 3, 48, 2, 6, 1, 2, 1, 1, 0, 6, 2, 6, 0, 2, 0, 0, 1, 2, 2, 11, 0, 6, 4, 2, 1, 2, 0, 1, 2, 3, 0, 2, 6, 0, 2, 0, 0, 1, 4, 0, 6, 4, 2, 1, 4, 0, 1, 2, 3, 2, 2, 6, 1, 2, 1, 1, 0, 7, 2, 6, 0, 2, 0, 0, 1, 2, 2, 11, 0, 6, 4, 2, 1, 2, 0, 1, 2, 3, 1, 2, 6, 0, 2, 0, 0, 1, 4, 0, 2, 1, 4, 0, 1])], [], [])
theorem oo_Gr_mayAlter_39 {kA : Nat → ClassId} : or_ok PRD kA GG o_Gr_mayAlter_39 := by
  refine or_mk fun A ta ws vs hD hth hl => ?_
  intro t0 r0 t1 k1 t2 k2 t3 k3 t4 k4 t5 k5 f0 f1 f2 f3
  have kz_0_0 := fdq_21 hD hth r0
  have kz_0_1 := fdq_30 hD hth r0
  have kz_0_2 := fdq_20 hD hth r0
  have nf0 : fc_1 PRD (20, [5, 1, 2, 0, 3], [50, 3, 0, 3002, 3000, 3001, 4, 6, 1, 2, 1, 0, 0, 1, 3, 36, 2, 6, 1, 2, 1, 1, 0, 0, 2, 6, 0, 2, 0, 0, 1, 2, 2, 11, 0, 6, 4, 2, 1, 2, 0, 1, 2, 3, 2, 0, 3, 2, 3, 0, 0, 23, 3, 81, 2, 6, 1, 2, 1, 1, 0, 1, 2, 6, 0, 2, 0, 0, 1, 2, 2, 11, 0, 6, 4, 2, 1, 2, 0, 1, 2, 3, 0, 2, 6, 0, 2, 0, 0, 1, 4, 2, 11, 0, 6, 4, 2, 1, 4, 0, 1, 2, 3, 0, 2, 7, 0, 3, 2, 3, 1, 0, 47, 3, 10, 0, 6, 4, 2, 1, 2, 0, 1, 1, 4, 0, 6, 4, 2, 1, 4, 0, 1, 1, 2, 3, 27, 2, 6, 1, 2, 1, 1, 0, 2, 2, 6, 0, 2, 0, 0, 1, 2, 0, 6, 4, 2, 1, 2, 0, 1, 2, 3, 1, 3, 27, 2, 6, 1, 2, 1, 1, 0, 3, 2, 6, 0, 2, 0, 0, 1, 2, 0, 6, 4, 2, 1, 2, 0, 1, 2, 3, 0, 3, 43, 2, 6, 1, 2, 1, 1, 0, 4, 2, 6, 0, 2, 0, 0, 1, 2, 2, 11, 0, 6, 4, 2, 1, 2, 0, 1, 2, 3, 0, 2, 6, 0, 2, 0, 1, 1, 4, 0, 2, 1, 4, 0, 99, 3, 43, 2, 6, 1, 2, 1, 1, 0, 5, 2, 6, 0, 2, 0, 0, 1, 2, 2, 11, 0, 6, 4, 2, 1, 2, 0, 1, 2, 3, 1, 2, 6, 0, 2, 0, 1, 1, 4, 0, 2, 1, 4, 0, 9, 3, 48, 2, 6, 1, 2, 1, 1, 0, 6, 2, 6, 0, 2, 0, 0, 1, 2, 2, 11, 0, 6, 4, 2, 1, 2, 0, 1, 2, 3, 0, 2, 6, 0, 2, 0, 0, 1, 4, 0, 6, 4, 2, 1, 4, 0, 1, 2, 3, 2, 2, 6, 1, 2, 1, 1, 0, 7, 2, 6, 0, 2, 0, 0, 1, 2, 2, 11, 0, 6, 4, 2, 1, 2, 0, 1, 2, 3, 1, 2, 6, 0, 2, 0, 0, 1, 4, 0, 2, 1, 4, 0, 1]) ws (vs) := ⟨nf_in hl rfl, sgq_1778 (vc_Gr_mayAlter_39_0 (v_iv (n_v vs 1)) (v_iv (n_v vs 2)) (v_iv (n_v vs 3)) (v_iv (n_v vs 4)) (v_iv (n_v vs 5)) (w_fi ws (n_v vs 0) 1) (w_fi ws (n_v vs 0) 0) (w_fi ws (n_v vs 0) 2) k1 k2 k3 k4 k5 (shm_378 f2) (shm_379 f3) kz_0_0 kz_0_1 kz_0_2)⟩
  refine ⟨(fun _ h => (by cases h)), [], trivial, ?_, (fun _ h => (by cases h))⟩
  rw [List.append_nil]
  exact List.forall_mem_cons.mpr ⟨⟨show (20 : Nat) < 100 from by decide, nf0⟩, (fun _ h => (by cases h))⟩
set_option maxHeartbeats 4000000 in
theorem vc_Gr_mayAlter_40_0 (x1 : Int) (x2 : Int) (x3 : Int) (x6 : Int) (edges_0 : Int) (nodes_0 : Int) (groups_0 : Int) (k1 : 7 ≤ x1 ∧ x1 ≤ 7) (k2 : 0 ≤ x2 ∧ x2 ≤ 47) (k3 : (-2147483648) ≤ x3 ∧ x3 ≤ 2147483647) (k6 : 0 ≤ x6 ∧ x6 ≤ 0) (kz_0_0 : 0 ≤ nodes_0 ∧ nodes_0 ≤ 24) (kz_0_1 : 0 ≤ edges_0 ∧ edges_0 ≤ 48) (kz_0_2 : 0 ≤ groups_0 ∧ groups_0 ≤ 8) : (x6 = 1) → (((x1 = 0) ∧ ((0 ≤ x2) ∧ (((x2 + 1) ≤ groups_0) ∧ (nodes_0 ≤ 23)))) ∨ (((x1 = 1) ∧ ((0 ≤ x2) ∧ (((x2 + 1) ≤ nodes_0) ∧ ((0 ≤ x3) ∧ (((x3 + 1) ≤ nodes_0) ∧ ((edges_0 ≤ 47) ∧ (((x2 + 1) ≤ x3) ∨ ((x3 + 1) ≤ x2)))))))) ∨ (((x1 = 2) ∧ ((0 ≤ x2) ∧ ((x2 + 1) ≤ edges_0))) ∨ (((x1 = 3) ∧ ((0 ≤ x2) ∧ ((x2 + 1) ≤ nodes_0))) ∨ (((x1 = 4) ∧ ((0 ≤ x2) ∧ (((x2 + 1) ≤ nodes_0) ∧ ((1 ≤ x3) ∧ (x3 ≤ 99))))) ∨ (((x1 = 5) ∧ ((0 ≤ x2) ∧ (((x2 + 1) ≤ edges_0) ∧ ((1 ≤ x3) ∧ (x3 ≤ 9))))) ∨ (((x1 = 6) ∧ ((0 ≤ x2) ∧ (((x2 + 1) ≤ nodes_0) ∧ ((0 ≤ x3) ∧ ((x3 + 1) ≤ groups_0))))) ∨ ((x1 = 7) ∧ ((0 ≤ x2) ∧ (((x2 + 1) ≤ edges_0) ∧ ((0 ≤ x3) ∧ (x3 ≤ 1)))))))))))) := by
  first
    | (intro h; exfalso; omega)
    | (intro h; left; omega)
    | (intro h; right; left; omega)
    | (intro h; right; right; left; omega)
    | (intro h; right; right; right; left; omega)
    | (intro h; right; right; right; right; left; omega)
    | (intro h; right; right; right; right; right; left; omega)
    | (intro h; right; right; right; right; right; right; left; omega)
    | (intro h; right; right; right; right; right; right; right; omega)
    | omega
  
def o_Gr_mayAlter_40 : or_T := (230, 7, [(0, (2, 0, 0, [3])), (1, (0, 7, 7, [])), (2, (0, 0, 47, [])), (3, (0, -2147483648, 2147483647, [])), (4, (0, 1, 1, [])), (5, (0, 1, 1, [])), (6, (0, 0, 0, []))], [(7, [3, 5], [1]), (8, [3], [1]), (8, [4], [1]), (20, [4, 2, 0], [50, 1, 0, 2001, 4, 6, 1, 2, 1, 0, 0, 1, 2, 6, 0, 2, 0, 0, 1, 1, 0, 6, 4, 2, 1, 1, 0, 1, 2, 2, 1]), (20, [4, 2, 0], [50, 1, 0, 2001, 4, 6, 1, 2, 1, 0, 0, 0, 3, 6, 0, 2, 1, 1, 0, -1, 0, 3, 2, 2, 1, 1, 1])], [], [], [(20, [6, 1, 2, 0, 3], [50, 3, 0, 3002, 3000, 3001, 4, 6, 1, 2, 1, 0, 0, 1, 3, 36, 2, 6, 1, 2, 1, 1, 0, 0, 2, 6, 0, 2, 0, 0, 1, 2, 2, 11, 0, 6, 4, 2, 1, 2, 0, 1, 2, 3, 2, 0, 3, 2, 3, 0, 0, 23, 3, 81, 2, 6, 1, 2, 1, 1, 0, 1, 2, 6, 0, 2, 0, 0, 1, 2, 2, 11, 0, 6, 4, 2, 1, 2, 0, 1, 2, 3, 0, 2, 6, 0, 2, 0, 0, 1, 4, 2, 11, 0, 6, 4, 2, 1, 4, 0, 1, 2, 3, 0, 2, 7, 0, 3, 2, 3, 1, 0, 47, 3, 10, 0, 6, 4, 2, 1, 2, 0, 1, 1, 4, 0, 6, 4, 2, 1, 4, 0, 1, 1, 2, 3, 27, 2, 6, 1, 2, 1, 1, 0, 2, 2, 6, 0, 2, 0, 0, 1, 2, 0, 6, 4, 2, 1, 2, 0, 1, 2, 3, 1, 3, 27, 2, 6, 1, 2, 1, 1, 0, 3, 2, 6, 0, 2, 0, 0, 1, 2, 0, 6, 4, 2, 1, 2, 0, 1, 2, 3, 0, 3, 43, 2, 6, 1, 2, 1, 1, 0, 4, 2, 6, 0, 2, 0, 0, 1, 2, 2, 11, 0, 6, 4, 2, 1, 2, 0, 1, 2, 3, 0, 2, 6, 0, 2, 0, 1, 1, 4, 0, 2, 1, 4, 0, 99, 3, 43, 2, 6, 1, 2, 1, 1, 0, 5, 2, 6, 0, 2, 0, 0, 1, 2, 2, 11, 0, 6, 4, 2, 1, 2, 0, 1, 2, 3, 1, 2, 6, 0, 2, 0, 1, 1, 4, 0, 2, 1, 4, 0, 9, 3, 48, 2, 6, 1, 2, 1, 1, 0, 6, 2, 6, 0, 2, 0, 0, 1, 2, 2, 11, 0, 6, 4, 2, 1, 2, 0, 1, 2, 3, 0, 2, 6, 0, 2, 0, 0, 1, 4, 0, 6, 4, 2, 1, 4, 0, 1, 2, 3, 2, 2, 6, 1, 2, 1, 1, 0, 7, 2, 6, 0, 2, 0, 0, 1, 2, 2, 11, 0, 6, 4, 2, 1, 2, 0, 1, 2, 3, 1, 2, 6, 0, 2, 0, 0, 1, 4, 0, 2, 1, 4, 0, 1])], [], [])
theorem oo_Gr_mayAlter_40 {kA : Nat → ClassId} : or_ok PRD kA GG o_Gr_mayAlter_40 := by
  refine or_mk fun A ta ws vs hD hth hl => ?_
  intro t0 r0 t1 k1 t2 k2 t3 k3 t4 k4 t5 k5 t6 k6 f0 f1 f2 f3 f4
  have kz_0_0 := fdq_21 hD hth r0
  have kz_0_1 := fdq_30 hD hth r0
  have kz_0_2 := fdq_20 hD hth r0
  have nf0 : fc_1 PRD (20, [6, 1, 2, 0, 3], [50, 3, 0, 3002, 3000, 3001, 4, 6, 1, 2, 1, 0, 0, 1, 3, 36, 2, 6, 1, 2, 1, 1, 0, 0, 2, 6, 0, 2, 0, 0, 1, 2, 2, 11, 0, 6, 4, 2, 1, 2, 0, 1, 2, 3, 2, 0, 3, 2, 3, 0, 0, 23, 3, 81, 2, 6, 1, 2, 1, 1, 0, 1, 2, 6, 0, 2, 0, 0, 1, 2, 2, 11, 0, 6, 4, 2, 1, 2, 0, 1, 2, 3, 0, 2, 6, 0, 2, 0, 0, 1, 4, 2, 11, 0, 6, 4, 2, 1, 4, 0, 1, 2, 3, 0, 2, 7, 0, 3, 2, 3, 1, 0, 47, 3, 10, 0, 6, 4, 2, 1, 2, 0, 1, 1, 4, 0, 6, 4, 2, 1, 4, 0, 1, 1, 2, 3, 27, 2, 6, 1, 2, 1, 1, 0, 2, 2, 6, 0, 2, 0, 0, 1, 2, 0, 6, 4, 2, 1, 2, 0, 1, 2, 3, 1, 3, 27, 2, 6, 1, 2, 1, 1, 0, 3, 2, 6, 0, 2, 0, 0, 1, 2, 0, 6, 4, 2, 1, 2, 0, 1, 2, 3, 0, 3, 43, 2, 6, 1, 2, 1, 1, 0, 4, 2, 6, 0, 2, 0, 0, 1, 2, 2, 11, 0, 6, 4, 2, 1, 2, 0, 1, 2, 3, 0, 2, 6, 0, 2, 0, 1, 1, 4, 0, 2, 1, 4, 0, 99, 3, 43, 2, 6, 1, 2, 1, 1, 0, 5, 2, 6, 0, 2, 0, 0, 1, 2, 2, 11, 0, 6, 4, 2, 1, 2, 0, 1, 2, 3, 1, 2, 6, 0, 2, 0, 1, 1, 4, 0, 2, 1, 4, 0, 9, 3, 48, 2, 6, 1, 2, 1, 1, 0, 6, 2, 6, 0, 2, 0, 0, 1, 2, 2, 11, 0, 6, 4, 2, 1, 2, 0, 1, 2, 3, 0, 2, 6, 0, 2, 0, 0, 1, 4, 0, 6, 4, 2, 1, 4, 0, 1, 2, 3, 2, 2, 6, 1, 2, 1, 1, 0, 7, 2, 6, 0, 2, 0, 0, 1, 2, 2, 11, 0, 6, 4, 2, 1, 2, 0, 1, 2, 3, 1, 2, 6, 0, 2, 0, 0, 1, 4, 0, 2, 1, 4, 0, 1]) ws (vs) := ⟨nf_in hl rfl, sgq_1778 (vc_Gr_mayAlter_40_0 (v_iv (n_v vs 1)) (v_iv (n_v vs 2)) (v_iv (n_v vs 3)) (v_iv (n_v vs 6)) (w_fi ws (n_v vs 0) 1) (w_fi ws (n_v vs 0) 0) (w_fi ws (n_v vs 0) 2) k1 k2 k3 k6 kz_0_0 kz_0_1 kz_0_2)⟩
  refine ⟨(fun _ h => (by cases h)), [], trivial, ?_, (fun _ h => (by cases h))⟩
  rw [List.append_nil]
  exact List.forall_mem_cons.mpr ⟨⟨show (20 : Nat) < 100 from by decide, nf0⟩, (fun _ h => (by cases h))⟩
set_option maxHeartbeats 4000000 in
theorem vc_Gr_mayAlter_41_0 (x1 : Int) (x2 : Int) (x3 : Int) (x4 : Int) (x6 : Int) (edges_0 : Int) (nodes_0 : Int) (groups_0 : Int) (k1 : 7 ≤ x1 ∧ x1 ≤ 7) (k2 : 0 ≤ x2 ∧ x2 ≤ 47) (k3 : 1 ≤ x3 ∧ x3 ≤ 1) (k4 : 1 ≤ x4 ∧ x4 ≤ 1) (k6 : 1 ≤ x6 ∧ x6 ≤ 1) (f3 : (x4 = 1) → ((0 ≤ x2) ∧ ((x2 + 1) ≤ edges_0))) (f4 : (x4 = 0) → ((x2 ≤ (-1)) ∨ (edges_0 ≤ x2))) (kz_0_0 : 0 ≤ nodes_0 ∧ nodes_0 ≤ 24) (kz_0_1 : 0 ≤ edges_0 ∧ edges_0 ≤ 48) (kz_0_2 : 0 ≤ groups_0 ∧ groups_0 ≤ 8) : (x6 = 1) → (((x1 = 0) ∧ ((0 ≤ x2) ∧ (((x2 + 1) ≤ groups_0) ∧ (nodes_0 ≤ 23)))) ∨ (((x1 = 1) ∧ ((0 ≤ x2) ∧ (((x2 + 1) ≤ nodes_0) ∧ ((0 ≤ x3) ∧ (((x3 + 1) ≤ nodes_0) ∧ ((edges_0 ≤ 47) ∧ (((x2 + 1) ≤ x3) ∨ ((x3 + 1) ≤ x2)))))))) ∨ (((x1 = 2) ∧ ((0 ≤ x2) ∧ ((x2 + 1) ≤ edges_0))) ∨ (((x1 = 3) ∧ ((0 ≤ x2) ∧ ((x2 + 1) ≤ nodes_0))) ∨ (((x1 = 4) ∧ ((0 ≤ x2) ∧ (((x2 + 1) ≤ nodes_0) ∧ ((1 ≤ x3) ∧ (x3 ≤ 99))))) ∨ (((x1 = 5) ∧ ((0 ≤ x2) ∧ (((x2 + 1) ≤ edges_0) ∧ ((1 ≤ x3) ∧ (x3 ≤ 9))))) ∨ (((x1 = 6) ∧ ((0 ≤ x2) ∧ (((x2 + 1) ≤ nodes_0) ∧ ((0 ≤ x3) ∧ ((x3 + 1) ≤ groups_0))))) ∨ ((x1 = 7) ∧ ((0 ≤ x2) ∧ (((x2 + 1) ≤ edges_0) ∧ ((0 ≤ x3) ∧ (x3 ≤ 1)))))))))))) := by
  first
    | (intro h; exfalso; omega)
    | (intro h; left; omega)
    | (intro h; right; left; omega)
    | (intro h; right; right; left; omega)
    | (intro h; right; right; right; left; omega)
    | (intro h; right; right; right; right; left; omega)
    | (intro h; right; right; right; right; right; left; omega)
    | (intro h; right; right; right; right; right; right; left; omega)
    | (intro h; right; right; right; right; right; right; right; omega)
    | omega
  
def o_Gr_mayAlter_41 : or_T := (230, 7, [(0, (2, 0, 0, [3])), (1, (0, 7, 7, [])), (2, (0, 0, 47, [])), (3, (0, 1, 1, [])), (4, (0, 1, 1, [])), (5, (0, 1, 1, [])), (6, (0, 1, 1, []))], [(7, [3, 5], [0]), (8, [3], [1]), (8, [4], [1]), (20, [4, 2, 0], [50, 1, 0, 2001, 4, 6, 1, 2, 1, 0, 0, 1, 2, 6, 0, 2, 0, 0, 1, 1, 0, 6, 4, 2, 1, 1, 0, 1, 2, 2, 1]), (20, [4, 2, 0], [50, 1, 0, 2001, 4, 6, 1, 2, 1, 0, 0, 0, 3, 6, 0, 2, 1, 1, 0, -1, 0, 3, 2, 2, 1, 1, 1])], [], [], [(20, [6, 1, 2, 0, 3], [50, 3, 0, 3002, 3000, 3001, 4, 6, 1, 2, 1, 0, 0, 1, 3, 36, 2, 6, 1, 2, 1, 1, 0, 0, 2, 6, 0, 2, 0, 0, 1, 2, 2, 11, 0, 6, 4, 2, 1, 2, 0, 1, 2, 3, 2, 0, 3, 2, 3, 0, 0, 23, 3, 81, 2, 6, 1, 2, 1, 1, 0, 1, 2, 6, 0, 2, 0, 0, 1, 2, 2, 11, 0, 6, 4, 2, 1, 2, 0, 1, 2, 3, 0, 2, 6, 0, 2, 0, 0, 1, 4, 2, 11, 0, 6, 4, 2, 1, 4, 0, 1, 2, 3, 0, 2, 7, 0, 3, 2, 3, 1, 0, 47, 3, 10, 0, 6, 4, 2, 1, 2, 0, 1, 1, 4, 0, 6, 4, 2, 1, 4, 0, 1, 1, 2, 3, 27, 2, 6, 1, 2, 1, 1, 0, 2, 2, 6, 0, 2, 0, 0, 1, 2, 0, 6, 4, 2, 1, 2, 0, 1, 2, 3, 1, 3, 27, 2, 6, 1, 2, 1, 1, 0, 3, 2, 6, 0, 2, 0, 0, 1, 2, 0, 6, 4, 2, 1, 2, 0, 1, 2, 3, 0, 3, 43, 2, 6, 1, 2, 1, 1, 0, 4, 2, 6, 0, 2, 0, 0, 1, 2, 2, 11, 0, 6, 4, 2, 1, 2, 0, 1, 2, 3, 0, 2, 6, 0, 2, 0, 1, 1, 4, 0, 2, 1, 4, 0, 99, 3, 43, 2, 6, 1, 2, 1, 1, 0, 5, 2, 6, 0, 2, 0, 0, 1, 2, 2, 11, 0, 6, 4, 2, 1, 2, 0, 1, 2, 3, 1, 2, 6, 0, 2, 0, 1, 1, 4, 0, 2, 1, 4, 0, 9, 3, 48, 2, 6, 1, 2, 1, 1, 0, 6, 2, 6, 0, 2, 0, 0, 1, 2, 2, 11, 0, 6, 4, 2, 1, 2, 0, 1, 2, 3, 0, 2, 6, 0, 2, 0, 0, 1, 4, 0, 6, 4, 2, 1, 4, 0, 1, 2, 3, 2, 2, 6, 1, 2, 1, 1, 0, 7, 2, 6, 0, 2, 0, 0, 1, 2, 2, 11, 0, 6, 4, 2, 1, 2, 0, 1, 2, 3, 1, 2, 6, 0, 2, 0, 0, 1, 4, 0, 2, 1, 4, 0, 1])], [], [])
theorem oo_Gr_mayAlter_41 {kA : Nat → ClassId} : or_ok PRD kA GG o_Gr_mayAlter_41 := by
  refine or_mk fun A ta ws vs hD hth hl => ?_
  intro t0 r0 t1 k1 t2 k2 t3 k3 t4 k4 t5 k5 t6 k6 f0 f1 f2 f3 f4
  have kz_0_0 := fdq_21 hD hth r0
  have kz_0_1 := fdq_30 hD hth r0
  have kz_0_2 := fdq_20 hD hth r0
  have nf0 : fc_1 PRD (20, [6, 1, 2, 0, 3], [50, 3, 0, 3002, 3000, 3001, 4, 6, 1, 2, 1, 0, 0, 1, 3, 36, 2, 6, 1, 2, 1, 1, 0, 0, 2, 6, 0, 2, 0, 0, 1, 2, 2, 11, 0, 6, 4, 2, 1, 2, 0, 1, 2, 3, 2, 0, 3, 2, 3, 0, 0, 23, 3, 81, 2, 6, 1, 2, 1, 1, 0, 1, 2, 6, 0, 2, 0, 0, 1, 2, 2, 11, 0, 6, 4, 2, 1, 2, 0, 1, 2, 3, 0, 2, 6, 0, 2, 0, 0, 1, 4, 2, 11, 0, 6, 4, 2, 1, 4, 0, 1, 2, 3, 0, 2, 7, 0, 3, 2, 3, 1, 0, 47, 3, 10, 0, 6, 4, 2, 1, 2, 0, 1, 1, 4, 0, 6, 4, 2, 1, 4, 0, 1, 1, 2, 3, 27, 2, 6, 1, 2, 1, 1, 0, 2, 2, 6, 0, 2, 0, 0, 1, 2, 0, 6, 4, 2, 1, 2, 0, 1, 2, 3, 1, 3, 27, 2, 6, 1, 2, 1, 1, 0, 3, 2, 6, 0, 2, 0, 0, 1, 2, 0, 6, 4, 2, 1, 2, 0, 1, 2, 3, 0, 3, 43, 2, 6, 1, 2, 1, 1, 0, 4, 2, 6, 0, 2, 0, 0, 1, 2, 2, 11, 0, 6, 4, 2, 1, 2, 0, 1, 2, 3, 0, 2, 6, 0, 2, 0, 1, 1, 4, 0, 2, 1, 4, 0, 99, 3, 43, 2, 6, 1, 2, 1, 1, 0, 5, 2, 6, 0, 2, 0, 0, 1, 2, 2, 11, 0, 6, 4, 2, 1, 2, 0, 1, 2, 3, 1, 2, 6, 0, 2, 0, 1, 1, 4, 0, 2, 1, 4, 0, 9, 3, 48, 2, 6, 1, 2, 1, 1, 0, 6, 2, 6, 0, 2, 0, 0, 1, 2, 2, 11, 0, 6, 4, 2, 1, 2, 0, 1, 2, 3, 0, 2, 6, 0, 2, 0, 0, 1, 4, 0, 6, 4, 2, 1, 4, 0, 1, 2, 3, 2, 2, 6, 1, 2, 1, 1, 0, 7, 2, 6, 0, 2, 0, 0, 1, 2, 2, 11, 0, 6, 4, 2, 1, 2, 0, 1, 2, 3, 1, 2, 6, 0, 2, 0, 0, 1, 4, 0, 2, 1, 4, 0, 1]) ws (vs) := ⟨nf_in hl rfl, sgq_1778 (vc_Gr_mayAlter_41_0 (v_iv (n_v vs 1)) (v_iv (n_v vs 2)) (v_iv (n_v vs 3)) (v_iv (n_v vs 4)) (v_iv (n_v vs 6)) (w_fi ws (n_v vs 0) 1) (w_fi ws (n_v vs 0) 0) (w_fi ws (n_v vs 0) 2) k1 k2 k3 k4 k6 (shm_378 f3) (shm_379 f4) kz_0_0 kz_0_1 kz_0_2)⟩
  refine ⟨(fun _ h => (by cases h)), [], trivial, ?_, (fun _ h => (by cases h))⟩
  rw [List.append_nil]
  exact List.forall_mem_cons.mpr ⟨⟨show (20 : Nat) < 100 from by decide, nf0⟩, (fun _ h => (by cases h))⟩
def n_Gr_mayAlter_an : List an_T := []
def t_Gr_mayAlter_ct : ct_L := [(1, 104, e_Gr_hasGroup), (1, 108, e_Gr_hasNextName), (1, 112, e_Gr_hasNode), (1, 115, e_Gr_hasEdge), (337, 86, e_Gr_edgeBetween_at_Gr)]
set_option maxRecDepth 100000 in
theorem c_Gr_mayAlter {l : Launch} {D : va_G} {kA : Nat → ClassId} (h_Gr_edgeBetween_at_Gr : ct_ok PRD l D kA GG y_Gr_edgeBetween_at_Gr z_Gr_edgeBetween_at_Gr e_Gr_edgeBetween_at_Gr) (h_Gr_hasEdge : ct_ok PRD l D kA GG y_Gr_hasEdge z_Gr_hasEdge e_Gr_hasEdge) (h_Gr_hasGroup : ct_ok PRD l D kA GG y_Gr_hasGroup z_Gr_hasGroup e_Gr_hasGroup) (h_Gr_hasNextName : ct_ok PRD l D kA GG y_Gr_hasNextName z_Gr_hasNextName e_Gr_hasNextName) (h_Gr_hasNode : ct_ok PRD l D kA GG y_Gr_hasNode z_Gr_hasNode e_Gr_hasNode) : ct_ok PRD l D kA GG y_Gr_mayAlter z_Gr_mayAlter e_Gr_mayAlter := chk_all_ok (FT := [(9, 3, 0), (15, 3, 1)]) (PT := []) (CT := t_Gr_mayAlter_ct) (KT := []) (NT := []) (AN := n_Gr_mayAlter_an) (OT := [o_Gr_mayAlter_0, o_Gr_mayAlter_1, o_Gr_mayAlter_2, o_Gr_mayAlter_3, o_Gr_mayAlter_4, o_Gr_mayAlter_5, o_Gr_mayAlter_6, o_Gr_mayAlter_7, o_Gr_mayAlter_8, o_Gr_mayAlter_9, o_Gr_mayAlter_10, o_Gr_mayAlter_11, o_Gr_mayAlter_12, o_Gr_mayAlter_13, o_Gr_mayAlter_14, o_Gr_mayAlter_15, o_Gr_mayAlter_16, o_Gr_mayAlter_17, o_Gr_mayAlter_18, o_Gr_mayAlter_19, o_Gr_mayAlter_20, o_Gr_mayAlter_21, o_Gr_mayAlter_22, o_Gr_mayAlter_23, o_Gr_mayAlter_24, o_Gr_mayAlter_25, o_Gr_mayAlter_26, o_Gr_mayAlter_27, o_Gr_mayAlter_28, o_Gr_mayAlter_29, o_Gr_mayAlter_30, o_Gr_mayAlter_31, o_Gr_mayAlter_32, o_Gr_mayAlter_33, o_Gr_mayAlter_34, o_Gr_mayAlter_35, o_Gr_mayAlter_36, o_Gr_mayAlter_37, o_Gr_mayAlter_38, o_Gr_mayAlter_39, o_Gr_mayAlter_40, o_Gr_mayAlter_41]) 0 696 (List.forall_mem_cons.mpr ⟨oo_Gr_mayAlter_0, List.forall_mem_cons.mpr ⟨oo_Gr_mayAlter_1, List.forall_mem_cons.mpr ⟨oo_Gr_mayAlter_2, List.forall_mem_cons.mpr ⟨oo_Gr_mayAlter_3, List.forall_mem_cons.mpr ⟨oo_Gr_mayAlter_4, List.forall_mem_cons.mpr ⟨oo_Gr_mayAlter_5, List.forall_mem_cons.mpr ⟨oo_Gr_mayAlter_6, List.forall_mem_cons.mpr ⟨oo_Gr_mayAlter_7, List.forall_mem_cons.mpr ⟨oo_Gr_mayAlter_8, List.forall_mem_cons.mpr ⟨oo_Gr_mayAlter_9, List.forall_mem_cons.mpr ⟨oo_Gr_mayAlter_10, List.forall_mem_cons.mpr ⟨oo_Gr_mayAlter_11, List.forall_mem_cons.mpr ⟨oo_Gr_mayAlter_12, List.forall_mem_cons.mpr ⟨oo_Gr_mayAlter_13, List.forall_mem_cons.mpr ⟨oo_Gr_mayAlter_14, List.forall_mem_cons.mpr ⟨oo_Gr_mayAlter_15, List.forall_mem_cons.mpr ⟨oo_Gr_mayAlter_16, List.forall_mem_cons.mpr ⟨oo_Gr_mayAlter_17, List.forall_mem_cons.mpr ⟨oo_Gr_mayAlter_18, List.forall_mem_cons.mpr ⟨oo_Gr_mayAlter_19, List.forall_mem_cons.mpr ⟨oo_Gr_mayAlter_20, List.forall_mem_cons.mpr ⟨oo_Gr_mayAlter_21, List.forall_mem_cons.mpr ⟨oo_Gr_mayAlter_22, List.forall_mem_cons.mpr ⟨oo_Gr_mayAlter_23, List.forall_mem_cons.mpr ⟨oo_Gr_mayAlter_24, List.forall_mem_cons.mpr ⟨oo_Gr_mayAlter_25, List.forall_mem_cons.mpr ⟨oo_Gr_mayAlter_26, List.forall_mem_cons.mpr ⟨oo_Gr_mayAlter_27, List.forall_mem_cons.mpr ⟨oo_Gr_mayAlter_28, List.forall_mem_cons.mpr ⟨oo_Gr_mayAlter_29, List.forall_mem_cons.mpr ⟨oo_Gr_mayAlter_30, List.forall_mem_cons.mpr ⟨oo_Gr_mayAlter_31, List.forall_mem_cons.mpr ⟨oo_Gr_mayAlter_32, List.forall_mem_cons.mpr ⟨oo_Gr_mayAlter_33, List.forall_mem_cons.mpr ⟨oo_Gr_mayAlter_34, List.forall_mem_cons.mpr ⟨oo_Gr_mayAlter_35, List.forall_mem_cons.mpr ⟨oo_Gr_mayAlter_36, List.forall_mem_cons.mpr ⟨oo_Gr_mayAlter_37, List.forall_mem_cons.mpr ⟨oo_Gr_mayAlter_38, List.forall_mem_cons.mpr ⟨oo_Gr_mayAlter_39, List.forall_mem_cons.mpr ⟨oo_Gr_mayAlter_40, List.forall_mem_cons.mpr ⟨oo_Gr_mayAlter_41, List.forall_mem_nil _⟩⟩⟩⟩⟩⟩⟩⟩⟩⟩⟩⟩⟩⟩⟩⟩⟩⟩⟩⟩⟩⟩⟩⟩⟩⟩⟩⟩⟩⟩⟩⟩⟩⟩⟩⟩⟩⟩⟩⟩⟩⟩) (by decide +kernel) ⟨List.forall_mem_cons.mpr ⟨gf_Gr_9, List.forall_mem_cons.mpr ⟨gf_Gr_15, List.forall_mem_nil _⟩⟩, List.forall_mem_nil _, List.forall_mem_cons.mpr ⟨cl_virtual (y := y_Gr_hasGroup) (ci := 3) rfl rfl ⟨_, _, rfl⟩ (by decide +kernel) h_Gr_hasGroup wm_942 wm_3 wm_959 wm_940 wm_941 ⟨by decide, by decide, by decide +kernel⟩ (by decide), List.forall_mem_cons.mpr ⟨cl_virtual (y := y_Gr_hasNextName) (ci := 3) rfl rfl ⟨_, _, rfl⟩ (by decide +kernel) h_Gr_hasNextName wm_963 wm_3 wm_960 wm_962 wv_2_12 ⟨by decide, by decide, by decide +kernel⟩ (by decide), List.forall_mem_cons.mpr ⟨cl_virtual (y := y_Gr_hasNode) (ci := 3) rfl rfl ⟨_, _, rfl⟩ (by decide +kernel) h_Gr_hasNode wm_921 wm_3 wm_969 wm_919 wm_920 ⟨by decide, by decide, by decide +kernel⟩ (by decide), List.forall_mem_cons.mpr ⟨cl_virtual (y := y_Gr_hasEdge) (ci := 3) rfl rfl ⟨_, _, rfl⟩ (by decide +kernel) h_Gr_hasEdge wm_930 wm_3 wm_971 wm_928 wm_929 ⟨by decide, by decide, by decide +kernel⟩ (by decide), List.forall_mem_cons.mpr ⟨cl_virtual (y := y_Gr_edgeBetween_at_Gr) (ci := 3) rfl rfl ⟨_, _, rfl⟩ (by decide +kernel) h_Gr_edgeBetween_at_Gr wm_768 wm_3 wm_970 wm_766 wm_767 ⟨by decide, by decide, by decide +kernel⟩ (by decide), List.forall_mem_nil _⟩⟩⟩⟩⟩, List.forall_mem_nil _, List.forall_mem_nil _, GG_pl⟩ (by decide +kernel)
set_option maxHeartbeats 4000000 in
theorem vc_Pl_layRows_0_1 (x2 : Int) (x3 : Int) (itemSize_0 : Int → Int) (items_0 : Int) (k2 : 0 ≤ x2 ∧ x2 ≤ 0) (k3 : 0 ≤ x3 ∧ x3 ≤ 0) (kz_0_11 : 0 ≤ items_0 ∧ items_0 ≤ 32) : RT16 (items_0) (itemSize_0) (x3) (x2) := by
  first
    | exact ⟨by omega, by rw [show x3 = 0 by omega, pxs_0 (n := 0) (by omega)]; omega⟩
    | exact rt1_step ‹RT16 _ _ _ _› (by omega) (by assumption) (by omega) (by omega)
  
def o_Pl_layRows_0 : or_T := (4, 4, [(0, (2, 0, 0, [6])), (2, (0, 0, 0, [])), (3, (0, 0, 0, []))], [], [], [], [(24, [1, 1], []), (20, [0, 3, 2], [60, 1, 1, 852, 11, 10]), (24, [0, 0], [])], [], [])
theorem oo_Pl_layRows_0 {kA : Nat → ClassId} : or_ok PRD kA GG o_Pl_layRows_0 := by
  refine or_mk fun A ta ws vs hD hth hl => ?_
  intro t0 r0 t2 k2 t3 k3
  have kz_0_11 := fdq_7 hD hth r0
  have nf0 : fc_1 PRD (24, [1, 1], []) ws (vs) := by
    refine ⟨nf_in hl rfl, sgq_1 ?_⟩
    · show n_v vs 1 = n_v vs 1
      first | rfl | simp only [true_and]
  have nf1 : fc_1 PRD (20, [0, 3, 2], [60, 1, 1, 852, 11, 10]) ws (vs) := ⟨nf_in hl rfl, sgq_1780 (vc_Pl_layRows_0_1 (v_iv (n_v vs 2)) (v_iv (n_v vs 3)) (w_ei ws (w_ar ws (n_v vs 0) 10)) (w_fi ws (n_v vs 0) 11) k2 k3 kz_0_11)⟩
  have nf2 : fc_1 PRD (24, [0, 0], []) ws (vs) := by
    refine ⟨nf_in hl rfl, sgq_1 ?_⟩
    · show n_v vs 0 = n_v vs 0
      first | rfl | simp only [true_and]
  refine ⟨(fun _ h => (by cases h)), [], trivial, ?_, (fun _ h => (by cases h))⟩
  rw [List.append_nil]
  exact List.forall_mem_cons.mpr ⟨⟨show (24 : Nat) < 100 from by decide, nf0⟩, List.forall_mem_cons.mpr ⟨⟨show (20 : Nat) < 100 from by decide, nf1⟩, List.forall_mem_cons.mpr ⟨⟨show (24 : Nat) < 100 from by decide, nf2⟩, (fun _ h => (by cases h))⟩⟩⟩
set_option maxHeartbeats 4000000 in
theorem vc_Pl_layRows_1_0 (x3 : Int) (x4 : Int) (x6 : Int) (x7 : Int) (items_0 : Int) (itemSize_0 : Int → Int) (k3 : 0 ≤ x3 ∧ x3 ≤ 79200) (k4 : 0 ≤ x4 ∧ x4 ≤ 32) (k6 : 0 ≤ x6 ∧ x6 ≤ 32) (k7 : 0 ≤ x7 ∧ x7 ≤ 0) (d0 : x6 + 0 ≤ x4 ∧ x4 ≤ x6 + 4294967296) (g1 : x6 = items_0) (f5 : RT16 (items_0) (itemSize_0) (x4) (x3)) (kz_0_11 : 0 ≤ items_0 ∧ items_0 ≤ 32) : RT26 (items_0) (itemSize_0) (x7) (x3) := by
  first
    | exact rt2_start ‹RT16 _ _ _ _› (by omega) (by omega)
    | exact rt2_next ‹RT36 _ _ _ _ _ _ _› (by omega) (by omega) (by omega)
  
def o_Pl_layRows_1 : or_T := (31, 9, [(0, (2, 0, 0, [6])), (3, (0, 0, 79200, [])), (4, (0, 0, 32, [])), (6, (0, 0, 32, [])), (7, (0, 0, 0, []))], [(9, [6, 2], [11]), (20, [2, 4, 3], [60, 1, 1, 852, 11, 10]), (24, [0, 2], [])], [], [], [(20, [2, 7, 3], [60, 1, 1, 853, 11, 10])], [], [(4, 6, 0, 4294967296)])
theorem oo_Pl_layRows_1 {kA : Nat → ClassId} : or_ok PRD kA GG o_Pl_layRows_1 := by
  refine or_mk fun A ta ws vs hD hth hl => ?_
  intro t0 r0 t3 k3 t4 k4 t6 k6 t7 k7 d0 f1 f5 f6
  replace f1 := shm_116 f1
  replace f5 := shm_1780 f5
  replace f6 := shm_5 f6
  have q2 : n_v vs 2 = n_v vs 0 := f6.symm
  simp only [q2] at f1 f5
  have g1 : v_iv (n_v vs 6) = w_fi ws (n_v vs 0) 11 := congrArg v_iv f1
  have kz_0_11 := fdq_7 hD hth r0
  have nf0 : fc_1 PRD (20, [2, 7, 3], [60, 1, 1, 853, 11, 10]) ws (vs) := by
    refine ⟨nf_in hl rfl, sgq_1781 ?_⟩
    · show RT26 (w_fi ws (n_v vs 2) 11) (w_ei ws (w_ar ws (n_v vs 2) 10)) (v_iv (n_v vs 7)) (v_iv (n_v vs 3))
      rw [q2]
      exact vc_Pl_layRows_1_0 (v_iv (n_v vs 3)) (v_iv (n_v vs 4)) (v_iv (n_v vs 6)) (v_iv (n_v vs 7)) (w_fi ws (n_v vs 0) 11) (w_ei ws (w_ar ws (n_v vs 0) 10)) k3 k4 k6 k7 d0 g1 f5 kz_0_11
  refine ⟨(fun _ h => (by cases h)), [], trivial, ?_, (fun _ h => (by cases h))⟩
  rw [List.append_nil]
  exact List.forall_mem_cons.mpr ⟨⟨show (20 : Nat) < 100 from by decide, nf0⟩, (fun _ h => (by cases h))⟩
set_option maxHeartbeats 4000000 in
theorem vc_Pl_layRows_2_r0 (x3 : Int) (x4 : Int) (itemSize_0 : Int → Int) (items_0 : Int) (k3 : 0 ≤ x3 ∧ x3 ≤ 79200) (k4 : 0 ≤ x4 ∧ x4 ≤ 31) (f7 : RT16 (items_0) (itemSize_0) (x4) (x3)) (hK_0_10 : ∀ j : Int, 0 ≤ j → j < 32 → 0 ≤ itemSize_0 j ∧ itemSize_0 j ≤ 2400) (kz_0_11 : 0 ≤ items_0 ∧ items_0 ≤ 32) : 0 ≤ x3 ∧ x3 ≤ 76800 := by
  first
    | omega
    | (have q := rt1_bd ‹RT16 _ _ _ _› (fun j a b => by have := hK_0_10 j a b; omega); omega)
    | (have q := rt3_bd ‹RT36 _ _ _ _ _ _ _› (fun j a b => by have := hK_0_10 j a b; omega); omega)
  
def o_Pl_layRows_2 : or_T := (19, 9, [(0, (2, 0, 0, [6])), (1, (2, 0, 0, [0])), (2, (2, 0, 0, [6])), (3, (0, 0, 79200, [])), (4, (0, 0, 31, [])), (5, (2, 0, 0, [0])), (6, (0, 1, 32, [])), (7, (2, 0, 0, [96])), (8, (0, 0, 2400, []))], [(10, [8, 7, 4], []), (9, [7, 2], [10]), (7, [4, 6], [2]), (9, [6, 2], [11]), (20, [2], [60, 0, 1, 845, 12]), (20, [5], [60, 0, 1, 844, 13]), (24, [1, 5], []), (20, [2, 4, 3], [60, 1, 1, 852, 11, 10]), (24, [0, 2], [])], [(3, (0, 0, 76800, []))], [], [], [], [(4, 6, -4294967296, -1)])
theorem oo_Pl_layRows_2 {kA : Nat → ClassId} : or_ok PRD kA GG o_Pl_layRows_2 := by
  refine or_mk fun A ta ws vs hD hth hl => ?_
  intro t0 r0 t1 r1 t2 r2 t3 k3 t4 k4 t5 r5 t6 k6 t7 r7 t8 k8 d0 f0 f1 f2 f3 f4 f5 f6 f7 f8
  replace f7 := shm_1780 f7
  replace f8 := shm_5 f8
  have q2 : n_v vs 2 = n_v vs 0 := f8.symm
  simp only [q2] at f7
  have cr_0_10 := fdq_9 hD hth r0
  have hK_0_10 := elq_138 hD hth cr_0_10
  have kz_0_11 := fdq_7 hD hth r0
  have hrf0 : 0 ≤ v_iv (n_v vs 3) ∧ v_iv (n_v vs 3) ≤ 76800 := vc_Pl_layRows_2_r0 (v_iv (n_v vs 3)) (v_iv (n_v vs 4)) (w_ei ws (w_ar ws (n_v vs 0) 10)) (w_fi ws (n_v vs 0) 11) k3 k4 f7 hK_0_10 kz_0_11
  have rf3 : tv_ok ta (0, 0, 76800, []) (n_v vs 3) := tv_in t3 (by first | omega | grind) (by first | omega | grind)
  refine ⟨List.forall_mem_cons.mpr ⟨rf3, (fun _ h => (by cases h))⟩, [], trivial, ?_, (fun _ h => (by cases h))⟩
  rw [List.append_nil]
  exact (fun _ h => (by cases h))
set_option maxHeartbeats 4000000 in
theorem vc_Pl_layRows_3_0 (x3 : Int) (x4 : Int) (x6 : Int) (x8 : Int) (x9 : Int) (x10 : Int) (itemSize_0 : Int → Int) (items_0 : Int) (k3 : 0 ≤ x3 ∧ x3 ≤ 76800) (k4 : 0 ≤ x4 ∧ x4 ≤ 31) (k6 : 1 ≤ x6 ∧ x6 ≤ 32) (k8 : 0 ≤ x8 ∧ x8 ≤ 2400) (k9 : 0 ≤ x9 ∧ x9 ≤ 79200) (k10 : 1 ≤ x10 ∧ x10 ≤ 32) (d0 : x4 + 1 ≤ x10 ∧ x10 ≤ x4 + 1) (d1 : x6 + (-4294967296) ≤ x10 ∧ x10 ≤ x6 + 0) (d4 : x6 + (-4294967296) ≤ x4 ∧ x4 ≤ x6 + (-1)) (f0 : x10 = x4 + 1) (f1 : x9 = x3 + x8) (h2 : x8 = itemSize_0 (x4)) (g5 : x6 = items_0) (f9 : RT16 (items_0) (itemSize_0) (x4) (x3)) (kz_0_11 : 0 ≤ items_0 ∧ items_0 ≤ 32) : RT16 (items_0) (itemSize_0) (x10) (x9) := by
  first
    | exact ⟨by omega, by rw [show x3 = 0 by omega, pxs_0 (n := 0) (by omega)]; omega⟩
    | exact rt1_step ‹RT16 _ _ _ _› (by omega) (by assumption) (by omega) (by omega)
  
def o_Pl_layRows_3 : or_T := (4, 11, [(0, (2, 0, 0, [6])), (3, (0, 0, 76800, [])), (4, (0, 0, 31, [])), (6, (0, 1, 32, [])), (8, (0, 0, 2400, [])), (9, (0, 0, 79200, [])), (10, (0, 1, 32, []))], [(6, [10, 4], [1]), (1, [9, 3, 8], []), (10, [8, 7, 4], []), (9, [7, 2], [10]), (9, [6, 2], [11]), (20, [2, 4, 3], [60, 1, 1, 852, 11, 10]), (24, [0, 2], [])], [], [], [(20, [2, 10, 9], [60, 1, 1, 852, 11, 10])], [], [(10, 4, 1, 1), (10, 6, -4294967296, 0), (4, 6, -4294967296, -1)])
theorem oo_Pl_layRows_3 {kA : Nat → ClassId} : or_ok PRD kA GG o_Pl_layRows_3 := by
  refine or_mk fun A ta ws vs hD hth hl => ?_
  intro t0 r0 t3 k3 t4 k4 t6 k6 t8 k8 t9 k9 t10 k10 d0 d1 d4 f0 f1 f2 f3 f5 f9 f10
  replace f0 := shm_4 f0
  replace f1 := shm_12 f1
  replace f2 := shm_107 f2
  replace f3 := shm_106 f3
  replace f5 := shm_116 f5
  replace f9 := shm_1780 f9
  replace f10 := shm_5 f10
  have q2 : n_v vs 2 = n_v vs 0 := f10.symm
  simp only [q2] at f3 f5 f9
  have ad_7 : v_ad (n_v vs 7) = w_ar ws (n_v vs 0) 10 := congrArg v_ad f3
  simp only [ad_7] at f2
  have h2 : v_iv (n_v vs 8) = w_ei ws (w_ar ws (n_v vs 0) 10) (v_iv (n_v vs 4)) := f2
  have g5 : v_iv (n_v vs 6) = w_fi ws (n_v vs 0) 11 := congrArg v_iv f5
  have kz_0_11 := fdq_7 hD hth r0
  have nf0 : fc_1 PRD (20, [2, 10, 9], [60, 1, 1, 852, 11, 10]) ws (vs) := by
    refine ⟨nf_in hl rfl, sgq_1780 ?_⟩
    · show RT16 (w_fi ws (n_v vs 2) 11) (w_ei ws (w_ar ws (n_v vs 2) 10)) (v_iv (n_v vs 10)) (v_iv (n_v vs 9))
      rw [q2]
      exact vc_Pl_layRows_3_0 (v_iv (n_v vs 3)) (v_iv (n_v vs 4)) (v_iv (n_v vs 6)) (v_iv (n_v vs 8)) (v_iv (n_v vs 9)) (v_iv (n_v vs 10)) (w_ei ws (w_ar ws (n_v vs 0) 10)) (w_fi ws (n_v vs 0) 11) k3 k4 k6 k8 k9 k10 d0 d1 d4 f0 f1 h2 g5 f9 kz_0_11
  refine ⟨(fun _ h => (by cases h)), [], trivial, ?_, (fun _ h => (by cases h))⟩
  rw [List.append_nil]
  exact List.forall_mem_cons.mpr ⟨⟨show (20 : Nat) < 100 from by decide, nf0⟩, (fun _ h => (by cases h))⟩
set_option maxHeartbeats 4000000 in
theorem vc_Pl_layRows_4_0 (space_0 : Int → Int) (f0 : SPC (space_0)) : SPC (space_0) := by
  first
    | assumption
  
set_option maxHeartbeats 4000000 in
theorem vc_Pl_layRows_4_1 (area_0o1 : Int → Int) (f1 : BXA (area_0o1)) : BXA (area_0o1) := by
  first
    | assumption
  
def o_Pl_layRows_4 : or_T := (108, 8, [], [(20, [2], [60, 0, 1, 845, 12]), (20, [6], [60, 0, 1, 844, 13]), (24, [1, 6], []), (24, [0, 2], [])], [], [], [(20, [0], [60, 0, 1, 845, 12]), (20, [1], [60, 0, 1, 844, 13])], [], [])
theorem oo_Pl_layRows_4 {kA : Nat → ClassId} : or_ok PRD kA GG o_Pl_layRows_4 := by
  refine or_mk fun A ta ws vs hD hth hl => ?_
  intro f0 f1 f2 f4
  replace f0 := shm_885 f0
  replace f1 := shm_418 f1
  replace f2 := shm_5 f2
  replace f4 := shm_5 f4
  have q6 : n_v vs 6 = n_v vs 1 := f2.symm
  have q2 : n_v vs 2 = n_v vs 0 := f4.symm
  simp only [q2, q6] at f0 f1
  have nf0 : fc_1 PRD (20, [0], [60, 0, 1, 845, 12]) ws (vs) := ⟨nf_in hl rfl, sgq_885 (vc_Pl_layRows_4_0 (w_ei ws (w_ar ws (n_v vs 0) 12)) f0)⟩
  have nf1 : fc_1 PRD (20, [1], [60, 0, 1, 844, 13]) ws (vs) := ⟨nf_in hl rfl, sgq_418 (vc_Pl_layRows_4_1 (w_ei ws (w_ar ws (n_v vs 1) 13)) f1)⟩
  refine ⟨(fun _ h => (by cases h)), [], trivial, ?_, (fun _ h => (by cases h))⟩
  rw [List.append_nil]
  exact List.forall_mem_cons.mpr ⟨⟨show (20 : Nat) < 100 from by decide, nf0⟩, List.forall_mem_cons.mpr ⟨⟨show (20 : Nat) < 100 from by decide, nf1⟩, (fun _ h => (by cases h))⟩⟩
set_option maxHeartbeats 4000000 in
theorem vc_Pl_layRows_5_0 (space_0 : Int → Int) (f2 : SPC (space_0)) : SPC (space_0) := by
  first
    | assumption
  
set_option maxHeartbeats 4000000 in
theorem vc_Pl_layRows_5_1 (area_0o1 : Int → Int) (f3 : BXA (area_0o1)) : BXA (area_0o1) := by
  first
    | assumption
  
def o_Pl_layRows_5 : or_T := (108, 9, [], [(20, [2], [60, 0, 1, 845, 12]), (20, [6], [60, 0, 1, 844, 13]), (24, [1, 6], []), (24, [0, 2], [])], [], [], [(20, [0], [60, 0, 1, 845, 12]), (20, [1], [60, 0, 1, 844, 13])], [], [])
theorem oo_Pl_layRows_5 {kA : Nat → ClassId} : or_ok PRD kA GG o_Pl_layRows_5 := by
  refine or_mk fun A ta ws vs hD hth hl => ?_
  intro f2 f3 f4 f6
  replace f2 := shm_885 f2
  replace f3 := shm_418 f3
  replace f4 := shm_5 f4
  replace f6 := shm_5 f6
  have q6 : n_v vs 6 = n_v vs 1 := f4.symm
  have q2 : n_v vs 2 = n_v vs 0 := f6.symm
  simp only [q2, q6] at f2 f3
  have nf0 : fc_1 PRD (20, [0], [60, 0, 1, 845, 12]) ws (vs) := ⟨nf_in hl rfl, sgq_885 (vc_Pl_layRows_5_0 (w_ei ws (w_ar ws (n_v vs 0) 12)) f2)⟩
  have nf1 : fc_1 PRD (20, [1], [60, 0, 1, 844, 13]) ws (vs) := ⟨nf_in hl rfl, sgq_418 (vc_Pl_layRows_5_1 (w_ei ws (w_ar ws (n_v vs 1) 13)) f3)⟩
  refine ⟨(fun _ h => (by cases h)), [], trivial, ?_, (fun _ h => (by cases h))⟩
  rw [List.append_nil]
  exact List.forall_mem_cons.mpr ⟨⟨show (20 : Nat) < 100 from by decide, nf0⟩, List.forall_mem_cons.mpr ⟨⟨show (20 : Nat) < 100 from by decide, nf1⟩, (fun _ h => (by cases h))⟩⟩
set_option maxHeartbeats 4000000 in
theorem vc_Pl_layRows_6_0 (x4 : Int) (x8 : Int) (items_0 : Int) (itemSize_0 : Int → Int) (k4 : 0 ≤ x4 ∧ x4 ≤ 31) (k8 : 1 ≤ x8 ∧ x8 ≤ 32) (d0 : x8 + (-4294967296) ≤ x4 ∧ x4 ≤ x8 + (-1)) (g1 : x8 = items_0) (hK_0_10 : ∀ j : Int, 0 ≤ j → j < 32 → 0 ≤ itemSize_0 j ∧ itemSize_0 j ≤ 2400) (kz_0_11 : 0 ≤ items_0 ∧ items_0 ≤ 32) : (0 ≤ x4) ∧ ((x4 + 1) ≤ items_0) := by
  first
    | omega
    | (have q := rt1_bd ‹RT16 _ _ _ _› (fun j a b => by have := hK_0_10 j a b; omega); omega)
    | (have q := rt3_bd ‹RT36 _ _ _ _ _ _ _› (fun j a b => by have := hK_0_10 j a b; omega); omega)
  
def o_Pl_layRows_6 : or_T := (48, 9, [(0, (2, 0, 0, [6])), (4, (0, 0, 31, [])), (8, (0, 1, 32, []))], [(9, [8, 2], [11]), (24, [0, 2], [])], [], [], [(20, [4, 2], [50, 1, 0, 1011, 2, 6, 0, 2, 0, 0, 1, 0, 0, 6, 4, 2, 1, 0, 0, 1, 2, 1, 11])], [], [(4, 8, -4294967296, -1)])
theorem oo_Pl_layRows_6 {kA : Nat → ClassId} : or_ok PRD kA GG o_Pl_layRows_6 := by
  refine or_mk fun A ta ws vs hD hth hl => ?_
  intro t0 r0 t4 k4 t8 k8 d0 f1 f6
  replace f1 := shm_116 f1
  replace f6 := shm_5 f6
  have q2 : n_v vs 2 = n_v vs 0 := f6.symm
  simp only [q2] at f1
  have cr_0_10 := fdq_9 hD hth r0
  have g1 : v_iv (n_v vs 8) = w_fi ws (n_v vs 0) 11 := congrArg v_iv f1
  have hK_0_10 := elq_138 hD hth cr_0_10
  have kz_0_11 := fdq_7 hD hth r0
  have nf0 : fc_1 PRD (20, [4, 2], [50, 1, 0, 1011, 2, 6, 0, 2, 0, 0, 1, 0, 0, 6, 4, 2, 1, 0, 0, 1, 2, 1, 11]) ws (vs) := by
    refine ⟨nf_in hl rfl, sgq_1517 ?_⟩
    · show (0 ≤ v_iv (n_v vs 4)) ∧ ((v_iv (n_v vs 4) + 1) ≤ w_fi ws (n_v vs 2) 11)
      rw [q2]
      exact vc_Pl_layRows_6_0 (v_iv (n_v vs 4)) (v_iv (n_v vs 8)) (w_fi ws (n_v vs 0) 11) (w_ei ws (w_ar ws (n_v vs 0) 10)) k4 k8 d0 g1 hK_0_10 kz_0_11
  refine ⟨(fun _ h => (by cases h)), [], trivial, ?_, (fun _ h => (by cases h))⟩
  rw [List.append_nil]
  exact List.forall_mem_cons.mpr ⟨⟨show (20 : Nat) < 100 from by decide, nf0⟩, (fun _ h => (by cases h))⟩
set_option maxHeartbeats 4000000 in
theorem vc_Pl_layRows_7_0 (x3 : Int) (x4 : Int) (x9 : Int) (x10 : Int) (items_0 : Int) (itemSize_0 : Int → Int) (k3 : (-76800) ≤ x3 ∧ x3 ≤ 79200) (k4 : 0 ≤ x4 ∧ x4 ≤ 31) (k9 : 1 ≤ x9 ∧ x9 ≤ 32) (k10 : 0 ≤ x10 ∧ x10 ≤ 0) (f5 : RT26 (items_0) (itemSize_0) (x4) (x3)) (f7 : ((x4 + 1) ≤ x9) ∧ (x9 ≤ items_0)) (kz_0_11 : 0 ≤ items_0 ∧ items_0 ≤ 32) : RT36 (items_0) (itemSize_0) (x4) (x9) (x4) (x10) (x3) := by
  first
    | exact rt3_start ‹RT26 _ _ _ _› (by omega) (by omega) (by omega) (by omega)
    | exact rt3_step ‹RT36 _ _ _ _ _ _ _› (by omega) (by assumption) (by omega) (by omega)
  
def o_Pl_layRows_7 : or_T := (59, 11, [(0, (2, 0, 0, [6])), (3, (0, -76800, 79200, [])), (4, (0, 0, 31, [])), (9, (0, 1, 32, [])), (10, (0, 0, 0, []))], [(20, [2, 4, 3], [60, 1, 1, 853, 11, 10]), (24, [0, 2], []), (20, [4, 9, 2], [50, 1, 0, 2011, 2, 10, 0, 6, 4, 2, 1, 0, 0, 1, 1, 1, 0, 2, 1, 1, 2, 2, 11])], [], [], [(20, [2, 4, 9, 4, 10, 3], [60, 1, 1, 854, 11, 10])], [], [])
theorem oo_Pl_layRows_7 {kA : Nat → ClassId} : or_ok PRD kA GG o_Pl_layRows_7 := by
  refine or_mk fun A ta ws vs hD hth hl => ?_
  intro t0 r0 t3 k3 t4 k4 t9 k9 t10 k10 f5 f6 f7
  replace f5 := shm_1781 f5
  replace f6 := shm_5 f6
  replace f7 := shm_1518 f7
  have q2 : n_v vs 2 = n_v vs 0 := f6.symm
  simp only [q2] at f5 f7
  have kz_0_11 := fdq_7 hD hth r0
  have nf0 : fc_1 PRD (20, [2, 4, 9, 4, 10, 3], [60, 1, 1, 854, 11, 10]) ws (vs) := by
    refine ⟨nf_in hl rfl, sgq_1782 ?_⟩
    · show RT36 (w_fi ws (n_v vs 2) 11) (w_ei ws (w_ar ws (n_v vs 2) 10)) (v_iv (n_v vs 4)) (v_iv (n_v vs 9)) (v_iv (n_v vs 4)) (v_iv (n_v vs 10)) (v_iv (n_v vs 3))
      rw [q2]
      exact vc_Pl_layRows_7_0 (v_iv (n_v vs 3)) (v_iv (n_v vs 4)) (v_iv (n_v vs 9)) (v_iv (n_v vs 10)) (w_fi ws (n_v vs 0) 11) (w_ei ws (w_ar ws (n_v vs 0) 10)) k3 k4 k9 k10 f5 f7 kz_0_11
  refine ⟨(fun _ h => (by cases h)), [], trivial, ?_, (fun _ h => (by cases h))⟩
  rw [List.append_nil]
  exact List.forall_mem_cons.mpr ⟨⟨show (20 : Nat) < 100 from by decide, nf0⟩, (fun _ h => (by cases h))⟩
set_option maxHeartbeats 4000000 in
theorem vc_Pl_layRows_8_0 (x3 : Int) (x4 : Int) (x6 : Int) (x7 : Int) (x8 : Int) (itemSize_0 : Int → Int) (items_0 : Int) (k3 : (-76800) ≤ x3 ∧ x3 ≤ 79200) (k4 : 0 ≤ x4 ∧ x4 ≤ 31) (k6 : 1 ≤ x6 ∧ x6 ≤ 32) (k7 : 0 ≤ x7 ∧ x7 ≤ 79200) (k8 : 1 ≤ x8 ∧ x8 ≤ 32) (f0 : x6 ≤ x8) (f4 : RT36 (items_0) (itemSize_0) (x4) (x6) (x8) (x7) (x3)) (hK_0_10 : ∀ j : Int, 0 ≤ j → j < 32 → 0 ≤ itemSize_0 j ∧ itemSize_0 j ≤ 2400) (kz_0_11 : 0 ≤ items_0 ∧ items_0 ≤ 32) : RWS6 (itemSize_0) (x4) (x6) (x7) (x3) := by
  first
    | exact rt3_rws ‹RT36 _ _ _ _ _ _ _› (by omega) (fun j a b => by have := hK_0_10 j a b; omega)
  
def o_Pl_layRows_8 : or_T := (91, 10, [(0, (2, 0, 0, [6])), (3, (0, -76800, 79200, [])), (4, (0, 0, 31, [])), (6, (0, 1, 32, [])), (7, (0, 0, 79200, [])), (8, (0, 1, 32, []))], [(7, [8, 6], [3]), (20, [2, 4, 6, 8, 7, 3], [60, 1, 1, 854, 11, 10]), (24, [0, 2], [])], [], [], [(20, [2, 4, 6, 7, 3], [60, 0, 1, 848, 10])], [], [])
theorem oo_Pl_layRows_8 {kA : Nat → ClassId} : or_ok PRD kA GG o_Pl_layRows_8 := by
  refine or_mk fun A ta ws vs hD hth hl => ?_
  intro t0 r0 t3 k3 t4 k4 t6 k6 t7 k7 t8 k8 f0 f4 f5
  replace f0 := shm_2 f0
  replace f4 := shm_1783 f4
  replace f5 := shm_5 f5
  have q2 : n_v vs 2 = n_v vs 0 := f5.symm
  simp only [q2] at f4
  have cr_0_10 := fdq_9 hD hth r0
  have hK_0_10 := elq_138 hD hth cr_0_10
  have kz_0_11 := fdq_7 hD hth r0
  have nf0 : fc_1 PRD (20, [2, 4, 6, 7, 3], [60, 0, 1, 848, 10]) ws (vs) := by
    refine ⟨nf_in hl rfl, sgq_886 ?_⟩
    · show RWS6 (w_ei ws (w_ar ws (n_v vs 2) 10)) (v_iv (n_v vs 4)) (v_iv (n_v vs 6)) (v_iv (n_v vs 7)) (v_iv (n_v vs 3))
      rw [q2]
      exact vc_Pl_layRows_8_0 (v_iv (n_v vs 3)) (v_iv (n_v vs 4)) (v_iv (n_v vs 6)) (v_iv (n_v vs 7)) (v_iv (n_v vs 8)) (w_ei ws (w_ar ws (n_v vs 0) 10)) (w_fi ws (n_v vs 0) 11) k3 k4 k6 k7 k8 f0 f4 hK_0_10 kz_0_11
  refine ⟨(fun _ h => (by cases h)), [], trivial, ?_, (fun _ h => (by cases h))⟩
  rw [List.append_nil]
  exact List.forall_mem_cons.mpr ⟨⟨show (20 : Nat) < 100 from by decide, nf0⟩, (fun _ h => (by cases h))⟩
set_option maxHeartbeats 4000000 in
theorem vc_Pl_layRows_9_r0 (x3 : Int) (x4 : Int) (x6 : Int) (x7 : Int) (x8 : Int) (itemSize_0 : Int → Int) (items_0 : Int) (k3 : (-76800) ≤ x3 ∧ x3 ≤ 79200) (k4 : 0 ≤ x4 ∧ x4 ≤ 31) (k6 : 1 ≤ x6 ∧ x6 ≤ 32) (k7 : 0 ≤ x7 ∧ x7 ≤ 79200) (k8 : 1 ≤ x8 ∧ x8 ≤ 32) (f2 : RT36 (items_0) (itemSize_0) (x4) (x6) (x8) (x7) (x3)) (hK_0_10 : ∀ j : Int, 0 ≤ j → j < 32 → 0 ≤ itemSize_0 j ∧ itemSize_0 j ≤ 2400) (kz_0_11 : 0 ≤ items_0 ∧ items_0 ≤ 32) : 0 ≤ x3 ∧ x3 ≤ 76800 := by
  first
    | omega
    | (have q := rt1_bd ‹RT16 _ _ _ _› (fun j a b => by have := hK_0_10 j a b; omega); omega)
    | (have q := rt3_bd ‹RT36 _ _ _ _ _ _ _› (fun j a b => by have := hK_0_10 j a b; omega); omega)
  
set_option maxHeartbeats 4000000 in
theorem vc_Pl_layRows_9_r1 (x3 : Int) (x4 : Int) (x6 : Int) (x7 : Int) (x8 : Int) (itemSize_0 : Int → Int) (items_0 : Int) (k3 : (-76800) ≤ x3 ∧ x3 ≤ 79200) (k4 : 0 ≤ x4 ∧ x4 ≤ 31) (k6 : 1 ≤ x6 ∧ x6 ≤ 32) (k7 : 0 ≤ x7 ∧ x7 ≤ 79200) (k8 : 1 ≤ x8 ∧ x8 ≤ 32) (f2 : RT36 (items_0) (itemSize_0) (x4) (x6) (x8) (x7) (x3)) (hK_0_10 : ∀ j : Int, 0 ≤ j → j < 32 → 0 ≤ itemSize_0 j ∧ itemSize_0 j ≤ 2400) (kz_0_11 : 0 ≤ items_0 ∧ items_0 ≤ 32) : 0 ≤ x7 ∧ x7 ≤ 76800 := by
  first
    | omega
    | (have q := rt1_bd ‹RT16 _ _ _ _› (fun j a b => by have := hK_0_10 j a b; omega); omega)
    | (have q := rt3_bd ‹RT36 _ _ _ _ _ _ _› (fun j a b => by have := hK_0_10 j a b; omega); omega)
  
def o_Pl_layRows_9 : or_T := (97, 10, [(0, (2, 0, 0, [6])), (1, (2, 0, 0, [0])), (2, (2, 0, 0, [6])), (3, (0, -76800, 79200, [])), (4, (0, 0, 31, [])), (6, (0, 1, 32, [])), (7, (0, 0, 79200, [])), (8, (0, 1, 32, [])), (9, (2, 0, 0, [0]))], [(20, [2, 4, 6, 7, 3], [60, 0, 1, 848, 10]), (24, [1, 9], []), (20, [2, 4, 6, 8, 7, 3], [60, 1, 1, 854, 11, 10]), (24, [0, 2], []), (20, [2], [60, 0, 1, 845, 12]), (20, [9], [60, 0, 1, 844, 13]), (102, [9], [158456325028528675187092094976]), (7, [8, 6], [3])], [(3, (0, 0, 76800, [])), (7, (0, 0, 76800, []))], [], [], [], [(8, 6, 0, 4294967296), (4, 8, -4294967296, 0)])
theorem oo_Pl_layRows_9 {kA : Nat → ClassId} : or_ok PRD kA GG o_Pl_layRows_9 := by
  refine or_mk fun A ta ws vs hD hth hl => ?_
  intro t0 r0 t1 r1 t2 r2 t3 k3 t4 k4 t6 k6 t7 k7 t8 k8 t9 r9 d0 d1 f0 f1 f2 f3 f4 f5 ta1 w1 le1 s1 f7
  replace f2 := shm_1783 f2
  replace f3 := shm_5 f3
  have q2 : n_v vs 2 = n_v vs 0 := f3.symm
  simp only [q2] at f2
  have cr_0_10 := fdq_9 hD hth r0
  have hK_0_10 := elq_138 hD hth cr_0_10
  have kz_0_11 := fdq_7 hD hth r0
  have hrf0 : 0 ≤ v_iv (n_v vs 3) ∧ v_iv (n_v vs 3) ≤ 76800 := vc_Pl_layRows_9_r0 (v_iv (n_v vs 3)) (v_iv (n_v vs 4)) (v_iv (n_v vs 6)) (v_iv (n_v vs 7)) (v_iv (n_v vs 8)) (w_ei ws (w_ar ws (n_v vs 0) 10)) (w_fi ws (n_v vs 0) 11) k3 k4 k6 k7 k8 f2 hK_0_10 kz_0_11
  have hrf1 : 0 ≤ v_iv (n_v vs 7) ∧ v_iv (n_v vs 7) ≤ 76800 := vc_Pl_layRows_9_r1 (v_iv (n_v vs 3)) (v_iv (n_v vs 4)) (v_iv (n_v vs 6)) (v_iv (n_v vs 7)) (v_iv (n_v vs 8)) (w_ei ws (w_ar ws (n_v vs 0) 10)) (w_fi ws (n_v vs 0) 11) k3 k4 k6 k7 k8 f2 hK_0_10 kz_0_11
  have rf3 : tv_ok ta (0, 0, 76800, []) (n_v vs 3) := tv_in t3 (by first | omega | grind) (by first | omega | grind)
  have rf7 : tv_ok ta (0, 0, 76800, []) (n_v vs 7) := tv_in t7 (by first | omega | grind) (by first | omega | grind)
  refine ⟨List.forall_mem_cons.mpr ⟨rf3, List.forall_mem_cons.mpr ⟨rf7, (fun _ h => (by cases h))⟩⟩, [], trivial, ?_, (fun _ h => (by cases h))⟩
  rw [List.append_nil]
  exact (fun _ h => (by cases h))
set_option maxHeartbeats 4000000 in
theorem vc_Pl_layRows_10_0 (x3 : Int) (x4 : Int) (x6 : Int) (x7 : Int) (x8 : Int) (x10 : Int) (itemSize_0 : Int → Int) (items_0 : Int) (k3 : 0 ≤ x3 ∧ x3 ≤ 76800) (k4 : 0 ≤ x4 ∧ x4 ≤ 31) (k6 : 1 ≤ x6 ∧ x6 ≤ 32) (k7 : 0 ≤ x7 ∧ x7 ≤ 76800) (k8 : 1 ≤ x8 ∧ x8 ≤ 32) (k10 : (-76800) ≤ x10 ∧ x10 ≤ 76800) (f0 : x10 = x3 - x7) (f3 : RT36 (items_0) (itemSize_0) (x4) (x6) (x8) (x7) (x3)) (f8 : x6 ≤ x8) (kz_0_11 : 0 ≤ items_0 ∧ items_0 ≤ 32) : RT26 (items_0) (itemSize_0) (x6) (x10) := by
  first
    | exact rt2_start ‹RT16 _ _ _ _› (by omega) (by omega)
    | exact rt2_next ‹RT36 _ _ _ _ _ _ _› (by omega) (by omega) (by omega)
  
def o_Pl_layRows_10 : or_T := (31, 12, [(0, (2, 0, 0, [6])), (3, (0, 0, 76800, [])), (4, (0, 0, 31, [])), (6, (0, 1, 32, [])), (7, (0, 0, 76800, [])), (8, (0, 1, 32, [])), (10, (0, -76800, 76800, []))], [(2, [10, 3, 7], []), (20, [2, 4, 6, 8, 7, 3], [60, 1, 1, 854, 11, 10]), (24, [0, 2], []), (102, [9], [158456325028528675187092094976]), (7, [8, 6], [3])], [], [], [(20, [2, 6, 10], [60, 1, 1, 853, 11, 10])], [], [])
theorem oo_Pl_layRows_10 {kA : Nat → ClassId} : or_ok PRD kA GG o_Pl_layRows_10 := by
  refine or_mk fun A ta ws vs hD hth hl => ?_
  intro t0 r0 t3 k3 t4 k4 t6 k6 t7 k7 t8 k8 t10 k10 f0 f3 f4 ta1 w1 le1 s1 f8
  replace f0 := shm_14 f0
  replace f3 := shm_1783 f3
  replace f4 := shm_5 f4
  replace f8 := shm_2 f8
  have q2 : n_v vs 2 = n_v vs 0 := f4.symm
  simp only [q2] at f3
  have kz_0_11 := fdq_7 hD hth r0
  have nf0 : fc_1 PRD (20, [2, 6, 10], [60, 1, 1, 853, 11, 10]) ws (vs) := by
    refine ⟨nf_in hl rfl, sgq_1781 ?_⟩
    · show RT26 (w_fi ws (n_v vs 2) 11) (w_ei ws (w_ar ws (n_v vs 2) 10)) (v_iv (n_v vs 6)) (v_iv (n_v vs 10))
      rw [q2]
      exact vc_Pl_layRows_10_0 (v_iv (n_v vs 3)) (v_iv (n_v vs 4)) (v_iv (n_v vs 6)) (v_iv (n_v vs 7)) (v_iv (n_v vs 8)) (v_iv (n_v vs 10)) (w_ei ws (w_ar ws (n_v vs 0) 10)) (w_fi ws (n_v vs 0) 11) k3 k4 k6 k7 k8 k10 f0 f3 f8 kz_0_11
  refine ⟨(fun _ h => (by cases h)), [], trivial, ?_, (fun _ h => (by cases h))⟩
  rw [List.append_nil]
  exact List.forall_mem_cons.mpr ⟨⟨show (20 : Nat) < 100 from by decide, nf0⟩, (fun _ h => (by cases h))⟩
set_option maxHeartbeats 4000000 in
theorem vc_Pl_layRows_11_r0 (x3 : Int) (x4 : Int) (x6 : Int) (x7 : Int) (x8 : Int) (itemSize_0 : Int → Int) (items_0 : Int) (k3 : (-76800) ≤ x3 ∧ x3 ≤ 79200) (k4 : 0 ≤ x4 ∧ x4 ≤ 31) (k6 : 1 ≤ x6 ∧ x6 ≤ 32) (k7 : 0 ≤ x7 ∧ x7 ≤ 79200) (k8 : 0 ≤ x8 ∧ x8 ≤ 31) (f6 : RT36 (items_0) (itemSize_0) (x4) (x6) (x8) (x7) (x3)) (hK_0_10 : ∀ j : Int, 0 ≤ j → j < 32 → 0 ≤ itemSize_0 j ∧ itemSize_0 j ≤ 2400) (kz_0_11 : 0 ≤ items_0 ∧ items_0 ≤ 32) : 0 ≤ x7 ∧ x7 ≤ 76800 := by
  first
    | omega
    | (have q := rt1_bd ‹RT16 _ _ _ _› (fun j a b => by have := hK_0_10 j a b; omega); omega)
    | (have q := rt3_bd ‹RT36 _ _ _ _ _ _ _› (fun j a b => by have := hK_0_10 j a b; omega); omega)
  
def o_Pl_layRows_11 : or_T := (75, 12, [(0, (2, 0, 0, [6])), (1, (2, 0, 0, [0])), (2, (2, 0, 0, [6])), (3, (0, -76800, 79200, [])), (4, (0, 0, 31, [])), (6, (0, 1, 32, [])), (7, (0, 0, 79200, [])), (8, (0, 0, 31, [])), (9, (2, 0, 0, [0])), (10, (2, 0, 0, [96])), (11, (0, 0, 2400, []))], [(10, [11, 10, 8], []), (9, [10, 2], [10]), (7, [8, 6], [2]), (20, [2], [60, 0, 1, 845, 12]), (20, [9], [60, 0, 1, 844, 13]), (24, [1, 9], []), (20, [2, 4, 6, 8, 7, 3], [60, 1, 1, 854, 11, 10]), (24, [0, 2], [])], [(7, (0, 0, 76800, []))], [], [], [], [(8, 6, -4294967296, -1), (4, 8, -4294967296, 0)])
theorem oo_Pl_layRows_11 {kA : Nat → ClassId} : or_ok PRD kA GG o_Pl_layRows_11 := by
  refine or_mk fun A ta ws vs hD hth hl => ?_
  intro t0 r0 t1 r1 t2 r2 t3 k3 t4 k4 t6 k6 t7 k7 t8 k8 t9 r9 t10 r10 t11 k11 d0 d1 f0 f1 f2 f3 f4 f5 f6 f7
  replace f6 := shm_1783 f6
  replace f7 := shm_5 f7
  have q2 : n_v vs 2 = n_v vs 0 := f7.symm
  simp only [q2] at f6
  have cr_0_10 := fdq_9 hD hth r0
  have hK_0_10 := elq_138 hD hth cr_0_10
  have kz_0_11 := fdq_7 hD hth r0
  have hrf0 : 0 ≤ v_iv (n_v vs 7) ∧ v_iv (n_v vs 7) ≤ 76800 := vc_Pl_layRows_11_r0 (v_iv (n_v vs 3)) (v_iv (n_v vs 4)) (v_iv (n_v vs 6)) (v_iv (n_v vs 7)) (v_iv (n_v vs 8)) (w_ei ws (w_ar ws (n_v vs 0) 10)) (w_fi ws (n_v vs 0) 11) k3 k4 k6 k7 k8 f6 hK_0_10 kz_0_11
  have rf7 : tv_ok ta (0, 0, 76800, []) (n_v vs 7) := tv_in t7 (by first | omega | grind) (by first | omega | grind)
  refine ⟨List.forall_mem_cons.mpr ⟨rf7, (fun _ h => (by cases h))⟩, [], trivial, ?_, (fun _ h => (by cases h))⟩
  rw [List.append_nil]
  exact (fun _ h => (by cases h))
set_option maxHeartbeats 4000000 in
theorem vc_Pl_layRows_12_0 (x3 : Int) (x4 : Int) (x6 : Int) (x7 : Int) (x8 : Int) (x11 : Int) (x12 : Int) (x13 : Int) (itemSize_0 : Int → Int) (items_0 : Int) (k3 : (-76800) ≤ x3 ∧ x3 ≤ 79200) (k4 : 0 ≤ x4 ∧ x4 ≤ 31) (k6 : 1 ≤ x6 ∧ x6 ≤ 32) (k7 : 0 ≤ x7 ∧ x7 ≤ 76800) (k8 : 0 ≤ x8 ∧ x8 ≤ 31) (k11 : 0 ≤ x11 ∧ x11 ≤ 2400) (k12 : 0 ≤ x12 ∧ x12 ≤ 79200) (k13 : 1 ≤ x13 ∧ x13 ≤ 32) (f0 : x13 = x8 + 1) (f1 : x12 = x7 + x11) (h2 : x11 = itemSize_0 (x8)) (f4 : x8 < x6) (f8 : RT36 (items_0) (itemSize_0) (x4) (x6) (x8) (x7) (x3)) (kz_0_11 : 0 ≤ items_0 ∧ items_0 ≤ 32) : RT36 (items_0) (itemSize_0) (x4) (x6) (x13) (x12) (x3) := by
  first
    | exact rt3_start ‹RT26 _ _ _ _› (by omega) (by omega) (by omega) (by omega)
    | exact rt3_step ‹RT36 _ _ _ _ _ _ _› (by omega) (by assumption) (by omega) (by omega)
  
def o_Pl_layRows_12 : or_T := (59, 14, [(0, (2, 0, 0, [6])), (3, (0, -76800, 79200, [])), (4, (0, 0, 31, [])), (6, (0, 1, 32, [])), (7, (0, 0, 76800, [])), (8, (0, 0, 31, [])), (11, (0, 0, 2400, [])), (12, (0, 0, 79200, [])), (13, (0, 1, 32, []))], [(6, [13, 8], [1]), (1, [12, 7, 11], []), (10, [11, 10, 8], []), (9, [10, 2], [10]), (7, [8, 6], [2]), (20, [2, 4, 6, 8, 7, 3], [60, 1, 1, 854, 11, 10]), (24, [0, 2], [])], [], [], [(20, [2, 4, 6, 13, 12, 3], [60, 1, 1, 854, 11, 10])], [], [])
theorem oo_Pl_layRows_12 {kA : Nat → ClassId} : or_ok PRD kA GG o_Pl_layRows_12 := by
  refine or_mk fun A ta ws vs hD hth hl => ?_
  intro t0 r0 t3 k3 t4 k4 t6 k6 t7 k7 t8 k8 t11 k11 t12 k12 t13 k13 f0 f1 f2 f3 f4 f8 f9
  replace f0 := shm_4 f0
  replace f1 := shm_12 f1
  replace f2 := shm_107 f2
  replace f3 := shm_106 f3
  replace f4 := shm_6 f4
  replace f8 := shm_1783 f8
  replace f9 := shm_5 f9
  have q2 : n_v vs 2 = n_v vs 0 := f9.symm
  simp only [q2] at f3 f8
  have ad_10 : v_ad (n_v vs 10) = w_ar ws (n_v vs 0) 10 := congrArg v_ad f3
  simp only [ad_10] at f2
  have h2 : v_iv (n_v vs 11) = w_ei ws (w_ar ws (n_v vs 0) 10) (v_iv (n_v vs 8)) := f2
  have kz_0_11 := fdq_7 hD hth r0
  have nf0 : fc_1 PRD (20, [2, 4, 6, 13, 12, 3], [60, 1, 1, 854, 11, 10]) ws (vs) := by
    refine ⟨nf_in hl rfl, sgq_1783 ?_⟩
    · show RT36 (w_fi ws (n_v vs 2) 11) (w_ei ws (w_ar ws (n_v vs 2) 10)) (v_iv (n_v vs 4)) (v_iv (n_v vs 6)) (v_iv (n_v vs 13)) (v_iv (n_v vs 12)) (v_iv (n_v vs 3))
      rw [q2]
      exact vc_Pl_layRows_12_0 (v_iv (n_v vs 3)) (v_iv (n_v vs 4)) (v_iv (n_v vs 6)) (v_iv (n_v vs 7)) (v_iv (n_v vs 8)) (v_iv (n_v vs 11)) (v_iv (n_v vs 12)) (v_iv (n_v vs 13)) (w_ei ws (w_ar ws (n_v vs 0) 10)) (w_fi ws (n_v vs 0) 11) k3 k4 k6 k7 k8 k11 k12 k13 f0 f1 h2 f4 f8 kz_0_11
  refine ⟨(fun _ h => (by cases h)), [], trivial, ?_, (fun _ h => (by cases h))⟩
  rw [List.append_nil]
  exact List.forall_mem_cons.mpr ⟨⟨show (20 : Nat) < 100 from by decide, nf0⟩, (fun _ h => (by cases h))⟩
def n_Pl_layRows_an : List an_T := [(4, [(0, (2, 0, 0, [6])), (1, (0, 0, 79200, [])), (2, (0, 0, 32, []))], [], (0, 0), [(0, 0, 99996), (1, 4, 32), (0, 0, 100000), (0, 0, 0), (0, 0, 0)], [], [((0, 1), (2, 0, 0, [0]))], [(2, 0, 0, [6]), (2, 0, 0, [0])], 0, [], [(20, [2], [60, 0, 1, 845, 12]), (20, [5], [60, 0, 1, 844, 13]), (24, [1, 5], []), (20, [2, 4, 3], [60, 1, 1, 852, 11, 10]), (24, [0, 2], [])]), (31, [(0, (2, 0, 0, [6])), (1, (0, (Int.negSucc 76799), 79200, [])), (2, (0, 0, 32, [])), (3, (0, 0, 32, []))], [], (0, 0), [(0, 0, 99969), (1, 5, 32), (0, 0, 100000), (0, 0, 0), (0, 0, 0)], [], [((0, 1), (2, 0, 0, [0]))], [(2, 0, 0, [6]), (2, 0, 0, [0])], 0, [], [(20, [2], [60, 0, 1, 845, 12]), (20, [6], [60, 0, 1, 844, 13]), (24, [1, 6], []), (20, [2, 4, 3], [60, 1, 1, 853, 11, 10]), (24, [0, 2], [])]), (59, [(0, (2, 0, 0, [6])), (1, (0, (Int.negSucc 76799), 79200, [])), (2, (0, 0, 31, [])), (3, (0, 0, 31, [])), (4, (0, 1, 32, [])), (5, (0, 0, 79200, [])), (6, (0, 0, 32, []))], [], (0, 0), [(0, 0, 99969), (1, 5, 32), (0, 0, 99941), (1, 8, 32), (0, 0, 100000)], [(4, 8, (Int.negSucc 999999999999), 0)], [((0, 1), (2, 0, 0, [0]))], [(2, 0, 0, [6]), (2, 0, 0, [0])], 0, [], [(20, [2], [60, 0, 1, 845, 12]), (20, [9], [60, 0, 1, 844, 13]), (24, [1, 9], []), (20, [2, 4, 6, 8, 7, 3], [60, 1, 1, 854, 11, 10]), (24, [0, 2], [])])]
def t_Pl_layRows_ct : ct_L := [(1, 197, e_Pl_endOfRow), (1, 200, e_Pl_layRow)]
set_option maxRecDepth 100000 in
theorem c_Pl_layRows {l : Launch} {D : va_G} {kA : Nat → ClassId} (h_Pl_endOfRow : ct_ok PRD l D kA GG y_Pl_endOfRow z_Pl_endOfRow e_Pl_endOfRow) (h_Pl_layRow : ct_ok PRD l D kA GG y_Pl_layRow z_Pl_layRow e_Pl_layRow) : ct_ok PRD l D kA GG y_Pl_layRows z_Pl_layRows e_Pl_layRows := chk_all_ok (FT := [(45, 6, 10), (48, 6, 11)]) (PT := []) (CT := t_Pl_layRows_ct) (KT := []) (NT := []) (AN := n_Pl_layRows_an) (OT := [o_Pl_layRows_0, o_Pl_layRows_1, o_Pl_layRows_2, o_Pl_layRows_3, o_Pl_layRows_4, o_Pl_layRows_5, o_Pl_layRows_6, o_Pl_layRows_7, o_Pl_layRows_8, o_Pl_layRows_9, o_Pl_layRows_10, o_Pl_layRows_11, o_Pl_layRows_12]) 5 260 (List.forall_mem_cons.mpr ⟨oo_Pl_layRows_0, List.forall_mem_cons.mpr ⟨oo_Pl_layRows_1, List.forall_mem_cons.mpr ⟨oo_Pl_layRows_2, List.forall_mem_cons.mpr ⟨oo_Pl_layRows_3, List.forall_mem_cons.mpr ⟨oo_Pl_layRows_4, List.forall_mem_cons.mpr ⟨oo_Pl_layRows_5, List.forall_mem_cons.mpr ⟨oo_Pl_layRows_6, List.forall_mem_cons.mpr ⟨oo_Pl_layRows_7, List.forall_mem_cons.mpr ⟨oo_Pl_layRows_8, List.forall_mem_cons.mpr ⟨oo_Pl_layRows_9, List.forall_mem_cons.mpr ⟨oo_Pl_layRows_10, List.forall_mem_cons.mpr ⟨oo_Pl_layRows_11, List.forall_mem_cons.mpr ⟨oo_Pl_layRows_12, List.forall_mem_nil _⟩⟩⟩⟩⟩⟩⟩⟩⟩⟩⟩⟩⟩) (by decide +kernel) ⟨List.forall_mem_cons.mpr ⟨gf_Pl_45, List.forall_mem_cons.mpr ⟨gf_Pl_48, List.forall_mem_nil _⟩⟩, List.forall_mem_nil _, List.forall_mem_cons.mpr ⟨cl_virtual (y := y_Pl_endOfRow) (ci := 6) rfl rfl ⟨_, _, rfl⟩ (by decide +kernel) h_Pl_endOfRow wm_1743 wm_21 wm_1740 wm_1742 wv_8_1 ⟨by decide, by decide, by decide +kernel⟩ (by decide), List.forall_mem_cons.mpr ⟨cl_virtual (y := y_Pl_layRow) (ci := 6) rfl rfl ⟨_, _, rfl⟩ (by decide +kernel) h_Pl_layRow wm_1757 wm_21 wm_1754 wm_1756 wv_8_3 ⟨by decide, by decide, by decide +kernel⟩ (by decide), List.forall_mem_nil _⟩⟩, List.forall_mem_nil _, List.forall_mem_nil _, GG_pl⟩ (by decide +kernel)

set_option maxHeartbeats 4000000 in
theorem vc_Pl_layTree_0_0 (x8 : Int) (x9 : Int) (part_0o1 : Int → Int) (order_0 : Int → Int) (k8 : 0 ≤ x8 ∧ x8 ≤ 0) (k9 : 0 ≤ x9 ∧ x9 ≤ 0) : WTB (order_0) (part_0o1) (x8) (x9) := by
  first
    | assumption
    | exact wtb_start (by omega)
    | (rw [show gy = x12 by omega]; exact ‹WTB _ _ _ _›)
    | (rw [show x21 = x19 + 1 by omega]; exact ‹WTA _ _ _ _›)
    | (rw [show x23 = x21 + 1 by omega]; exact ‹WTA _ _ _ _›)
    | (rw [show x22 = x20 + 1 by omega]; exact ‹WTA _ _ _ _›)
  
set_option maxHeartbeats 4000000 in
theorem vc_Pl_layTree_0_1 (x8 : Int) (x9 : Int) (part_0o1 : Int → Int) (nodes_0o3 : Int) (parts_0o1 : Int) (order_0 : Int → Int) (level_0 : Int → Int) (parent_0 : Int → Int) (k8 : 0 ≤ x8 ∧ x8 ≤ 0) (k9 : 0 ≤ x9 ∧ x9 ≤ 0) (f1 : FPA (nodes_0o3) (parts_0o1) (part_0o1)) (kz_1_1 : 0 ≤ parts_0o1 ∧ parts_0o1 ≤ 24) (kz_3_0 : 0 ≤ nodes_0o3 ∧ nodes_0o3 ≤ 24) : TQB (nodes_0o3) (order_0) (parent_0) (level_0) (part_0o1) (x8) (x9) := by
  first
    | assumption
    | exact tqb_start (by omega) (by omega) (fun v a b => ((‹FPA _ _ _›).2 v a b).1)
    | (rw [show gy = x12 by omega]; exact ‹TQB _ _ _ _ _ _ _›)
    | (rw [show x21 = x19 + 1 by omega]; exact ‹TQA _ _ _ _ _ _ _›)
    | (rw [show x23 = x21 + 1 by omega]; exact ‹TQA _ _ _ _ _ _ _›)
    | (rw [show x22 = x20 + 1 by omega]; exact ‹TQA _ _ _ _ _ _ _›)
  
def o_Pl_layTree_0 : or_T := (8, 10, [(1, (2, 0, 0, [2])), (3, (2, 0, 0, [3])), (8, (0, 0, 0, [])), (9, (0, 0, 0, []))], [(20, [3, 1], [60, 2, 1, 672, 0, 1001, 1004])], [], [], [(20, [0, 1, 8, 9], [60, 0, 2, 678, 2, 1004]), (20, [0, 3, 1, 8, 9], [60, 1, 4, 855, 1000, 2, 5, 4, 2004]), (24, [0, 0], [])], [], [])
theorem oo_Pl_layTree_0 {kA : Nat → ClassId} : or_ok PRD kA GG o_Pl_layTree_0 := by
  refine or_mk fun A ta ws vs hD hth hl => ?_
  intro t1 r1 t3 r3 t8 k8 t9 k9 f1
  have kz_1_1 := fdq_278 hD hth r1
  have kz_3_0 := fdq_21 hD hth r3
  have nf0 : fc_1 PRD (20, [0, 1, 8, 9], [60, 0, 2, 678, 2, 1004]) ws (vs) := ⟨nf_in hl rfl, sgq_420 (vc_Pl_layTree_0_0 (v_iv (n_v vs 8)) (v_iv (n_v vs 9)) (w_ei ws (w_ar ws (n_v vs 1) 4)) (w_ei ws (w_ar ws (n_v vs 0) 2)) k8 k9)⟩
  have nf1 : fc_1 PRD (20, [0, 3, 1, 8, 9], [60, 1, 4, 855, 1000, 2, 5, 4, 2004]) ws (vs) := ⟨nf_in hl rfl, sgq_421 (vc_Pl_layTree_0_1 (v_iv (n_v vs 8)) (v_iv (n_v vs 9)) (w_ei ws (w_ar ws (n_v vs 1) 4)) (w_fi ws (n_v vs 3) 0) (w_fi ws (n_v vs 1) 1) (w_ei ws (w_ar ws (n_v vs 0) 2)) (w_ei ws (w_ar ws (n_v vs 0) 4)) (w_ei ws (w_ar ws (n_v vs 0) 5)) k8 k9 (shm_1179 f1) kz_1_1 kz_3_0)⟩
  have nf2 : fc_1 PRD (24, [0, 0], []) ws (vs) := by
    refine ⟨nf_in hl rfl, sgq_1 ?_⟩
    · show n_v vs 0 = n_v vs 0
      first | rfl | simp only [true_and]
  refine ⟨(fun _ h => (by cases h)), [], trivial, ?_, (fun _ h => (by cases h))⟩
  rw [List.append_nil]
  exact List.forall_mem_cons.mpr ⟨⟨show (20 : Nat) < 100 from by decide, nf0⟩, List.forall_mem_cons.mpr ⟨⟨show (20 : Nat) < 100 from by decide, nf1⟩, List.forall_mem_cons.mpr ⟨⟨show (24 : Nat) < 100 from by decide, nf2⟩, (fun _ h => (by cases h))⟩⟩⟩
set_option maxHeartbeats 4000000 in
theorem vc_Pl_layTree_1_0 (x11 : Int) (x12 : Int) (x15 : Int) (x17 : Int) (parts_0o8 : Int) (order_0 : Int → Int) (part_0o8 : Int → Int) (nodes_0o13 : Int) (parent_0 : Int → Int) (level_0 : Int → Int) (k11 : 0 ≤ x11 ∧ x11 ≤ 24) (k12 : 0 ≤ x12 ∧ x12 ≤ 24) (k15 : 0 ≤ x15 ∧ x15 ≤ 24) (k17 : (-1) ≤ x17 ∧ x17 ≤ 23) (d0 : x11 + (-1) ≤ x17 ∧ x17 ≤ x11 + (-1)) (d2 : x15 + 0 ≤ x12 ∧ x12 ≤ x15 + 4294967296) (g2 : x15 = parts_0o8) (f3 : WTB (order_0) (part_0o8) (x11) (x12)) (f5 : FPA (nodes_0o13) (parts_0o8) (part_0o8)) (f7 : TQB (nodes_0o13) (order_0) (parent_0) (level_0) (part_0o8) (x11) (x12)) (kz_8_1 : 0 ≤ parts_0o8 ∧ parts_0o8 ≤ 24) (kz_13_0 : 0 ≤ nodes_0o13 ∧ nodes_0o13 ≤ 24) : TQD (nodes_0o13) (order_0) (parent_0) (level_0) (x11) := by
  first
    | assumption
    | exact tqd_of ‹TQB _ _ _ _ _ _ _› ‹WTB _ _ _ _› ‹FPA _ _ _› (by omega) (by omega)
    | (rw [show gx = x11 by omega]; assumption)
  
set_option maxHeartbeats 4000000 in
theorem vc_Pl_layTree_1_1 (x11 : Int) (x12 : Int) (x17 : Int) (order_0 : Int → Int) (nodes_0o13 : Int) (parent_0 : Int → Int) (x_0o14 : Int → Int) (k11 : 0 ≤ x11 ∧ x11 ≤ 24) (k17 : (-1) ≤ x17 ∧ x17 ≤ 23) (d0 : x11 + (-1) ≤ x17 ∧ x17 ≤ x11 + (-1)) (kz_13_0 : 0 ≤ nodes_0o13 ∧ nodes_0o13 ≤ 24) : TQ0 (nodes_0o13) (order_0) (parent_0) (x_0o14) (x11) (x17) := by
  first
    | assumption
    | exact tq0_start (by omega)
    | (have g := ‹TQN _ _ _ _ _ _›; rw [show x17 = x11 by omega] at g; exact tq0_next g (by omega) (by omega))
    | exact tq0_all ‹TQ0 _ _ _ _ _ _› (by omega) (by omega) (by omega)
    | (rw [show gx = x11 by omega, show gy = x12 by omega]; assumption)
    | (rw [show gx = x11 by omega, show gy = x11 by omega]; assumption)
  
set_option maxHeartbeats 4000000 in
theorem vc_Pl_layTree_1_2 (x11 : Int) (x12 : Int) (x17 : Int) (order_0 : Int → Int) (nodes_0o13 : Int) (under_0 : Int → Int) (k11 : 0 ≤ x11 ∧ x11 ≤ 24) (k17 : (-1) ≤ x17 ∧ x17 ≤ 23) (d0 : x11 + (-1) ≤ x17 ∧ x17 ≤ x11 + (-1)) (kz_13_0 : 0 ≤ nodes_0o13 ∧ nodes_0o13 ≤ 24) : TQU (nodes_0o13) (order_0) (under_0) (x11) (x17) := by
  first
    | assumption
    | exact tqu_start (by omega)
    | (have g := ‹TQM _ _ _ _ _›; rw [show x17 = x11 by omega] at g; exact tqu_next g (by omega) (by omega))
    | exact tqu_all ‹TQU _ _ _ _ _› (by omega) (by omega) (by omega)
    | (rw [show gx = x11 by omega, show gy = x12 by omega]; assumption)
    | (rw [show gx = x11 by omega, show gy = x11 by omega]; assumption)
  
set_option maxHeartbeats 4000000 in
theorem vc_Pl_layTree_1_3 (x9 : Int) (x11 : Int) (x12 : Int) (x17 : Int) (k11 : 0 ≤ x11 ∧ x11 ≤ 24) (k17 : (-1) ≤ x17 ∧ x17 ≤ 23) (d0 : x11 + (-1) ≤ x17 ∧ x17 ≤ x11 + (-1)) : ((-1) ≤ x17) ∧ ((x17 + 1) ≤ x11) := by
  first
    | omega
    | assumption
    | (have q := wtb_room (r := x17) ‹WTB _ _ _ _› (by omega) (by omega) (by assumption); omega)
    | (have q := wtb_room (r := x19) ‹WTB _ _ _ _› (by omega) (by omega) (by assumption); omega)
    | (have q := wtb_room (r := x9) ‹WTB _ _ _ _› (by omega) (by omega) (by omega); omega)
    | (rw [show gy = x12 by omega]; assumption)
    | (have q := (‹TQ5 _ _ _ _›).2 x13 (by omega) (by omega); omega)
  
def o_Pl_layTree_1 : or_T := (68, 18, [(8, (2, 0, 0, [2])), (11, (0, 0, 24, [])), (12, (0, 0, 24, [])), (13, (2, 0, 0, [3])), (15, (0, 0, 24, [])), (17, (0, -1, 23, []))], [(9, [15, 8], [1]), (20, [7, 8, 11, 12], [60, 0, 2, 678, 2, 1004]), (20, [13, 8], [60, 2, 1, 672, 0, 1001, 1004]), (20, [7, 13, 8, 11, 12], [60, 1, 4, 855, 1000, 2, 5, 4, 2004]), (24, [0, 7], [])], [], [], [(20, [7, 13, 11], [60, 1, 3, 859, 1000, 2, 5, 4]), (20, [7, 13, 14, 11, 17], [60, 1, 3, 865, 1000, 2, 5, 2002]), (20, [7, 13, 11, 17], [60, 1, 2, 860, 1000, 2, 6]), (20, [17, 11], [50, 0, 0, 2, 6, 0, 2, 0, -1, 1, 0, 0, 6, 4, 2, 1, 0, 0, 1, 1, 1])], [], [(17, 11, -1, -1), (12, 15, 0, 4294967296)])
theorem oo_Pl_layTree_1 {kA : Nat → ClassId} : or_ok PRD kA GG o_Pl_layTree_1 := by
  refine or_mk fun A ta ws vs hD hth hl => ?_
  intro t8 r8 t11 k11 t12 k12 t13 r13 t15 k15 t17 k17 d0 d2 f2 f3 f5 f7 f8
  replace f2 := shm_215 f2
  replace f3 := shm_420 f3
  replace f5 := shm_1179 f5
  replace f7 := shm_421 f7
  replace f8 := shm_5 f8
  have q7 : n_v vs 7 = n_v vs 0 := f8.symm
  simp only [q7] at f3 f7
  have g2 : v_iv (n_v vs 15) = w_fi ws (n_v vs 8) 1 := congrArg v_iv f2
  have kz_8_1 := fdq_278 hD hth r8
  have kz_13_0 := fdq_21 hD hth r13
  have nf0 : fc_1 PRD (20, [7, 13, 11], [60, 1, 3, 859, 1000, 2, 5, 4]) ws (vs) := by
    refine ⟨nf_in hl rfl, sgq_1107 ?_⟩
    · show TQD (w_fi ws (n_v vs 13) 0) (w_ei ws (w_ar ws (n_v vs 7) 2)) (w_ei ws (w_ar ws (n_v vs 7) 5)) (w_ei ws (w_ar ws (n_v vs 7) 4)) (v_iv (n_v vs 11))
      rw [q7]
      exact vc_Pl_layTree_1_0 (v_iv (n_v vs 11)) (v_iv (n_v vs 12)) (v_iv (n_v vs 15)) (v_iv (n_v vs 17)) (w_fi ws (n_v vs 8) 1) (w_ei ws (w_ar ws (n_v vs 0) 2)) (w_ei ws (w_ar ws (n_v vs 8) 4)) (w_fi ws (n_v vs 13) 0) (w_ei ws (w_ar ws (n_v vs 0) 5)) (w_ei ws (w_ar ws (n_v vs 0) 4)) k11 k12 k15 k17 d0 d2 g2 f3 f5 f7 kz_8_1 kz_13_0
  have nf1 : fc_1 PRD (20, [7, 13, 14, 11, 17], [60, 1, 3, 865, 1000, 2, 5, 2002]) ws (vs) := by
    refine ⟨nf_in hl rfl, sgq_1103 ?_⟩
    · show TQ0 (w_fi ws (n_v vs 13) 0) (w_ei ws (w_ar ws (n_v vs 7) 2)) (w_ei ws (w_ar ws (n_v vs 7) 5)) (w_ei ws (w_ar ws (n_v vs 14) 2)) (v_iv (n_v vs 11)) (v_iv (n_v vs 17))
      rw [q7]
      exact vc_Pl_layTree_1_1 (v_iv (n_v vs 11)) (v_iv (n_v vs 12)) (v_iv (n_v vs 17)) (w_ei ws (w_ar ws (n_v vs 0) 2)) (w_fi ws (n_v vs 13) 0) (w_ei ws (w_ar ws (n_v vs 0) 5)) (w_ei ws (w_ar ws (n_v vs 14) 2)) k11 k17 d0 kz_13_0
  have nf2 : fc_1 PRD (20, [7, 13, 11, 17], [60, 1, 2, 860, 1000, 2, 6]) ws (vs) := by
    refine ⟨nf_in hl rfl, sgq_1104 ?_⟩
    · show TQU (w_fi ws (n_v vs 13) 0) (w_ei ws (w_ar ws (n_v vs 7) 2)) (w_ei ws (w_ar ws (n_v vs 7) 6)) (v_iv (n_v vs 11)) (v_iv (n_v vs 17))
      rw [q7]
      exact vc_Pl_layTree_1_2 (v_iv (n_v vs 11)) (v_iv (n_v vs 12)) (v_iv (n_v vs 17)) (w_ei ws (w_ar ws (n_v vs 0) 2)) (w_fi ws (n_v vs 13) 0) (w_ei ws (w_ar ws (n_v vs 0) 6)) k11 k17 d0 kz_13_0
  have nf3 : fc_1 PRD (20, [17, 11], [50, 0, 0, 2, 6, 0, 2, 0, -1, 1, 0, 0, 6, 4, 2, 1, 0, 0, 1, 1, 1]) ws (vs) := ⟨nf_in hl rfl, sgq_1558 (vc_Pl_layTree_1_3 (v_iv (n_v vs 9)) (v_iv (n_v vs 11)) (v_iv (n_v vs 12)) (v_iv (n_v vs 17)) k11 k17 d0)⟩
  refine ⟨(fun _ h => (by cases h)), [], trivial, ?_, (fun _ h => (by cases h))⟩
  rw [List.append_nil]
  exact List.forall_mem_cons.mpr ⟨⟨show (20 : Nat) < 100 from by decide, nf0⟩, List.forall_mem_cons.mpr ⟨⟨show (20 : Nat) < 100 from by decide, nf1⟩, List.forall_mem_cons.mpr ⟨⟨show (20 : Nat) < 100 from by decide, nf2⟩, List.forall_mem_cons.mpr ⟨⟨show (20 : Nat) < 100 from by decide, nf3⟩, (fun _ h => (by cases h))⟩⟩⟩⟩
set_option maxHeartbeats 4000000 in
theorem vc_Pl_layTree_2_0 (x12 : Int) (x15 : Int) (parts_0o8 : Int) (part_0o8 : Int → Int) (nodes_0o13 : Int) (k12 : 0 ≤ x12 ∧ x12 ≤ 23) (k15 : 1 ≤ x15 ∧ x15 ≤ 24) (d0 : x15 + (-4294967296) ≤ x12 ∧ x12 ≤ x15 + (-1)) (g2 : x15 = parts_0o8) (f5 : FPA (nodes_0o13) (parts_0o8) (part_0o8)) (kz_8_1 : 0 ≤ parts_0o8 ∧ parts_0o8 ≤ 24) (kz_13_0 : 0 ≤ nodes_0o13 ∧ nodes_0o13 ≤ 24) : FPE (nodes_0o13) (part_0o8) (x12) := by
  first
    | exact (‹FPA _ _ _›).1 x12 (by omega) (by omega)
  
def o_Pl_layTree_2 : or_T := (41, 17, [(8, (2, 0, 0, [2])), (12, (0, 0, 23, [])), (13, (2, 0, 0, [3])), (15, (0, 1, 24, []))], [(9, [15, 8], [1]), (20, [13, 8], [60, 2, 1, 672, 0, 1001, 1004])], [], [], [(20, [13, 8, 12], [60, 1, 1, 681, 0, 1004])], [], [(12, 15, -4294967296, -1)])
theorem oo_Pl_layTree_2 {kA : Nat → ClassId} : or_ok PRD kA GG o_Pl_layTree_2 := by
  refine or_mk fun A ta ws vs hD hth hl => ?_
  intro t8 r8 t12 k12 t13 r13 t15 k15 d0 f2 f5
  replace f2 := shm_215 f2
  have g2 : v_iv (n_v vs 15) = w_fi ws (n_v vs 8) 1 := congrArg v_iv f2
  have kz_8_1 := fdq_278 hD hth r8
  have kz_13_0 := fdq_21 hD hth r13
  have nf0 : fc_1 PRD (20, [13, 8, 12], [60, 1, 1, 681, 0, 1004]) ws (vs) := ⟨nf_in hl rfl, sgq_413 (vc_Pl_layTree_2_0 (v_iv (n_v vs 12)) (v_iv (n_v vs 15)) (w_fi ws (n_v vs 8) 1) (w_ei ws (w_ar ws (n_v vs 8) 4)) (w_fi ws (n_v vs 13) 0) k12 k15 d0 g2 (shm_1179 f5) kz_8_1 kz_13_0)⟩
  refine ⟨(fun _ h => (by cases h)), [], trivial, ?_, (fun _ h => (by cases h))⟩
  rw [List.append_nil]
  exact List.forall_mem_cons.mpr ⟨⟨show (20 : Nat) < 100 from by decide, nf0⟩, (fun _ h => (by cases h))⟩
set_option maxHeartbeats 4000000 in
theorem vc_Pl_layTree_3_r0 (x9 : Int) (x11 : Int) (x12 : Int) (x17 : Int) (part_0o8 : Int → Int) (order_0 : Int → Int) (gy : Int) (k11 : 0 ≤ x11 ∧ x11 ≤ 24) (k12 : 0 ≤ x12 ∧ x12 ≤ 23) (k17 : 0 ≤ x17 ∧ x17 ≤ 23) (f0 : RTP (part_0o8) (x17) (x12)) (f6 : WTB (order_0) (part_0o8) (x11) (x12)) : 0 ≤ x11 ∧ x11 ≤ 23 := by
  first
    | omega
    | assumption
    | (have q := wtb_room (r := x17) ‹WTB _ _ _ _› (by omega) (by omega) (by assumption); omega)
    | (have q := wtb_room (r := x19) ‹WTB _ _ _ _› (by omega) (by omega) (by assumption); omega)
    | (have q := wtb_room (r := x9) ‹WTB _ _ _ _› (by omega) (by omega) (by omega); omega)
    | (rw [show gy = x12 by omega]; assumption)
    | (have q := (‹TQ5 _ _ _ _›).2 x13 (by omega) (by omega); omega)
  
set_option maxHeartbeats 4000000 in
theorem vc_Pl_layTree_3_1 (x9 : Int) (x12 : Int) (x17 : Int) (gy : Int) (k12 : 0 ≤ x12 ∧ x12 ≤ 23) (ey2 : gy = x12) : 1 * gy + ((-1) * x12 + 0) ≤ 0 := by
  first
    | omega
    | assumption
    | (have q := wtb_room (r := x17) ‹WTB _ _ _ _› (by omega) (by omega) (by assumption); omega)
    | (have q := wtb_room (r := x19) ‹WTB _ _ _ _› (by omega) (by omega) (by assumption); omega)
    | (have q := wtb_room (r := x9) ‹WTB _ _ _ _› (by omega) (by omega) (by omega); omega)
    | (rw [show gy = x12 by omega]; assumption)
    | (have q := (‹TQ5 _ _ _ _›).2 x13 (by omega) (by omega); omega)
  
set_option maxHeartbeats 4000000 in
theorem vc_Pl_layTree_3_2 (x9 : Int) (x12 : Int) (x17 : Int) (gy : Int) (k12 : 0 ≤ x12 ∧ x12 ≤ 23) (ey2 : gy = x12) : (-1) * gy + (1 * x12 + 0) ≤ 0 := by
  first
    | omega
    | assumption
    | (have q := wtb_room (r := x17) ‹WTB _ _ _ _› (by omega) (by omega) (by assumption); omega)
    | (have q := wtb_room (r := x19) ‹WTB _ _ _ _› (by omega) (by omega) (by assumption); omega)
    | (have q := wtb_room (r := x9) ‹WTB _ _ _ _› (by omega) (by omega) (by omega); omega)
    | (rw [show gy = x12 by omega]; assumption)
    | (have q := (‹TQ5 _ _ _ _›).2 x13 (by omega) (by omega); omega)
  
set_option maxHeartbeats 4000000 in
theorem vc_Pl_layTree_3_3 (x11 : Int) (x12 : Int) (part_0o8 : Int → Int) (order_0 : Int → Int) (gy : Int) (k11 : 0 ≤ x11 ∧ x11 ≤ 24) (k12 : 0 ≤ x12 ∧ x12 ≤ 23) (f6 : WTB (order_0) (part_0o8) (x11) (x12)) (ey2 : gy = x12) : WTB (order_0) (part_0o8) (x11) (gy) := by
  first
    | assumption
    | exact wtb_start (by omega)
    | (rw [show gy = x12 by omega]; exact ‹WTB _ _ _ _›)
    | (rw [show x21 = x19 + 1 by omega]; exact ‹WTA _ _ _ _›)
    | (rw [show x23 = x21 + 1 by omega]; exact ‹WTA _ _ _ _›)
    | (rw [show x22 = x20 + 1 by omega]; exact ‹WTA _ _ _ _›)
  
set_option maxHeartbeats 4000000 in
theorem vc_Pl_layTree_3_4 (x9 : Int) (x12 : Int) (x17 : Int) (part_0o8 : Int → Int) (gy : Int) (k12 : 0 ≤ x12 ∧ x12 ≤ 23) (k17 : 0 ≤ x17 ∧ x17 ≤ 23) (f0 : RTP (part_0o8) (x17) (x12)) (ey2 : gy = x12) : RTP (part_0o8) (x17) (gy) := by
  first
    | assumption
    | (rw [show gy = x12 by omega]; assumption)
    | (rw [show gy = x12 by omega]; show part_0o8 x9 = x12; omega)
    | (show part_0o8 x9 = x12; omega)
  
set_option maxHeartbeats 4000000 in
theorem vc_Pl_layTree_3_5 (part_0o8 : Int → Int) (nodes_0o13 : Int) (near_0o13 : Int → Int) (f7 : PNC (nodes_0o13) (near_0o13) (part_0o8)) (kz_13_0 : 0 ≤ nodes_0o13 ∧ nodes_0o13 ≤ 24) : PNC (nodes_0o13) (near_0o13) (part_0o8) := by
  assumption
set_option maxHeartbeats 4000000 in
theorem vc_Pl_layTree_3_6 (x9 : Int) (x12 : Int) (x17 : Int) (nodes_0o13 : Int) (gy : Int) (k17 : 0 ≤ x17 ∧ x17 ≤ 23) (f1 : (0 ≤ x17) ∧ ((x17 + 1) ≤ nodes_0o13)) (kz_13_0 : 0 ≤ nodes_0o13 ∧ nodes_0o13 ≤ 24) : (0 ≤ x17) ∧ ((x17 + 1) ≤ nodes_0o13) := by
  first
    | omega
    | assumption
    | (have q := wtb_room (r := x17) ‹WTB _ _ _ _› (by omega) (by omega) (by assumption); omega)
    | (have q := wtb_room (r := x19) ‹WTB _ _ _ _› (by omega) (by omega) (by assumption); omega)
    | (have q := wtb_room (r := x9) ‹WTB _ _ _ _› (by omega) (by omega) (by omega); omega)
    | (rw [show gy = x12 by omega]; assumption)
    | (have q := (‹TQ5 _ _ _ _›).2 x13 (by omega) (by omega); omega)
  
set_option maxHeartbeats 4000000 in
theorem vc_Pl_layTree_3_7 (x11 : Int) (x12 : Int) (part_0o8 : Int → Int) (nodes_0o13 : Int) (order_0 : Int → Int) (parent_0 : Int → Int) (level_0 : Int → Int) (gy : Int) (k11 : 0 ≤ x11 ∧ x11 ≤ 24) (k12 : 0 ≤ x12 ∧ x12 ≤ 23) (f10 : TQB (nodes_0o13) (order_0) (parent_0) (level_0) (part_0o8) (x11) (x12)) (kz_13_0 : 0 ≤ nodes_0o13 ∧ nodes_0o13 ≤ 24) (ey2 : gy = x12) : TQB (nodes_0o13) (order_0) (parent_0) (level_0) (part_0o8) (x11) (gy) := by
  first
    | assumption
    | exact tqb_start (by omega) (by omega) (fun v a b => ((‹FPA _ _ _›).2 v a b).1)
    | (rw [show gy = x12 by omega]; exact ‹TQB _ _ _ _ _ _ _›)
    | (rw [show x21 = x19 + 1 by omega]; exact ‹TQA _ _ _ _ _ _ _›)
    | (rw [show x23 = x21 + 1 by omega]; exact ‹TQA _ _ _ _ _ _ _›)
    | (rw [show x22 = x20 + 1 by omega]; exact ‹TQA _ _ _ _ _ _ _›)
  
set_option maxHeartbeats 4000000 in
theorem vc_Pl_layTree_3_8 (x9 : Int) (x12 : Int) (x17 : Int) (gy : Int) (k12 : 0 ≤ x12 ∧ x12 ≤ 23) (ey2 : gy = x12) : gy = x12 := by
  first
    | omega
    | assumption
    | (have q := wtb_room (r := x17) ‹WTB _ _ _ _› (by omega) (by omega) (by assumption); omega)
    | (have q := wtb_room (r := x19) ‹WTB _ _ _ _› (by omega) (by omega) (by assumption); omega)
    | (have q := wtb_room (r := x9) ‹WTB _ _ _ _› (by omega) (by omega) (by omega); omega)
    | (rw [show gy = x12 by omega]; assumption)
    | (have q := (‹TQ5 _ _ _ _›).2 x13 (by omega) (by omega); omega)
  
def o_Pl_layTree_3 : or_T := (51, 18, [(0, (2, 0, 0, [6])), (7, (2, 0, 0, [6])), (8, (2, 0, 0, [2])), (9, (0, -1, -1, [])), (11, (0, 0, 24, [])), (12, (0, 0, 23, [])), (13, (2, 0, 0, [3])), (15, (0, 1, 24, [])), (16, (0, -1, -1, [])), (17, (0, 0, 23, []))], [(20, [8, 17, 12], [60, 0, 1, 680, 4]), (20, [17, 13], [50, 1, 0, 1000, 2, 6, 0, 2, 0, 0, 1, 0, 0, 6, 4, 2, 1, 0, 0, 1, 2, 1, 0]), (20, [13, 8, 12], [60, 1, 1, 681, 0, 1004]), (7, [9, 16], [0]), (7, [12, 15], [2]), (9, [15, 8], [1]), (20, [7, 8, 11, 12], [60, 0, 2, 678, 2, 1004]), (20, [13, 8], [60, 1, 2, 671, 0, 14, 1004]), (20, [13, 8], [60, 2, 1, 672, 0, 1001, 1004]), (20, [9, 13], [50, 1, 0, 1000, 2, 6, 0, 2, 0, -1, 1, 0, 0, 6, 4, 2, 1, 0, 0, 1, 2, 1, 0]), (20, [7, 13, 8, 11, 12], [60, 1, 4, 855, 1000, 2, 5, 4, 2004]), (24, [0, 7], [])], [(11, (0, 0, 23, []))], [(2, 0, 0, [2]), (0, 0, 24, [])], [(24, [8, 18], []), (23, [19, 12], [0, 1, -1]), (23, [19, 12], [0, -1, 1]), (20, [7, 18, 11, 19], [60, 0, 2, 678, 2, 1004]), (20, [18, 17, 19], [60, 0, 1, 680, 4]), (20, [13, 18], [60, 1, 2, 671, 0, 14, 1004]), (20, [17, 13], [50, 1, 0, 1000, 2, 6, 0, 2, 0, 0, 1, 0, 0, 6, 4, 2, 1, 0, 0, 1, 2, 1, 0]), (20, [7, 13, 18, 11, 19], [60, 1, 4, 855, 1000, 2, 5, 4, 2004]), (20, [19, 12], [50, 0, 0, 1, 2, 1, 0, 1, 1])], [], [(12, 15, -4294967296, -1), (11, 12, -4294967296, 23)])
theorem oo_Pl_layTree_3 {kA : Nat → ClassId} : or_ok PRD kA GG o_Pl_layTree_3 := by
  refine or_mk fun A ta ws vs hD hth hl => ?_
  intro t0 r0 t7 r7 t8 r8 t9 k9 t11 k11 t12 k12 t13 r13 t15 k15 t16 k16 t17 k17 d0 d1 f0 f1 f2 f3 f4 f5 f6 f7 f8 f9 f10 f11
  replace f0 := shm_415 f0
  replace f1 := shm_416 f1
  replace f6 := shm_420 f6
  replace f7 := shm_419 f7
  replace f10 := shm_421 f10
  replace f11 := shm_5 f11
  have q7 : n_v vs 7 = n_v vs 0 := f11.symm
  simp only [q7] at f6 f10
  have kz_13_0 := fdq_21 hD hth r13
  obtain ⟨y, ey, hy⟩ := iv_ex (ta := ta) (lo := 0) (hi := 24) (z := v_iv (n_v vs 12)) (by omega) (by omega) (by omega) (by omega)
  have ey2 : v_iv (Value.int y) = v_iv (n_v vs 12) := ey
  have ey3 : 0 ≤ v_iv (Value.int y) ∧ v_iv (Value.int y) ≤ 24 := tv_rng hy
  have hrf0 : 0 ≤ v_iv (n_v vs 11) ∧ v_iv (n_v vs 11) ≤ 23 := vc_Pl_layTree_3_r0 (v_iv (n_v vs 9)) (v_iv (n_v vs 11)) (v_iv (n_v vs 12)) (v_iv (n_v vs 17)) (w_ei ws (w_ar ws (n_v vs 8) 4)) (w_ei ws (w_ar ws (n_v vs 0) 2)) (v_iv (Value.int y)) k11 k12 k17 f0 f6
  have e_7 : n_v (vs ++ [n_v vs 8, Value.int y]) 7 = n_v vs 7 := n_v_old (by rw [hl]; decide)
  have e_8 : n_v (vs ++ [n_v vs 8, Value.int y]) 8 = n_v vs 8 := n_v_old (by rw [hl]; decide)
  have e_11 : n_v (vs ++ [n_v vs 8, Value.int y]) 11 = n_v vs 11 := n_v_old (by rw [hl]; decide)
  have e_12 : n_v (vs ++ [n_v vs 8, Value.int y]) 12 = n_v vs 12 := n_v_old (by rw [hl]; decide)
  have e_13 : n_v (vs ++ [n_v vs 8, Value.int y]) 13 = n_v vs 13 := n_v_old (by rw [hl]; decide)
  have e_17 : n_v (vs ++ [n_v vs 8, Value.int y]) 17 = n_v vs 17 := n_v_old (by rw [hl]; decide)
  have e_18 : n_v (vs ++ [n_v vs 8, Value.int y]) 18 = n_v vs 8 := n_v_new0 hl
  have e_19 : n_v (vs ++ [n_v vs 8, Value.int y]) 19 = Value.int y := n_v_new1 hl
  have nf0 : fc_1 PRD (24, [8, 18], []) ws (vs ++ [n_v vs 8, Value.int y]) := by
    refine ⟨nf_inA hl rfl, sgq_5 ?_⟩
    · show n_v (vs ++ [n_v vs 8, Value.int y]) 8 = n_v (vs ++ [n_v vs 8, Value.int y]) 18
      first | rfl | simp only [e_8, e_18, q7]
  have nf1 : fc_1 PRD (23, [19, 12], [0, 1, -1]) ws (vs ++ [n_v vs 8, Value.int y]) := by
    refine ⟨nf_inA hl rfl, sgq_7 ?_⟩
    · show 1 * v_iv (n_v (vs ++ [n_v vs 8, Value.int y]) 19) + ((-1) * v_iv (n_v (vs ++ [n_v vs 8, Value.int y]) 12) + 0) ≤ 0
      simp only [e_12, e_19]
      exact vc_Pl_layTree_3_1 (v_iv (n_v vs 9)) (v_iv (n_v vs 12)) (v_iv (n_v vs 17)) (v_iv (Value.int y)) k12 ey2
  have nf2 : fc_1 PRD (23, [19, 12], [0, -1, 1]) ws (vs ++ [n_v vs 8, Value.int y]) := by
    refine ⟨nf_inA hl rfl, sgq_22 ?_⟩
    · show (-1) * v_iv (n_v (vs ++ [n_v vs 8, Value.int y]) 19) + (1 * v_iv (n_v (vs ++ [n_v vs 8, Value.int y]) 12) + 0) ≤ 0
      simp only [e_12, e_19]
      exact vc_Pl_layTree_3_2 (v_iv (n_v vs 9)) (v_iv (n_v vs 12)) (v_iv (n_v vs 17)) (v_iv (Value.int y)) k12 ey2
  have nf3 : fc_1 PRD (20, [7, 18, 11, 19], [60, 0, 2, 678, 2, 1004]) ws (vs ++ [n_v vs 8, Value.int y]) := by
    refine ⟨nf_inA hl rfl, sgq_420 ?_⟩
    · show WTB (w_ei ws (w_ar ws (n_v (vs ++ [n_v vs 8, Value.int y]) 7) 2)) (w_ei ws (w_ar ws (n_v (vs ++ [n_v vs 8, Value.int y]) 18) 4)) (v_iv (n_v (vs ++ [n_v vs 8, Value.int y]) 11)) (v_iv (n_v (vs ++ [n_v vs 8, Value.int y]) 19))
      simp only [e_7, e_11, e_18, e_19, q7]
      exact vc_Pl_layTree_3_3 (v_iv (n_v vs 11)) (v_iv (n_v vs 12)) (w_ei ws (w_ar ws (n_v vs 8) 4)) (w_ei ws (w_ar ws (n_v vs 0) 2)) (v_iv (Value.int y)) k11 k12 f6 ey2
  have nf4 : fc_1 PRD (20, [18, 17, 19], [60, 0, 1, 680, 4]) ws (vs ++ [n_v vs 8, Value.int y]) := by
    refine ⟨nf_inA hl rfl, sgq_415 ?_⟩
    · show RTP (w_ei ws (w_ar ws (n_v (vs ++ [n_v vs 8, Value.int y]) 18) 4)) (v_iv (n_v (vs ++ [n_v vs 8, Value.int y]) 17)) (v_iv (n_v (vs ++ [n_v vs 8, Value.int y]) 19))
      simp only [e_17, e_18, e_19]
      exact vc_Pl_layTree_3_4 (v_iv (n_v vs 9)) (v_iv (n_v vs 12)) (v_iv (n_v vs 17)) (w_ei ws (w_ar ws (n_v vs 8) 4)) (v_iv (Value.int y)) k12 k17 f0 ey2
  have nf5 : fc_1 PRD (20, [13, 18], [60, 1, 2, 671, 0, 14, 1004]) ws (vs ++ [n_v vs 8, Value.int y]) := by
    refine ⟨nf_inA hl rfl, sgq_419 ?_⟩
    · show PNC (w_fi ws (n_v (vs ++ [n_v vs 8, Value.int y]) 13) 0) (w_ei ws (w_ar ws (n_v (vs ++ [n_v vs 8, Value.int y]) 13) 14)) (w_ei ws (w_ar ws (n_v (vs ++ [n_v vs 8, Value.int y]) 18) 4))
      simp only [e_13, e_18]
      exact vc_Pl_layTree_3_5 (w_ei ws (w_ar ws (n_v vs 8) 4)) (w_fi ws (n_v vs 13) 0) (w_ei ws (w_ar ws (n_v vs 13) 14)) f7 kz_13_0
  have nf6 : fc_1 PRD (20, [17, 13], [50, 1, 0, 1000, 2, 6, 0, 2, 0, 0, 1, 0, 0, 6, 4, 2, 1, 0, 0, 1, 2, 1, 0]) ws (vs ++ [n_v vs 8, Value.int y]) := by
    refine ⟨nf_inA hl rfl, sgq_416 ?_⟩
    · show (0 ≤ v_iv (n_v (vs ++ [n_v vs 8, Value.int y]) 17)) ∧ ((v_iv (n_v (vs ++ [n_v vs 8, Value.int y]) 17) + 1) ≤ w_fi ws (n_v (vs ++ [n_v vs 8, Value.int y]) 13) 0)
      simp only [e_13, e_17]
      exact vc_Pl_layTree_3_6 (v_iv (n_v vs 9)) (v_iv (n_v vs 12)) (v_iv (n_v vs 17)) (w_fi ws (n_v vs 13) 0) (v_iv (Value.int y)) k17 f1 kz_13_0
  have nf7 : fc_1 PRD (20, [7, 13, 18, 11, 19], [60, 1, 4, 855, 1000, 2, 5, 4, 2004]) ws (vs ++ [n_v vs 8, Value.int y]) := by
    refine ⟨nf_inA hl rfl, sgq_421 ?_⟩
    · show TQB (w_fi ws (n_v (vs ++ [n_v vs 8, Value.int y]) 13) 0) (w_ei ws (w_ar ws (n_v (vs ++ [n_v vs 8, Value.int y]) 7) 2)) (w_ei ws (w_ar ws (n_v (vs ++ [n_v vs 8, Value.int y]) 7) 5)) (w_ei ws (w_ar ws (n_v (vs ++ [n_v vs 8, Value.int y]) 7) 4)) (w_ei ws (w_ar ws (n_v (vs ++ [n_v vs 8, Value.int y]) 18) 4)) (v_iv (n_v (vs ++ [n_v vs 8, Value.int y]) 11)) (v_iv (n_v (vs ++ [n_v vs 8, Value.int y]) 19))
      simp only [e_7, e_11, e_13, e_18, e_19, q7]
      exact vc_Pl_layTree_3_7 (v_iv (n_v vs 11)) (v_iv (n_v vs 12)) (w_ei ws (w_ar ws (n_v vs 8) 4)) (w_fi ws (n_v vs 13) 0) (w_ei ws (w_ar ws (n_v vs 0) 2)) (w_ei ws (w_ar ws (n_v vs 0) 5)) (w_ei ws (w_ar ws (n_v vs 0) 4)) (v_iv (Value.int y)) k11 k12 f10 kz_13_0 ey2
  have nf8 : fc_1 PRD (20, [19, 12], [50, 0, 0, 1, 2, 1, 0, 1, 1]) ws (vs ++ [n_v vs 8, Value.int y]) := by
    refine ⟨nf_inA hl rfl, sgq_48 ?_⟩
    · show v_iv (n_v (vs ++ [n_v vs 8, Value.int y]) 19) = v_iv (n_v (vs ++ [n_v vs 8, Value.int y]) 12)
      simp only [e_12, e_19]
      exact vc_Pl_layTree_3_8 (v_iv (n_v vs 9)) (v_iv (n_v vs 12)) (v_iv (n_v vs 17)) (v_iv (Value.int y)) k12 ey2
  have rf11 : tv_ok ta (0, 0, 23, []) (n_v vs 11) := tv_in t11 (by first | omega | grind) (by first | omega | grind)
  exact ⟨List.forall_mem_cons.mpr ⟨rf11, (fun _ h => (by cases h))⟩, [n_v vs 8, Value.int y], ag_two t8 hy, List.forall_mem_cons.mpr ⟨⟨show (24 : Nat) < 100 from by decide, nf0⟩, List.forall_mem_cons.mpr ⟨⟨show (23 : Nat) < 100 from by decide, nf1⟩, List.forall_mem_cons.mpr ⟨⟨show (23 : Nat) < 100 from by decide, nf2⟩, List.forall_mem_cons.mpr ⟨⟨show (20 : Nat) < 100 from by decide, nf3⟩, List.forall_mem_cons.mpr ⟨⟨show (20 : Nat) < 100 from by decide, nf4⟩, List.forall_mem_cons.mpr ⟨⟨show (20 : Nat) < 100 from by decide, nf5⟩, List.forall_mem_cons.mpr ⟨⟨show (20 : Nat) < 100 from by decide, nf6⟩, List.forall_mem_cons.mpr ⟨⟨show (20 : Nat) < 100 from by decide, nf7⟩, List.forall_mem_cons.mpr ⟨⟨show (20 : Nat) < 100 from by decide, nf8⟩, (fun _ h => (by cases h))⟩⟩⟩⟩⟩⟩⟩⟩⟩, (fun _ h => (by cases h))⟩
set_option maxHeartbeats 4000000 in
theorem vc_Pl_layTree_4_0 (x12 : Int) (x19 : Int) (x20 : Int) (x21 : Int) (part_0o8 : Int → Int) (order_0 : Int → Int) (k12 : 0 ≤ x12 ∧ x12 ≤ 23) (k19 : 0 ≤ x19 ∧ x19 ≤ 24) (k20 : 1 ≤ x20 ∧ x20 ≤ 24) (k21 : 1 ≤ x21 ∧ x21 ≤ 24) (d0 : x12 + 1 ≤ x21 ∧ x21 ≤ x12 + 1) (f3 : 1 * x19 + ((-1) * x12 + 0) ≤ 0) (f4 : (-1) * x19 + (1 * x12 + 0) ≤ 0) (f16 : WTA (order_0) (part_0o8) (x20) (x19)) : WTB (order_0) (part_0o8) (x20) (x21) := by
  first
    | assumption
    | exact wtb_start (by omega)
    | (rw [show gy = x12 by omega]; exact ‹WTB _ _ _ _›)
    | (rw [show x21 = x19 + 1 by omega]; exact ‹WTA _ _ _ _›)
    | (rw [show x23 = x21 + 1 by omega]; exact ‹WTA _ _ _ _›)
    | (rw [show x22 = x20 + 1 by omega]; exact ‹WTA _ _ _ _›)
  
set_option maxHeartbeats 4000000 in
theorem vc_Pl_layTree_4_1 (x12 : Int) (x19 : Int) (x20 : Int) (x21 : Int) (part_0o8 : Int → Int) (nodes_0o13 : Int) (order_0 : Int → Int) (parent_0 : Int → Int) (level_0 : Int → Int) (k12 : 0 ≤ x12 ∧ x12 ≤ 23) (k19 : 0 ≤ x19 ∧ x19 ≤ 24) (k20 : 1 ≤ x20 ∧ x20 ≤ 24) (k21 : 1 ≤ x21 ∧ x21 ≤ 24) (d0 : x12 + 1 ≤ x21 ∧ x21 ≤ x12 + 1) (f3 : 1 * x19 + ((-1) * x12 + 0) ≤ 0) (f4 : (-1) * x19 + (1 * x12 + 0) ≤ 0) (f17 : TQA (nodes_0o13) (order_0) (parent_0) (level_0) (part_0o8) (x20) (x19)) (kz_13_0 : 0 ≤ nodes_0o13 ∧ nodes_0o13 ≤ 24) : TQB (nodes_0o13) (order_0) (parent_0) (level_0) (part_0o8) (x20) (x21) := by
  first
    | assumption
    | exact tqb_start (by omega) (by omega) (fun v a b => ((‹FPA _ _ _›).2 v a b).1)
    | (rw [show gy = x12 by omega]; exact ‹TQB _ _ _ _ _ _ _›)
    | (rw [show x21 = x19 + 1 by omega]; exact ‹TQA _ _ _ _ _ _ _›)
    | (rw [show x23 = x21 + 1 by omega]; exact ‹TQA _ _ _ _ _ _ _›)
    | (rw [show x22 = x20 + 1 by omega]; exact ‹TQA _ _ _ _ _ _ _›)
  
def o_Pl_layTree_4 : or_T := (8, 22, [(12, (0, 0, 23, [])), (13, (2, 0, 0, [3])), (19, (0, 0, 24, [])), (20, (0, 1, 24, [])), (21, (0, 1, 24, []))], [(24, [8, 18], []), (23, [19, 12], [0, 1, -1]), (23, [19, 12], [0, -1, 1]), (24, [0, 7], []), (20, [7, 18, 20, 19], [60, 0, 2, 679, 2, 1004]), (20, [7, 13, 18, 20, 19], [60, 1, 4, 856, 1000, 2, 5, 4, 2004])], [], [], [(20, [7, 8, 20, 21], [60, 0, 2, 678, 2, 1004]), (20, [7, 13, 8, 20, 21], [60, 1, 4, 855, 1000, 2, 5, 4, 2004])], [], [(21, 12, 1, 1)])
theorem oo_Pl_layTree_4 {kA : Nat → ClassId} : or_ok PRD kA GG o_Pl_layTree_4 := by
  refine or_mk fun A ta ws vs hD hth hl => ?_
  intro t12 k12 t13 r13 t19 k19 t20 k20 t21 k21 d0 f2 f3 f4 f15 f16 f17
  replace f2 := shm_5 f2
  replace f3 := shm_7 f3
  replace f4 := shm_22 f4
  replace f15 := shm_5 f15
  replace f16 := shm_426 f16
  replace f17 := shm_427 f17
  have q18 : n_v vs 18 = n_v vs 8 := f2.symm
  have q7 : n_v vs 7 = n_v vs 0 := f15.symm
  simp only [q18, q7] at f16 f17
  have kz_13_0 := fdq_21 hD hth r13
  have nf0 : fc_1 PRD (20, [7, 8, 20, 21], [60, 0, 2, 678, 2, 1004]) ws (vs) := by
    refine ⟨nf_in hl rfl, sgq_420 ?_⟩
    · show WTB (w_ei ws (w_ar ws (n_v vs 7) 2)) (w_ei ws (w_ar ws (n_v vs 8) 4)) (v_iv (n_v vs 20)) (v_iv (n_v vs 21))
      rw [q7]
      exact vc_Pl_layTree_4_0 (v_iv (n_v vs 12)) (v_iv (n_v vs 19)) (v_iv (n_v vs 20)) (v_iv (n_v vs 21)) (w_ei ws (w_ar ws (n_v vs 8) 4)) (w_ei ws (w_ar ws (n_v vs 0) 2)) k12 k19 k20 k21 d0 f3 f4 f16
  have nf1 : fc_1 PRD (20, [7, 13, 8, 20, 21], [60, 1, 4, 855, 1000, 2, 5, 4, 2004]) ws (vs) := by
    refine ⟨nf_in hl rfl, sgq_421 ?_⟩
    · show TQB (w_fi ws (n_v vs 13) 0) (w_ei ws (w_ar ws (n_v vs 7) 2)) (w_ei ws (w_ar ws (n_v vs 7) 5)) (w_ei ws (w_ar ws (n_v vs 7) 4)) (w_ei ws (w_ar ws (n_v vs 8) 4)) (v_iv (n_v vs 20)) (v_iv (n_v vs 21))
      rw [q7]
      exact vc_Pl_layTree_4_1 (v_iv (n_v vs 12)) (v_iv (n_v vs 19)) (v_iv (n_v vs 20)) (v_iv (n_v vs 21)) (w_ei ws (w_ar ws (n_v vs 8) 4)) (w_fi ws (n_v vs 13) 0) (w_ei ws (w_ar ws (n_v vs 0) 2)) (w_ei ws (w_ar ws (n_v vs 0) 5)) (w_ei ws (w_ar ws (n_v vs 0) 4)) k12 k19 k20 k21 d0 f3 f4 f17 kz_13_0
  refine ⟨(fun _ h => (by cases h)), [], trivial, ?_, (fun _ h => (by cases h))⟩
  rw [List.append_nil]
  exact List.forall_mem_cons.mpr ⟨⟨show (20 : Nat) < 100 from by decide, nf0⟩, List.forall_mem_cons.mpr ⟨⟨show (20 : Nat) < 100 from by decide, nf1⟩, (fun _ h => (by cases h))⟩⟩
set_option maxHeartbeats 4000000 in
theorem vc_Pl_layTree_5_0 (x12 : Int) (x15 : Int) (part_0o8 : Int → Int) (parts_0o8 : Int) (nodes_0o13 : Int) (k12 : 0 ≤ x12 ∧ x12 ≤ 23) (k15 : 1 ≤ x15 ∧ x15 ≤ 24) (d0 : x15 + (-4294967296) ≤ x12 ∧ x12 ≤ x15 + (-1)) (g5 : x15 = parts_0o8) (f8 : FPA (nodes_0o13) (parts_0o8) (part_0o8)) (kz_8_1 : 0 ≤ parts_0o8 ∧ parts_0o8 ≤ 24) (kz_13_0 : 0 ≤ nodes_0o13 ∧ nodes_0o13 ≤ 24) : FPE (nodes_0o13) (part_0o8) (x12) := by
  first
    | exact (‹FPA _ _ _›).1 x12 (by omega) (by omega)
  
def o_Pl_layTree_5 : or_T := (41, 19, [(8, (2, 0, 0, [2])), (12, (0, 0, 23, [])), (13, (2, 0, 0, [3])), (15, (0, 1, 24, []))], [(9, [15, 8], [1]), (20, [13, 8], [60, 2, 1, 672, 0, 1001, 1004])], [], [], [(20, [13, 8, 12], [60, 1, 1, 681, 0, 1004])], [], [(12, 15, -4294967296, -1)])
theorem oo_Pl_layTree_5 {kA : Nat → ClassId} : or_ok PRD kA GG o_Pl_layTree_5 := by
  refine or_mk fun A ta ws vs hD hth hl => ?_
  intro t8 r8 t12 k12 t13 r13 t15 k15 d0 f5 f8
  replace f5 := shm_215 f5
  have g5 : v_iv (n_v vs 15) = w_fi ws (n_v vs 8) 1 := congrArg v_iv f5
  have kz_8_1 := fdq_278 hD hth r8
  have kz_13_0 := fdq_21 hD hth r13
  have nf0 : fc_1 PRD (20, [13, 8, 12], [60, 1, 1, 681, 0, 1004]) ws (vs) := ⟨nf_in hl rfl, sgq_413 (vc_Pl_layTree_5_0 (v_iv (n_v vs 12)) (v_iv (n_v vs 15)) (w_ei ws (w_ar ws (n_v vs 8) 4)) (w_fi ws (n_v vs 8) 1) (w_fi ws (n_v vs 13) 0) k12 k15 d0 g5 (shm_1179 f8) kz_8_1 kz_13_0)⟩
  refine ⟨(fun _ h => (by cases h)), [], trivial, ?_, (fun _ h => (by cases h))⟩
  rw [List.append_nil]
  exact List.forall_mem_cons.mpr ⟨⟨show (20 : Nat) < 100 from by decide, nf0⟩, (fun _ h => (by cases h))⟩
set_option maxHeartbeats 4000000 in
theorem vc_Pl_layTree_6_r0 (x9 : Int) (x11 : Int) (x12 : Int) (x19 : Int) (part_0o8 : Int → Int) (order_0 : Int → Int) (gy : Int) (k11 : 0 ≤ x11 ∧ x11 ≤ 24) (k12 : 0 ≤ x12 ∧ x12 ≤ 23) (k19 : 0 ≤ x19 ∧ x19 ≤ 23) (f0 : RTP (part_0o8) (x19) (x12)) (f9 : WTB (order_0) (part_0o8) (x11) (x12)) : 0 ≤ x11 ∧ x11 ≤ 23 := by
  first
    | omega
    | assumption
    | (have q := wtb_room (r := x17) ‹WTB _ _ _ _› (by omega) (by omega) (by assumption); omega)
    | (have q := wtb_room (r := x19) ‹WTB _ _ _ _› (by omega) (by omega) (by assumption); omega)
    | (have q := wtb_room (r := x9) ‹WTB _ _ _ _› (by omega) (by omega) (by omega); omega)
    | (rw [show gy = x12 by omega]; assumption)
    | (have q := (‹TQ5 _ _ _ _›).2 x13 (by omega) (by omega); omega)
  
set_option maxHeartbeats 4000000 in
theorem vc_Pl_layTree_6_1 (x9 : Int) (x12 : Int) (x19 : Int) (gy : Int) (k12 : 0 ≤ x12 ∧ x12 ≤ 23) (ey2 : gy = x12) : 1 * gy + ((-1) * x12 + 0) ≤ 0 := by
  first
    | omega
    | assumption
    | (have q := wtb_room (r := x17) ‹WTB _ _ _ _› (by omega) (by omega) (by assumption); omega)
    | (have q := wtb_room (r := x19) ‹WTB _ _ _ _› (by omega) (by omega) (by assumption); omega)
    | (have q := wtb_room (r := x9) ‹WTB _ _ _ _› (by omega) (by omega) (by omega); omega)
    | (rw [show gy = x12 by omega]; assumption)
    | (have q := (‹TQ5 _ _ _ _›).2 x13 (by omega) (by omega); omega)
  
set_option maxHeartbeats 4000000 in
theorem vc_Pl_layTree_6_2 (x9 : Int) (x12 : Int) (x19 : Int) (gy : Int) (k12 : 0 ≤ x12 ∧ x12 ≤ 23) (ey2 : gy = x12) : (-1) * gy + (1 * x12 + 0) ≤ 0 := by
  first
    | omega
    | assumption
    | (have q := wtb_room (r := x17) ‹WTB _ _ _ _› (by omega) (by omega) (by assumption); omega)
    | (have q := wtb_room (r := x19) ‹WTB _ _ _ _› (by omega) (by omega) (by assumption); omega)
    | (have q := wtb_room (r := x9) ‹WTB _ _ _ _› (by omega) (by omega) (by omega); omega)
    | (rw [show gy = x12 by omega]; assumption)
    | (have q := (‹TQ5 _ _ _ _›).2 x13 (by omega) (by omega); omega)
  
set_option maxHeartbeats 4000000 in
theorem vc_Pl_layTree_6_3 (x11 : Int) (x12 : Int) (x19 : Int) (part_0o8 : Int → Int) (order_0 : Int → Int) (gy : Int) (k11 : 0 ≤ x11 ∧ x11 ≤ 24) (k12 : 0 ≤ x12 ∧ x12 ≤ 23) (f9 : WTB (order_0) (part_0o8) (x11) (x12)) (ey2 : gy = x12) : WTB (order_0) (part_0o8) (x11) (gy) := by
  first
    | assumption
    | exact wtb_start (by omega)
    | (rw [show gy = x12 by omega]; exact ‹WTB _ _ _ _›)
    | (rw [show x21 = x19 + 1 by omega]; exact ‹WTA _ _ _ _›)
    | (rw [show x23 = x21 + 1 by omega]; exact ‹WTA _ _ _ _›)
    | (rw [show x22 = x20 + 1 by omega]; exact ‹WTA _ _ _ _›)
  
set_option maxHeartbeats 4000000 in
theorem vc_Pl_layTree_6_4 (x9 : Int) (x12 : Int) (x19 : Int) (part_0o8 : Int → Int) (gy : Int) (k12 : 0 ≤ x12 ∧ x12 ≤ 23) (k19 : 0 ≤ x19 ∧ x19 ≤ 23) (f0 : RTP (part_0o8) (x19) (x12)) (ey2 : gy = x12) : RTP (part_0o8) (x19) (gy) := by
  first
    | assumption
    | (rw [show gy = x12 by omega]; assumption)
    | (rw [show gy = x12 by omega]; show part_0o8 x9 = x12; omega)
    | (show part_0o8 x9 = x12; omega)
  
set_option maxHeartbeats 4000000 in
theorem vc_Pl_layTree_6_5 (part_0o8 : Int → Int) (nodes_0o13 : Int) (near_0o13 : Int → Int) (f10 : PNC (nodes_0o13) (near_0o13) (part_0o8)) (kz_13_0 : 0 ≤ nodes_0o13 ∧ nodes_0o13 ≤ 24) : PNC (nodes_0o13) (near_0o13) (part_0o8) := by
  assumption
set_option maxHeartbeats 4000000 in
theorem vc_Pl_layTree_6_6 (x9 : Int) (x12 : Int) (x19 : Int) (nodes_0o13 : Int) (gy : Int) (k19 : 0 ≤ x19 ∧ x19 ≤ 23) (f1 : (0 ≤ x19) ∧ ((x19 + 1) ≤ nodes_0o13)) (kz_13_0 : 0 ≤ nodes_0o13 ∧ nodes_0o13 ≤ 24) : (0 ≤ x19) ∧ ((x19 + 1) ≤ nodes_0o13) := by
  first
    | omega
    | assumption
    | (have q := wtb_room (r := x17) ‹WTB _ _ _ _› (by omega) (by omega) (by assumption); omega)
    | (have q := wtb_room (r := x19) ‹WTB _ _ _ _› (by omega) (by omega) (by assumption); omega)
    | (have q := wtb_room (r := x9) ‹WTB _ _ _ _› (by omega) (by omega) (by omega); omega)
    | (rw [show gy = x12 by omega]; assumption)
    | (have q := (‹TQ5 _ _ _ _›).2 x13 (by omega) (by omega); omega)
  
set_option maxHeartbeats 4000000 in
theorem vc_Pl_layTree_6_7 (x11 : Int) (x12 : Int) (x19 : Int) (part_0o8 : Int → Int) (nodes_0o13 : Int) (order_0 : Int → Int) (parent_0 : Int → Int) (level_0 : Int → Int) (gy : Int) (k11 : 0 ≤ x11 ∧ x11 ≤ 24) (k12 : 0 ≤ x12 ∧ x12 ≤ 23) (f13 : TQB (nodes_0o13) (order_0) (parent_0) (level_0) (part_0o8) (x11) (x12)) (kz_13_0 : 0 ≤ nodes_0o13 ∧ nodes_0o13 ≤ 24) (ey2 : gy = x12) : TQB (nodes_0o13) (order_0) (parent_0) (level_0) (part_0o8) (x11) (gy) := by
  first
    | assumption
    | exact tqb_start (by omega) (by omega) (fun v a b => ((‹FPA _ _ _›).2 v a b).1)
    | (rw [show gy = x12 by omega]; exact ‹TQB _ _ _ _ _ _ _›)
    | (rw [show x21 = x19 + 1 by omega]; exact ‹TQA _ _ _ _ _ _ _›)
    | (rw [show x23 = x21 + 1 by omega]; exact ‹TQA _ _ _ _ _ _ _›)
    | (rw [show x22 = x20 + 1 by omega]; exact ‹TQA _ _ _ _ _ _ _›)
  
set_option maxHeartbeats 4000000 in
theorem vc_Pl_layTree_6_8 (x9 : Int) (x12 : Int) (x19 : Int) (gy : Int) (k12 : 0 ≤ x12 ∧ x12 ≤ 23) (ey2 : gy = x12) : gy = x12 := by
  first
    | omega
    | assumption
    | (have q := wtb_room (r := x17) ‹WTB _ _ _ _› (by omega) (by omega) (by assumption); omega)
    | (have q := wtb_room (r := x19) ‹WTB _ _ _ _› (by omega) (by omega) (by assumption); omega)
    | (have q := wtb_room (r := x9) ‹WTB _ _ _ _› (by omega) (by omega) (by omega); omega)
    | (rw [show gy = x12 by omega]; assumption)
    | (have q := (‹TQ5 _ _ _ _›).2 x13 (by omega) (by omega); omega)
  
def o_Pl_layTree_6 : or_T := (51, 20, [(0, (2, 0, 0, [6])), (7, (2, 0, 0, [6])), (8, (2, 0, 0, [2])), (9, (0, 0, 23, [])), (11, (0, 0, 24, [])), (12, (0, 0, 23, [])), (13, (2, 0, 0, [3])), (15, (0, 1, 24, [])), (16, (0, -1, -1, [])), (17, (2, 0, 0, [37])), (18, (0, -1, 24, [])), (19, (0, 0, 23, []))], [(20, [8, 19, 12], [60, 0, 1, 680, 4]), (20, [19, 13], [50, 1, 0, 1000, 2, 6, 0, 2, 0, 0, 1, 0, 0, 6, 4, 2, 1, 0, 0, 1, 2, 1, 0]), (20, [13, 8, 12], [60, 1, 1, 681, 0, 1004]), (7, [18, 12], [1]), (10, [18, 17, 9], []), (9, [17, 8], [4]), (7, [9, 16], [1]), (7, [12, 15], [2]), (9, [15, 8], [1]), (20, [7, 8, 11, 12], [60, 0, 2, 678, 2, 1004]), (20, [13, 8], [60, 1, 2, 671, 0, 14, 1004]), (20, [13, 8], [60, 2, 1, 672, 0, 1001, 1004]), (20, [9, 13], [50, 1, 0, 1000, 2, 6, 0, 2, 0, -1, 1, 0, 0, 6, 4, 2, 1, 0, 0, 1, 2, 1, 0]), (20, [7, 13, 8, 11, 12], [60, 1, 4, 855, 1000, 2, 5, 4, 2004]), (24, [0, 7], [])], [(11, (0, 0, 23, []))], [(2, 0, 0, [2]), (0, 0, 24, [])], [(24, [8, 20], []), (23, [21, 12], [0, 1, -1]), (23, [21, 12], [0, -1, 1]), (20, [7, 20, 11, 21], [60, 0, 2, 678, 2, 1004]), (20, [20, 19, 21], [60, 0, 1, 680, 4]), (20, [13, 20], [60, 1, 2, 671, 0, 14, 1004]), (20, [19, 13], [50, 1, 0, 1000, 2, 6, 0, 2, 0, 0, 1, 0, 0, 6, 4, 2, 1, 0, 0, 1, 2, 1, 0]), (20, [7, 13, 20, 11, 21], [60, 1, 4, 855, 1000, 2, 5, 4, 2004]), (20, [21, 12], [50, 0, 0, 1, 2, 1, 0, 1, 1])], [], [(12, 15, -4294967296, -1), (11, 12, -4294967296, 23)])
theorem oo_Pl_layTree_6 {kA : Nat → ClassId} : or_ok PRD kA GG o_Pl_layTree_6 := by
  refine or_mk fun A ta ws vs hD hth hl => ?_
  intro t0 r0 t7 r7 t8 r8 t9 k9 t11 k11 t12 k12 t13 r13 t15 k15 t16 k16 t17 r17 t18 k18 t19 k19 d0 d1 f0 f1 f2 f3 f4 f5 f6 f7 f8 f9 f10 f11 f12 f13 f14
  replace f0 := shm_415 f0
  replace f1 := shm_416 f1
  replace f9 := shm_420 f9
  replace f10 := shm_419 f10
  replace f13 := shm_421 f13
  replace f14 := shm_5 f14
  have q7 : n_v vs 7 = n_v vs 0 := f14.symm
  simp only [q7] at f9 f13
  have kz_13_0 := fdq_21 hD hth r13
  obtain ⟨y, ey, hy⟩ := iv_ex (ta := ta) (lo := 0) (hi := 24) (z := v_iv (n_v vs 12)) (by omega) (by omega) (by omega) (by omega)
  have ey2 : v_iv (Value.int y) = v_iv (n_v vs 12) := ey
  have ey3 : 0 ≤ v_iv (Value.int y) ∧ v_iv (Value.int y) ≤ 24 := tv_rng hy
  have hrf0 : 0 ≤ v_iv (n_v vs 11) ∧ v_iv (n_v vs 11) ≤ 23 := vc_Pl_layTree_6_r0 (v_iv (n_v vs 9)) (v_iv (n_v vs 11)) (v_iv (n_v vs 12)) (v_iv (n_v vs 19)) (w_ei ws (w_ar ws (n_v vs 8) 4)) (w_ei ws (w_ar ws (n_v vs 0) 2)) (v_iv (Value.int y)) k11 k12 k19 f0 f9
  have e_7 : n_v (vs ++ [n_v vs 8, Value.int y]) 7 = n_v vs 7 := n_v_old (by rw [hl]; decide)
  have e_8 : n_v (vs ++ [n_v vs 8, Value.int y]) 8 = n_v vs 8 := n_v_old (by rw [hl]; decide)
  have e_11 : n_v (vs ++ [n_v vs 8, Value.int y]) 11 = n_v vs 11 := n_v_old (by rw [hl]; decide)
  have e_12 : n_v (vs ++ [n_v vs 8, Value.int y]) 12 = n_v vs 12 := n_v_old (by rw [hl]; decide)
  have e_13 : n_v (vs ++ [n_v vs 8, Value.int y]) 13 = n_v vs 13 := n_v_old (by rw [hl]; decide)
  have e_19 : n_v (vs ++ [n_v vs 8, Value.int y]) 19 = n_v vs 19 := n_v_old (by rw [hl]; decide)
  have e_20 : n_v (vs ++ [n_v vs 8, Value.int y]) 20 = n_v vs 8 := n_v_new0 hl
  have e_21 : n_v (vs ++ [n_v vs 8, Value.int y]) 21 = Value.int y := n_v_new1 hl
  have nf0 : fc_1 PRD (24, [8, 20], []) ws (vs ++ [n_v vs 8, Value.int y]) := by
    refine ⟨nf_inA hl rfl, sgq_5 ?_⟩
    · show n_v (vs ++ [n_v vs 8, Value.int y]) 8 = n_v (vs ++ [n_v vs 8, Value.int y]) 20
      first | rfl | simp only [e_8, e_20, q7]
  have nf1 : fc_1 PRD (23, [21, 12], [0, 1, -1]) ws (vs ++ [n_v vs 8, Value.int y]) := by
    refine ⟨nf_inA hl rfl, sgq_7 ?_⟩
    · show 1 * v_iv (n_v (vs ++ [n_v vs 8, Value.int y]) 21) + ((-1) * v_iv (n_v (vs ++ [n_v vs 8, Value.int y]) 12) + 0) ≤ 0
      simp only [e_12, e_21]
      exact vc_Pl_layTree_6_1 (v_iv (n_v vs 9)) (v_iv (n_v vs 12)) (v_iv (n_v vs 19)) (v_iv (Value.int y)) k12 ey2
  have nf2 : fc_1 PRD (23, [21, 12], [0, -1, 1]) ws (vs ++ [n_v vs 8, Value.int y]) := by
    refine ⟨nf_inA hl rfl, sgq_22 ?_⟩
    · show (-1) * v_iv (n_v (vs ++ [n_v vs 8, Value.int y]) 21) + (1 * v_iv (n_v (vs ++ [n_v vs 8, Value.int y]) 12) + 0) ≤ 0
      simp only [e_12, e_21]
      exact vc_Pl_layTree_6_2 (v_iv (n_v vs 9)) (v_iv (n_v vs 12)) (v_iv (n_v vs 19)) (v_iv (Value.int y)) k12 ey2
  have nf3 : fc_1 PRD (20, [7, 20, 11, 21], [60, 0, 2, 678, 2, 1004]) ws (vs ++ [n_v vs 8, Value.int y]) := by
    refine ⟨nf_inA hl rfl, sgq_420 ?_⟩
    · show WTB (w_ei ws (w_ar ws (n_v (vs ++ [n_v vs 8, Value.int y]) 7) 2)) (w_ei ws (w_ar ws (n_v (vs ++ [n_v vs 8, Value.int y]) 20) 4)) (v_iv (n_v (vs ++ [n_v vs 8, Value.int y]) 11)) (v_iv (n_v (vs ++ [n_v vs 8, Value.int y]) 21))
      simp only [e_7, e_11, e_20, e_21, q7]
      exact vc_Pl_layTree_6_3 (v_iv (n_v vs 11)) (v_iv (n_v vs 12)) (v_iv (n_v vs 19)) (w_ei ws (w_ar ws (n_v vs 8) 4)) (w_ei ws (w_ar ws (n_v vs 0) 2)) (v_iv (Value.int y)) k11 k12 f9 ey2
  have nf4 : fc_1 PRD (20, [20, 19, 21], [60, 0, 1, 680, 4]) ws (vs ++ [n_v vs 8, Value.int y]) := by
    refine ⟨nf_inA hl rfl, sgq_415 ?_⟩
    · show RTP (w_ei ws (w_ar ws (n_v (vs ++ [n_v vs 8, Value.int y]) 20) 4)) (v_iv (n_v (vs ++ [n_v vs 8, Value.int y]) 19)) (v_iv (n_v (vs ++ [n_v vs 8, Value.int y]) 21))
      simp only [e_19, e_20, e_21]
      exact vc_Pl_layTree_6_4 (v_iv (n_v vs 9)) (v_iv (n_v vs 12)) (v_iv (n_v vs 19)) (w_ei ws (w_ar ws (n_v vs 8) 4)) (v_iv (Value.int y)) k12 k19 f0 ey2
  have nf5 : fc_1 PRD (20, [13, 20], [60, 1, 2, 671, 0, 14, 1004]) ws (vs ++ [n_v vs 8, Value.int y]) := by
    refine ⟨nf_inA hl rfl, sgq_419 ?_⟩
    · show PNC (w_fi ws (n_v (vs ++ [n_v vs 8, Value.int y]) 13) 0) (w_ei ws (w_ar ws (n_v (vs ++ [n_v vs 8, Value.int y]) 13) 14)) (w_ei ws (w_ar ws (n_v (vs ++ [n_v vs 8, Value.int y]) 20) 4))
      simp only [e_13, e_20]
      exact vc_Pl_layTree_6_5 (w_ei ws (w_ar ws (n_v vs 8) 4)) (w_fi ws (n_v vs 13) 0) (w_ei ws (w_ar ws (n_v vs 13) 14)) f10 kz_13_0
  have nf6 : fc_1 PRD (20, [19, 13], [50, 1, 0, 1000, 2, 6, 0, 2, 0, 0, 1, 0, 0, 6, 4, 2, 1, 0, 0, 1, 2, 1, 0]) ws (vs ++ [n_v vs 8, Value.int y]) := by
    refine ⟨nf_inA hl rfl, sgq_416 ?_⟩
    · show (0 ≤ v_iv (n_v (vs ++ [n_v vs 8, Value.int y]) 19)) ∧ ((v_iv (n_v (vs ++ [n_v vs 8, Value.int y]) 19) + 1) ≤ w_fi ws (n_v (vs ++ [n_v vs 8, Value.int y]) 13) 0)
      simp only [e_13, e_19]
      exact vc_Pl_layTree_6_6 (v_iv (n_v vs 9)) (v_iv (n_v vs 12)) (v_iv (n_v vs 19)) (w_fi ws (n_v vs 13) 0) (v_iv (Value.int y)) k19 f1 kz_13_0
  have nf7 : fc_1 PRD (20, [7, 13, 20, 11, 21], [60, 1, 4, 855, 1000, 2, 5, 4, 2004]) ws (vs ++ [n_v vs 8, Value.int y]) := by
    refine ⟨nf_inA hl rfl, sgq_421 ?_⟩
    · show TQB (w_fi ws (n_v (vs ++ [n_v vs 8, Value.int y]) 13) 0) (w_ei ws (w_ar ws (n_v (vs ++ [n_v vs 8, Value.int y]) 7) 2)) (w_ei ws (w_ar ws (n_v (vs ++ [n_v vs 8, Value.int y]) 7) 5)) (w_ei ws (w_ar ws (n_v (vs ++ [n_v vs 8, Value.int y]) 7) 4)) (w_ei ws (w_ar ws (n_v (vs ++ [n_v vs 8, Value.int y]) 20) 4)) (v_iv (n_v (vs ++ [n_v vs 8, Value.int y]) 11)) (v_iv (n_v (vs ++ [n_v vs 8, Value.int y]) 21))
      simp only [e_7, e_11, e_13, e_20, e_21, q7]
      exact vc_Pl_layTree_6_7 (v_iv (n_v vs 11)) (v_iv (n_v vs 12)) (v_iv (n_v vs 19)) (w_ei ws (w_ar ws (n_v vs 8) 4)) (w_fi ws (n_v vs 13) 0) (w_ei ws (w_ar ws (n_v vs 0) 2)) (w_ei ws (w_ar ws (n_v vs 0) 5)) (w_ei ws (w_ar ws (n_v vs 0) 4)) (v_iv (Value.int y)) k11 k12 f13 kz_13_0 ey2
  have nf8 : fc_1 PRD (20, [21, 12], [50, 0, 0, 1, 2, 1, 0, 1, 1]) ws (vs ++ [n_v vs 8, Value.int y]) := by
    refine ⟨nf_inA hl rfl, sgq_48 ?_⟩
    · show v_iv (n_v (vs ++ [n_v vs 8, Value.int y]) 21) = v_iv (n_v (vs ++ [n_v vs 8, Value.int y]) 12)
      simp only [e_12, e_21]
      exact vc_Pl_layTree_6_8 (v_iv (n_v vs 9)) (v_iv (n_v vs 12)) (v_iv (n_v vs 19)) (v_iv (Value.int y)) k12 ey2
  have rf11 : tv_ok ta (0, 0, 23, []) (n_v vs 11) := tv_in t11 (by first | omega | grind) (by first | omega | grind)
  exact ⟨List.forall_mem_cons.mpr ⟨rf11, (fun _ h => (by cases h))⟩, [n_v vs 8, Value.int y], ag_two t8 hy, List.forall_mem_cons.mpr ⟨⟨show (24 : Nat) < 100 from by decide, nf0⟩, List.forall_mem_cons.mpr ⟨⟨show (23 : Nat) < 100 from by decide, nf1⟩, List.forall_mem_cons.mpr ⟨⟨show (23 : Nat) < 100 from by decide, nf2⟩, List.forall_mem_cons.mpr ⟨⟨show (20 : Nat) < 100 from by decide, nf3⟩, List.forall_mem_cons.mpr ⟨⟨show (20 : Nat) < 100 from by decide, nf4⟩, List.forall_mem_cons.mpr ⟨⟨show (20 : Nat) < 100 from by decide, nf5⟩, List.forall_mem_cons.mpr ⟨⟨show (20 : Nat) < 100 from by decide, nf6⟩, List.forall_mem_cons.mpr ⟨⟨show (20 : Nat) < 100 from by decide, nf7⟩, List.forall_mem_cons.mpr ⟨⟨show (20 : Nat) < 100 from by decide, nf8⟩, (fun _ h => (by cases h))⟩⟩⟩⟩⟩⟩⟩⟩⟩, (fun _ h => (by cases h))⟩
set_option maxHeartbeats 4000000 in
theorem vc_Pl_layTree_7_0 (x12 : Int) (x19 : Int) (x21 : Int) (x22 : Int) (x23 : Int) (part_0o8 : Int → Int) (order_0 : Int → Int) (k12 : 0 ≤ x12 ∧ x12 ≤ 23) (k21 : 0 ≤ x21 ∧ x21 ≤ 24) (k22 : 1 ≤ x22 ∧ x22 ≤ 24) (k23 : 1 ≤ x23 ∧ x23 ≤ 24) (d0 : x12 + 1 ≤ x23 ∧ x23 ≤ x12 + 1) (f4 : 1 * x21 + ((-1) * x12 + 0) ≤ 0) (f5 : (-1) * x21 + (1 * x12 + 0) ≤ 0) (f17 : WTA (order_0) (part_0o8) (x22) (x21)) : WTB (order_0) (part_0o8) (x22) (x23) := by
  first
    | assumption
    | exact wtb_start (by omega)
    | (rw [show gy = x12 by omega]; exact ‹WTB _ _ _ _›)
    | (rw [show x21 = x19 + 1 by omega]; exact ‹WTA _ _ _ _›)
    | (rw [show x23 = x21 + 1 by omega]; exact ‹WTA _ _ _ _›)
    | (rw [show x22 = x20 + 1 by omega]; exact ‹WTA _ _ _ _›)
  
set_option maxHeartbeats 4000000 in
theorem vc_Pl_layTree_7_1 (x12 : Int) (x19 : Int) (x21 : Int) (x22 : Int) (x23 : Int) (part_0o8 : Int → Int) (nodes_0o13 : Int) (order_0 : Int → Int) (parent_0 : Int → Int) (level_0 : Int → Int) (k12 : 0 ≤ x12 ∧ x12 ≤ 23) (k21 : 0 ≤ x21 ∧ x21 ≤ 24) (k22 : 1 ≤ x22 ∧ x22 ≤ 24) (k23 : 1 ≤ x23 ∧ x23 ≤ 24) (d0 : x12 + 1 ≤ x23 ∧ x23 ≤ x12 + 1) (f4 : 1 * x21 + ((-1) * x12 + 0) ≤ 0) (f5 : (-1) * x21 + (1 * x12 + 0) ≤ 0) (f18 : TQA (nodes_0o13) (order_0) (parent_0) (level_0) (part_0o8) (x22) (x21)) (kz_13_0 : 0 ≤ nodes_0o13 ∧ nodes_0o13 ≤ 24) : TQB (nodes_0o13) (order_0) (parent_0) (level_0) (part_0o8) (x22) (x23) := by
  first
    | assumption
    | exact tqb_start (by omega) (by omega) (fun v a b => ((‹FPA _ _ _›).2 v a b).1)
    | (rw [show gy = x12 by omega]; exact ‹TQB _ _ _ _ _ _ _›)
    | (rw [show x21 = x19 + 1 by omega]; exact ‹TQA _ _ _ _ _ _ _›)
    | (rw [show x23 = x21 + 1 by omega]; exact ‹TQA _ _ _ _ _ _ _›)
    | (rw [show x22 = x20 + 1 by omega]; exact ‹TQA _ _ _ _ _ _ _›)
  
def o_Pl_layTree_7 : or_T := (8, 24, [(12, (0, 0, 23, [])), (13, (2, 0, 0, [3])), (21, (0, 0, 24, [])), (22, (0, 1, 24, [])), (23, (0, 1, 24, []))], [(24, [8, 20], []), (23, [21, 12], [0, 1, -1]), (23, [21, 12], [0, -1, 1]), (24, [0, 7], []), (20, [7, 20, 22, 21], [60, 0, 2, 679, 2, 1004]), (20, [7, 13, 20, 22, 21], [60, 1, 4, 856, 1000, 2, 5, 4, 2004])], [], [], [(20, [7, 8, 22, 23], [60, 0, 2, 678, 2, 1004]), (20, [7, 13, 8, 22, 23], [60, 1, 4, 855, 1000, 2, 5, 4, 2004])], [], [(23, 12, 1, 1)])
theorem oo_Pl_layTree_7 {kA : Nat → ClassId} : or_ok PRD kA GG o_Pl_layTree_7 := by
  refine or_mk fun A ta ws vs hD hth hl => ?_
  intro t12 k12 t13 r13 t21 k21 t22 k22 t23 k23 d0 f3 f4 f5 f16 f17 f18
  replace f3 := shm_5 f3
  replace f4 := shm_7 f4
  replace f5 := shm_22 f5
  replace f16 := shm_5 f16
  replace f17 := shm_426 f17
  replace f18 := shm_427 f18
  have q20 : n_v vs 20 = n_v vs 8 := f3.symm
  have q7 : n_v vs 7 = n_v vs 0 := f16.symm
  simp only [q20, q7] at f17 f18
  have kz_13_0 := fdq_21 hD hth r13
  have nf0 : fc_1 PRD (20, [7, 8, 22, 23], [60, 0, 2, 678, 2, 1004]) ws (vs) := by
    refine ⟨nf_in hl rfl, sgq_420 ?_⟩
    · show WTB (w_ei ws (w_ar ws (n_v vs 7) 2)) (w_ei ws (w_ar ws (n_v vs 8) 4)) (v_iv (n_v vs 22)) (v_iv (n_v vs 23))
      rw [q7]
      exact vc_Pl_layTree_7_0 (v_iv (n_v vs 12)) (v_iv (n_v vs 19)) (v_iv (n_v vs 21)) (v_iv (n_v vs 22)) (v_iv (n_v vs 23)) (w_ei ws (w_ar ws (n_v vs 8) 4)) (w_ei ws (w_ar ws (n_v vs 0) 2)) k12 k21 k22 k23 d0 f4 f5 f17
  have nf1 : fc_1 PRD (20, [7, 13, 8, 22, 23], [60, 1, 4, 855, 1000, 2, 5, 4, 2004]) ws (vs) := by
    refine ⟨nf_in hl rfl, sgq_421 ?_⟩
    · show TQB (w_fi ws (n_v vs 13) 0) (w_ei ws (w_ar ws (n_v vs 7) 2)) (w_ei ws (w_ar ws (n_v vs 7) 5)) (w_ei ws (w_ar ws (n_v vs 7) 4)) (w_ei ws (w_ar ws (n_v vs 8) 4)) (v_iv (n_v vs 22)) (v_iv (n_v vs 23))
      rw [q7]
      exact vc_Pl_layTree_7_1 (v_iv (n_v vs 12)) (v_iv (n_v vs 19)) (v_iv (n_v vs 21)) (v_iv (n_v vs 22)) (v_iv (n_v vs 23)) (w_ei ws (w_ar ws (n_v vs 8) 4)) (w_fi ws (n_v vs 13) 0) (w_ei ws (w_ar ws (n_v vs 0) 2)) (w_ei ws (w_ar ws (n_v vs 0) 5)) (w_ei ws (w_ar ws (n_v vs 0) 4)) k12 k21 k22 k23 d0 f4 f5 f18 kz_13_0
  refine ⟨(fun _ h => (by cases h)), [], trivial, ?_, (fun _ h => (by cases h))⟩
  rw [List.append_nil]
  exact List.forall_mem_cons.mpr ⟨⟨show (20 : Nat) < 100 from by decide, nf0⟩, List.forall_mem_cons.mpr ⟨⟨show (20 : Nat) < 100 from by decide, nf1⟩, (fun _ h => (by cases h))⟩⟩
set_option maxHeartbeats 4000000 in
theorem vc_Pl_layTree_8_r0 (x9 : Int) (x11 : Int) (x12 : Int) (x18 : Int) (part_0o8 : Int → Int) (order_0 : Int → Int) (gy : Int) (k9 : 0 ≤ x9 ∧ x9 ≤ 23) (k11 : 0 ≤ x11 ∧ x11 ≤ 24) (k12 : 0 ≤ x12 ∧ x12 ≤ 23) (k18 : 0 ≤ x18 ∧ x18 ≤ 23) (d0 : x12 + 0 ≤ x18 ∧ x18 ≤ x12 + 0) (h1 : x18 = part_0o8 (x9)) (f6 : WTB (order_0) (part_0o8) (x11) (x12)) : 0 ≤ x11 ∧ x11 ≤ 23 := by
  first
    | omega
    | assumption
    | (have q := wtb_room (r := x17) ‹WTB _ _ _ _› (by omega) (by omega) (by assumption); omega)
    | (have q := wtb_room (r := x19) ‹WTB _ _ _ _› (by omega) (by omega) (by assumption); omega)
    | (have q := wtb_room (r := x9) ‹WTB _ _ _ _› (by omega) (by omega) (by omega); omega)
    | (rw [show gy = x12 by omega]; assumption)
    | (have q := (‹TQ5 _ _ _ _›).2 x13 (by omega) (by omega); omega)
  
set_option maxHeartbeats 4000000 in
theorem vc_Pl_layTree_8_0 (x9 : Int) (x12 : Int) (x18 : Int) (part_0o8 : Int → Int) (gy : Int) (k9 : 0 ≤ x9 ∧ x9 ≤ 23) (k12 : 0 ≤ x12 ∧ x12 ≤ 23) (k18 : 0 ≤ x18 ∧ x18 ≤ 23) (d0 : x12 + 0 ≤ x18 ∧ x18 ≤ x12 + 0) (h1 : x18 = part_0o8 (x9)) : RTP (part_0o8) (x9) (x12) := by
  first
    | assumption
    | (rw [show gy = x12 by omega]; assumption)
    | (rw [show gy = x12 by omega]; show part_0o8 x9 = x12; omega)
    | (show part_0o8 x9 = x12; omega)
  
set_option maxHeartbeats 4000000 in
theorem vc_Pl_layTree_8_1 (x9 : Int) (x12 : Int) (nodes_0o13 : Int) (gy : Int) (k9 : 0 ≤ x9 ∧ x9 ≤ 23) (f9 : ((-1) ≤ x9) ∧ ((x9 + 1) ≤ nodes_0o13)) (kz_13_0 : 0 ≤ nodes_0o13 ∧ nodes_0o13 ≤ 24) : (0 ≤ x9) ∧ ((x9 + 1) ≤ nodes_0o13) := by
  first
    | omega
    | assumption
    | (have q := wtb_room (r := x17) ‹WTB _ _ _ _› (by omega) (by omega) (by assumption); omega)
    | (have q := wtb_room (r := x19) ‹WTB _ _ _ _› (by omega) (by omega) (by assumption); omega)
    | (have q := wtb_room (r := x9) ‹WTB _ _ _ _› (by omega) (by omega) (by omega); omega)
    | (rw [show gy = x12 by omega]; assumption)
    | (have q := (‹TQ5 _ _ _ _›).2 x13 (by omega) (by omega); omega)
  
set_option maxHeartbeats 4000000 in
theorem vc_Pl_layTree_8_3 (x9 : Int) (x12 : Int) (x18 : Int) (part_0o8 : Int → Int) (gy : Int) (k9 : 0 ≤ x9 ∧ x9 ≤ 23) (k12 : 0 ≤ x12 ∧ x12 ≤ 23) (k18 : 0 ≤ x18 ∧ x18 ≤ 23) (d0 : x12 + 0 ≤ x18 ∧ x18 ≤ x12 + 0) (h1 : x18 = part_0o8 (x9)) (ey2 : gy = x12) : 1 * gy + ((-1) * x12 + 0) ≤ 0 := by
  first
    | omega
    | assumption
    | (have q := wtb_room (r := x17) ‹WTB _ _ _ _› (by omega) (by omega) (by assumption); omega)
    | (have q := wtb_room (r := x19) ‹WTB _ _ _ _› (by omega) (by omega) (by assumption); omega)
    | (have q := wtb_room (r := x9) ‹WTB _ _ _ _› (by omega) (by omega) (by omega); omega)
    | (rw [show gy = x12 by omega]; assumption)
    | (have q := (‹TQ5 _ _ _ _›).2 x13 (by omega) (by omega); omega)
  
set_option maxHeartbeats 4000000 in
theorem vc_Pl_layTree_8_4 (x9 : Int) (x12 : Int) (x18 : Int) (part_0o8 : Int → Int) (gy : Int) (k9 : 0 ≤ x9 ∧ x9 ≤ 23) (k12 : 0 ≤ x12 ∧ x12 ≤ 23) (k18 : 0 ≤ x18 ∧ x18 ≤ 23) (d0 : x12 + 0 ≤ x18 ∧ x18 ≤ x12 + 0) (h1 : x18 = part_0o8 (x9)) (ey2 : gy = x12) : (-1) * gy + (1 * x12 + 0) ≤ 0 := by
  first
    | omega
    | assumption
    | (have q := wtb_room (r := x17) ‹WTB _ _ _ _› (by omega) (by omega) (by assumption); omega)
    | (have q := wtb_room (r := x19) ‹WTB _ _ _ _› (by omega) (by omega) (by assumption); omega)
    | (have q := wtb_room (r := x9) ‹WTB _ _ _ _› (by omega) (by omega) (by omega); omega)
    | (rw [show gy = x12 by omega]; assumption)
    | (have q := (‹TQ5 _ _ _ _›).2 x13 (by omega) (by omega); omega)
  
set_option maxHeartbeats 4000000 in
theorem vc_Pl_layTree_8_5 (x11 : Int) (x12 : Int) (part_0o8 : Int → Int) (order_0 : Int → Int) (gy : Int) (k11 : 0 ≤ x11 ∧ x11 ≤ 24) (k12 : 0 ≤ x12 ∧ x12 ≤ 23) (f6 : WTB (order_0) (part_0o8) (x11) (x12)) (ey2 : gy = x12) : WTB (order_0) (part_0o8) (x11) (gy) := by
  first
    | assumption
    | exact wtb_start (by omega)
    | (rw [show gy = x12 by omega]; exact ‹WTB _ _ _ _›)
    | (rw [show x21 = x19 + 1 by omega]; exact ‹WTA _ _ _ _›)
    | (rw [show x23 = x21 + 1 by omega]; exact ‹WTA _ _ _ _›)
    | (rw [show x22 = x20 + 1 by omega]; exact ‹WTA _ _ _ _›)
  
set_option maxHeartbeats 4000000 in
theorem vc_Pl_layTree_8_6 (x9 : Int) (x12 : Int) (x18 : Int) (part_0o8 : Int → Int) (gy : Int) (k9 : 0 ≤ x9 ∧ x9 ≤ 23) (k12 : 0 ≤ x12 ∧ x12 ≤ 23) (k18 : 0 ≤ x18 ∧ x18 ≤ 23) (d0 : x12 + 0 ≤ x18 ∧ x18 ≤ x12 + 0) (h1 : x18 = part_0o8 (x9)) (ey2 : gy = x12) : RTP (part_0o8) (x9) (gy) := by
  first
    | assumption
    | (rw [show gy = x12 by omega]; assumption)
    | (rw [show gy = x12 by omega]; show part_0o8 x9 = x12; omega)
    | (show part_0o8 x9 = x12; omega)
  
set_option maxHeartbeats 4000000 in
theorem vc_Pl_layTree_8_7 (part_0o8 : Int → Int) (near_0o13 : Int → Int) (nodes_0o13 : Int) (f7 : PNC (nodes_0o13) (near_0o13) (part_0o8)) (kz_13_0 : 0 ≤ nodes_0o13 ∧ nodes_0o13 ≤ 24) : PNC (nodes_0o13) (near_0o13) (part_0o8) := by
  assumption
set_option maxHeartbeats 4000000 in
theorem vc_Pl_layTree_8_8 (x9 : Int) (x12 : Int) (nodes_0o13 : Int) (gy : Int) (k9 : 0 ≤ x9 ∧ x9 ≤ 23) (f9 : ((-1) ≤ x9) ∧ ((x9 + 1) ≤ nodes_0o13)) (kz_13_0 : 0 ≤ nodes_0o13 ∧ nodes_0o13 ≤ 24) : (0 ≤ x9) ∧ ((x9 + 1) ≤ nodes_0o13) := by
  first
    | omega
    | assumption
    | (have q := wtb_room (r := x17) ‹WTB _ _ _ _› (by omega) (by omega) (by assumption); omega)
    | (have q := wtb_room (r := x19) ‹WTB _ _ _ _› (by omega) (by omega) (by assumption); omega)
    | (have q := wtb_room (r := x9) ‹WTB _ _ _ _› (by omega) (by omega) (by omega); omega)
    | (rw [show gy = x12 by omega]; assumption)
    | (have q := (‹TQ5 _ _ _ _›).2 x13 (by omega) (by omega); omega)
  
set_option maxHeartbeats 4000000 in
theorem vc_Pl_layTree_8_9 (x11 : Int) (x12 : Int) (part_0o8 : Int → Int) (order_0 : Int → Int) (nodes_0o13 : Int) (parent_0 : Int → Int) (level_0 : Int → Int) (gy : Int) (k11 : 0 ≤ x11 ∧ x11 ≤ 24) (k12 : 0 ≤ x12 ∧ x12 ≤ 23) (f10 : TQB (nodes_0o13) (order_0) (parent_0) (level_0) (part_0o8) (x11) (x12)) (kz_13_0 : 0 ≤ nodes_0o13 ∧ nodes_0o13 ≤ 24) (ey2 : gy = x12) : TQB (nodes_0o13) (order_0) (parent_0) (level_0) (part_0o8) (x11) (gy) := by
  first
    | assumption
    | exact tqb_start (by omega) (by omega) (fun v a b => ((‹FPA _ _ _›).2 v a b).1)
    | (rw [show gy = x12 by omega]; exact ‹TQB _ _ _ _ _ _ _›)
    | (rw [show x21 = x19 + 1 by omega]; exact ‹TQA _ _ _ _ _ _ _›)
    | (rw [show x23 = x21 + 1 by omega]; exact ‹TQA _ _ _ _ _ _ _›)
    | (rw [show x22 = x20 + 1 by omega]; exact ‹TQA _ _ _ _ _ _ _›)
  
set_option maxHeartbeats 4000000 in
theorem vc_Pl_layTree_8_10 (x9 : Int) (x12 : Int) (gy : Int) (k12 : 0 ≤ x12 ∧ x12 ≤ 23) (ey2 : gy = x12) : gy = x12 := by
  first
    | omega
    | assumption
    | (have q := wtb_room (r := x17) ‹WTB _ _ _ _› (by omega) (by omega) (by assumption); omega)
    | (have q := wtb_room (r := x19) ‹WTB _ _ _ _› (by omega) (by omega) (by assumption); omega)
    | (have q := wtb_room (r := x9) ‹WTB _ _ _ _› (by omega) (by omega) (by omega); omega)
    | (rw [show gy = x12 by omega]; assumption)
    | (have q := (‹TQ5 _ _ _ _›).2 x13 (by omega) (by omega); omega)
  
def o_Pl_layTree_8 : or_T := (51, 19, [(0, (2, 0, 0, [6])), (7, (2, 0, 0, [6])), (8, (2, 0, 0, [2])), (9, (0, 0, 23, [])), (11, (0, 0, 24, [])), (12, (0, 0, 23, [])), (13, (2, 0, 0, [3])), (15, (0, 1, 24, [])), (16, (0, -1, -1, [])), (17, (2, 0, 0, [37])), (18, (0, 0, 23, []))], [(7, [18, 12], [0]), (10, [18, 17, 9], []), (9, [17, 8], [4]), (7, [9, 16], [1]), (7, [12, 15], [2]), (9, [15, 8], [1]), (20, [7, 8, 11, 12], [60, 0, 2, 678, 2, 1004]), (20, [13, 8], [60, 1, 2, 671, 0, 14, 1004]), (20, [13, 8], [60, 2, 1, 672, 0, 1001, 1004]), (20, [9, 13], [50, 1, 0, 1000, 2, 6, 0, 2, 0, -1, 1, 0, 0, 6, 4, 2, 1, 0, 0, 1, 2, 1, 0]), (20, [7, 13, 8, 11, 12], [60, 1, 4, 855, 1000, 2, 5, 4, 2004]), (24, [0, 7], [])], [(11, (0, 0, 23, []))], [(2, 0, 0, [2]), (0, 0, 24, [])], [(20, [8, 9, 12], [60, 0, 1, 680, 4]), (20, [9, 13], [50, 1, 0, 1000, 2, 6, 0, 2, 0, 0, 1, 0, 0, 6, 4, 2, 1, 0, 0, 1, 2, 1, 0]), (24, [8, 19], []), (23, [20, 12], [0, 1, -1]), (23, [20, 12], [0, -1, 1]), (20, [7, 19, 11, 20], [60, 0, 2, 678, 2, 1004]), (20, [19, 9, 20], [60, 0, 1, 680, 4]), (20, [13, 19], [60, 1, 2, 671, 0, 14, 1004]), (20, [9, 13], [50, 1, 0, 1000, 2, 6, 0, 2, 0, 0, 1, 0, 0, 6, 4, 2, 1, 0, 0, 1, 2, 1, 0]), (20, [7, 13, 19, 11, 20], [60, 1, 4, 855, 1000, 2, 5, 4, 2004]), (20, [20, 12], [50, 0, 0, 1, 2, 1, 0, 1, 1])], [], [(18, 12, 0, 0), (12, 15, -4294967296, -1), (11, 12, -4294967296, 23)])
theorem oo_Pl_layTree_8 {kA : Nat → ClassId} : or_ok PRD kA GG o_Pl_layTree_8 := by
  refine or_mk fun A ta ws vs hD hth hl => ?_
  intro t0 r0 t7 r7 t8 r8 t9 k9 t11 k11 t12 k12 t13 r13 t15 k15 t16 k16 t17 r17 t18 k18 d0 d1 d2 f0 f1 f2 f3 f4 f5 f6 f7 f8 f9 f10 f11
  replace f1 := shm_107 f1
  replace f2 := shm_108 f2
  replace f6 := shm_420 f6
  replace f7 := shm_419 f7
  replace f9 := shm_1784 f9
  replace f10 := shm_421 f10
  replace f11 := shm_5 f11
  have q7 : n_v vs 7 = n_v vs 0 := f11.symm
  simp only [q7] at f6 f10
  have ad_17 : v_ad (n_v vs 17) = w_ar ws (n_v vs 8) 4 := congrArg v_ad f2
  simp only [ad_17] at f1
  have h1 : v_iv (n_v vs 18) = w_ei ws (w_ar ws (n_v vs 8) 4) (v_iv (n_v vs 9)) := f1
  have kz_13_0 := fdq_21 hD hth r13
  obtain ⟨y, ey, hy⟩ := iv_ex (ta := ta) (lo := 0) (hi := 24) (z := v_iv (n_v vs 12)) (by omega) (by omega) (by omega) (by omega)
  have ey2 : v_iv (Value.int y) = v_iv (n_v vs 12) := ey
  have ey3 : 0 ≤ v_iv (Value.int y) ∧ v_iv (Value.int y) ≤ 24 := tv_rng hy
  have hrf0 : 0 ≤ v_iv (n_v vs 11) ∧ v_iv (n_v vs 11) ≤ 23 := vc_Pl_layTree_8_r0 (v_iv (n_v vs 9)) (v_iv (n_v vs 11)) (v_iv (n_v vs 12)) (v_iv (n_v vs 18)) (w_ei ws (w_ar ws (n_v vs 8) 4)) (w_ei ws (w_ar ws (n_v vs 0) 2)) (v_iv (Value.int y)) k9 k11 k12 k18 d0 h1 f6
  have e_7 : n_v (vs ++ [n_v vs 8, Value.int y]) 7 = n_v vs 7 := n_v_old (by rw [hl]; decide)
  have e_8 : n_v (vs ++ [n_v vs 8, Value.int y]) 8 = n_v vs 8 := n_v_old (by rw [hl]; decide)
  have e_9 : n_v (vs ++ [n_v vs 8, Value.int y]) 9 = n_v vs 9 := n_v_old (by rw [hl]; decide)
  have e_11 : n_v (vs ++ [n_v vs 8, Value.int y]) 11 = n_v vs 11 := n_v_old (by rw [hl]; decide)
  have e_12 : n_v (vs ++ [n_v vs 8, Value.int y]) 12 = n_v vs 12 := n_v_old (by rw [hl]; decide)
  have e_13 : n_v (vs ++ [n_v vs 8, Value.int y]) 13 = n_v vs 13 := n_v_old (by rw [hl]; decide)
  have e_19 : n_v (vs ++ [n_v vs 8, Value.int y]) 19 = n_v vs 8 := n_v_new0 hl
  have e_20 : n_v (vs ++ [n_v vs 8, Value.int y]) 20 = Value.int y := n_v_new1 hl
  have nf0 : fc_1 PRD (20, [8, 9, 12], [60, 0, 1, 680, 4]) ws (vs ++ [n_v vs 8, Value.int y]) := by
    refine ⟨nf_inA hl rfl, sgq_415 ?_⟩
    · show RTP (w_ei ws (w_ar ws (n_v (vs ++ [n_v vs 8, Value.int y]) 8) 4)) (v_iv (n_v (vs ++ [n_v vs 8, Value.int y]) 9)) (v_iv (n_v (vs ++ [n_v vs 8, Value.int y]) 12))
      simp only [e_8, e_9, e_12]
      exact vc_Pl_layTree_8_0 (v_iv (n_v vs 9)) (v_iv (n_v vs 12)) (v_iv (n_v vs 18)) (w_ei ws (w_ar ws (n_v vs 8) 4)) (v_iv (Value.int y)) k9 k12 k18 d0 h1
  have nf1 : fc_1 PRD (20, [9, 13], [50, 1, 0, 1000, 2, 6, 0, 2, 0, 0, 1, 0, 0, 6, 4, 2, 1, 0, 0, 1, 2, 1, 0]) ws (vs ++ [n_v vs 8, Value.int y]) := by
    refine ⟨nf_inA hl rfl, sgq_416 ?_⟩
    · show (0 ≤ v_iv (n_v (vs ++ [n_v vs 8, Value.int y]) 9)) ∧ ((v_iv (n_v (vs ++ [n_v vs 8, Value.int y]) 9) + 1) ≤ w_fi ws (n_v (vs ++ [n_v vs 8, Value.int y]) 13) 0)
      simp only [e_9, e_13]
      exact vc_Pl_layTree_8_1 (v_iv (n_v vs 9)) (v_iv (n_v vs 12)) (w_fi ws (n_v vs 13) 0) (v_iv (Value.int y)) k9 f9 kz_13_0
  have nf2 : fc_1 PRD (24, [8, 19], []) ws (vs ++ [n_v vs 8, Value.int y]) := by
    refine ⟨nf_inA hl rfl, sgq_5 ?_⟩
    · show n_v (vs ++ [n_v vs 8, Value.int y]) 8 = n_v (vs ++ [n_v vs 8, Value.int y]) 19
      first | rfl | simp only [e_8, e_19, q7]
  have nf3 : fc_1 PRD (23, [20, 12], [0, 1, -1]) ws (vs ++ [n_v vs 8, Value.int y]) := by
    refine ⟨nf_inA hl rfl, sgq_7 ?_⟩
    · show 1 * v_iv (n_v (vs ++ [n_v vs 8, Value.int y]) 20) + ((-1) * v_iv (n_v (vs ++ [n_v vs 8, Value.int y]) 12) + 0) ≤ 0
      simp only [e_12, e_20]
      exact vc_Pl_layTree_8_3 (v_iv (n_v vs 9)) (v_iv (n_v vs 12)) (v_iv (n_v vs 18)) (w_ei ws (w_ar ws (n_v vs 8) 4)) (v_iv (Value.int y)) k9 k12 k18 d0 h1 ey2
  have nf4 : fc_1 PRD (23, [20, 12], [0, -1, 1]) ws (vs ++ [n_v vs 8, Value.int y]) := by
    refine ⟨nf_inA hl rfl, sgq_22 ?_⟩
    · show (-1) * v_iv (n_v (vs ++ [n_v vs 8, Value.int y]) 20) + (1 * v_iv (n_v (vs ++ [n_v vs 8, Value.int y]) 12) + 0) ≤ 0
      simp only [e_12, e_20]
      exact vc_Pl_layTree_8_4 (v_iv (n_v vs 9)) (v_iv (n_v vs 12)) (v_iv (n_v vs 18)) (w_ei ws (w_ar ws (n_v vs 8) 4)) (v_iv (Value.int y)) k9 k12 k18 d0 h1 ey2
  have nf5 : fc_1 PRD (20, [7, 19, 11, 20], [60, 0, 2, 678, 2, 1004]) ws (vs ++ [n_v vs 8, Value.int y]) := by
    refine ⟨nf_inA hl rfl, sgq_420 ?_⟩
    · show WTB (w_ei ws (w_ar ws (n_v (vs ++ [n_v vs 8, Value.int y]) 7) 2)) (w_ei ws (w_ar ws (n_v (vs ++ [n_v vs 8, Value.int y]) 19) 4)) (v_iv (n_v (vs ++ [n_v vs 8, Value.int y]) 11)) (v_iv (n_v (vs ++ [n_v vs 8, Value.int y]) 20))
      simp only [e_7, e_11, e_19, e_20, q7]
      exact vc_Pl_layTree_8_5 (v_iv (n_v vs 11)) (v_iv (n_v vs 12)) (w_ei ws (w_ar ws (n_v vs 8) 4)) (w_ei ws (w_ar ws (n_v vs 0) 2)) (v_iv (Value.int y)) k11 k12 f6 ey2
  have nf6 : fc_1 PRD (20, [19, 9, 20], [60, 0, 1, 680, 4]) ws (vs ++ [n_v vs 8, Value.int y]) := by
    refine ⟨nf_inA hl rfl, sgq_415 ?_⟩
    · show RTP (w_ei ws (w_ar ws (n_v (vs ++ [n_v vs 8, Value.int y]) 19) 4)) (v_iv (n_v (vs ++ [n_v vs 8, Value.int y]) 9)) (v_iv (n_v (vs ++ [n_v vs 8, Value.int y]) 20))
      simp only [e_9, e_19, e_20]
      exact vc_Pl_layTree_8_6 (v_iv (n_v vs 9)) (v_iv (n_v vs 12)) (v_iv (n_v vs 18)) (w_ei ws (w_ar ws (n_v vs 8) 4)) (v_iv (Value.int y)) k9 k12 k18 d0 h1 ey2
  have nf7 : fc_1 PRD (20, [13, 19], [60, 1, 2, 671, 0, 14, 1004]) ws (vs ++ [n_v vs 8, Value.int y]) := by
    refine ⟨nf_inA hl rfl, sgq_419 ?_⟩
    · show PNC (w_fi ws (n_v (vs ++ [n_v vs 8, Value.int y]) 13) 0) (w_ei ws (w_ar ws (n_v (vs ++ [n_v vs 8, Value.int y]) 13) 14)) (w_ei ws (w_ar ws (n_v (vs ++ [n_v vs 8, Value.int y]) 19) 4))
      simp only [e_13, e_19]
      exact vc_Pl_layTree_8_7 (w_ei ws (w_ar ws (n_v vs 8) 4)) (w_ei ws (w_ar ws (n_v vs 13) 14)) (w_fi ws (n_v vs 13) 0) f7 kz_13_0
  have nf8 : fc_1 PRD (20, [9, 13], [50, 1, 0, 1000, 2, 6, 0, 2, 0, 0, 1, 0, 0, 6, 4, 2, 1, 0, 0, 1, 2, 1, 0]) ws (vs ++ [n_v vs 8, Value.int y]) := by
    refine ⟨nf_inA hl rfl, sgq_416 ?_⟩
    · show (0 ≤ v_iv (n_v (vs ++ [n_v vs 8, Value.int y]) 9)) ∧ ((v_iv (n_v (vs ++ [n_v vs 8, Value.int y]) 9) + 1) ≤ w_fi ws (n_v (vs ++ [n_v vs 8, Value.int y]) 13) 0)
      simp only [e_9, e_13]
      exact vc_Pl_layTree_8_8 (v_iv (n_v vs 9)) (v_iv (n_v vs 12)) (w_fi ws (n_v vs 13) 0) (v_iv (Value.int y)) k9 f9 kz_13_0
  have nf9 : fc_1 PRD (20, [7, 13, 19, 11, 20], [60, 1, 4, 855, 1000, 2, 5, 4, 2004]) ws (vs ++ [n_v vs 8, Value.int y]) := by
    refine ⟨nf_inA hl rfl, sgq_421 ?_⟩
    · show TQB (w_fi ws (n_v (vs ++ [n_v vs 8, Value.int y]) 13) 0) (w_ei ws (w_ar ws (n_v (vs ++ [n_v vs 8, Value.int y]) 7) 2)) (w_ei ws (w_ar ws (n_v (vs ++ [n_v vs 8, Value.int y]) 7) 5)) (w_ei ws (w_ar ws (n_v (vs ++ [n_v vs 8, Value.int y]) 7) 4)) (w_ei ws (w_ar ws (n_v (vs ++ [n_v vs 8, Value.int y]) 19) 4)) (v_iv (n_v (vs ++ [n_v vs 8, Value.int y]) 11)) (v_iv (n_v (vs ++ [n_v vs 8, Value.int y]) 20))
      simp only [e_7, e_11, e_13, e_19, e_20, q7]
      exact vc_Pl_layTree_8_9 (v_iv (n_v vs 11)) (v_iv (n_v vs 12)) (w_ei ws (w_ar ws (n_v vs 8) 4)) (w_ei ws (w_ar ws (n_v vs 0) 2)) (w_fi ws (n_v vs 13) 0) (w_ei ws (w_ar ws (n_v vs 0) 5)) (w_ei ws (w_ar ws (n_v vs 0) 4)) (v_iv (Value.int y)) k11 k12 f10 kz_13_0 ey2
  have nf10 : fc_1 PRD (20, [20, 12], [50, 0, 0, 1, 2, 1, 0, 1, 1]) ws (vs ++ [n_v vs 8, Value.int y]) := by
    refine ⟨nf_inA hl rfl, sgq_48 ?_⟩
    · show v_iv (n_v (vs ++ [n_v vs 8, Value.int y]) 20) = v_iv (n_v (vs ++ [n_v vs 8, Value.int y]) 12)
      simp only [e_12, e_20]
      exact vc_Pl_layTree_8_10 (v_iv (n_v vs 9)) (v_iv (n_v vs 12)) (v_iv (Value.int y)) k12 ey2
  have rf11 : tv_ok ta (0, 0, 23, []) (n_v vs 11) := tv_in t11 (by first | omega | grind) (by first | omega | grind)
  exact ⟨List.forall_mem_cons.mpr ⟨rf11, (fun _ h => (by cases h))⟩, [n_v vs 8, Value.int y], ag_two t8 hy, List.forall_mem_cons.mpr ⟨⟨show (20 : Nat) < 100 from by decide, nf0⟩, List.forall_mem_cons.mpr ⟨⟨show (20 : Nat) < 100 from by decide, nf1⟩, List.forall_mem_cons.mpr ⟨⟨show (24 : Nat) < 100 from by decide, nf2⟩, List.forall_mem_cons.mpr ⟨⟨show (23 : Nat) < 100 from by decide, nf3⟩, List.forall_mem_cons.mpr ⟨⟨show (23 : Nat) < 100 from by decide, nf4⟩, List.forall_mem_cons.mpr ⟨⟨show (20 : Nat) < 100 from by decide, nf5⟩, List.forall_mem_cons.mpr ⟨⟨show (20 : Nat) < 100 from by decide, nf6⟩, List.forall_mem_cons.mpr ⟨⟨show (20 : Nat) < 100 from by decide, nf7⟩, List.forall_mem_cons.mpr ⟨⟨show (20 : Nat) < 100 from by decide, nf8⟩, List.forall_mem_cons.mpr ⟨⟨show (20 : Nat) < 100 from by decide, nf9⟩, List.forall_mem_cons.mpr ⟨⟨show (20 : Nat) < 100 from by decide, nf10⟩, (fun _ h => (by cases h))⟩⟩⟩⟩⟩⟩⟩⟩⟩⟩⟩, (fun _ h => (by cases h))⟩
set_option maxHeartbeats 4000000 in
theorem vc_Pl_layTree_9_0 (x12 : Int) (x20 : Int) (x21 : Int) (x22 : Int) (part_0o8 : Int → Int) (order_0 : Int → Int) (k12 : 0 ≤ x12 ∧ x12 ≤ 23) (k20 : 0 ≤ x20 ∧ x20 ≤ 24) (k21 : 1 ≤ x21 ∧ x21 ≤ 24) (k22 : 1 ≤ x22 ∧ x22 ≤ 24) (d0 : x12 + 1 ≤ x22 ∧ x22 ≤ x12 + 1) (f6 : 1 * x20 + ((-1) * x12 + 0) ≤ 0) (f7 : (-1) * x20 + (1 * x12 + 0) ≤ 0) (f16 : WTA (order_0) (part_0o8) (x21) (x20)) : WTB (order_0) (part_0o8) (x21) (x22) := by
  first
    | assumption
    | exact wtb_start (by omega)
    | (rw [show gy = x12 by omega]; exact ‹WTB _ _ _ _›)
    | (rw [show x21 = x19 + 1 by omega]; exact ‹WTA _ _ _ _›)
    | (rw [show x23 = x21 + 1 by omega]; exact ‹WTA _ _ _ _›)
    | (rw [show x22 = x20 + 1 by omega]; exact ‹WTA _ _ _ _›)
  
set_option maxHeartbeats 4000000 in
theorem vc_Pl_layTree_9_1 (x12 : Int) (x20 : Int) (x21 : Int) (x22 : Int) (part_0o8 : Int → Int) (nodes_0o13 : Int) (order_0 : Int → Int) (parent_0 : Int → Int) (level_0 : Int → Int) (k12 : 0 ≤ x12 ∧ x12 ≤ 23) (k20 : 0 ≤ x20 ∧ x20 ≤ 24) (k21 : 1 ≤ x21 ∧ x21 ≤ 24) (k22 : 1 ≤ x22 ∧ x22 ≤ 24) (d0 : x12 + 1 ≤ x22 ∧ x22 ≤ x12 + 1) (f6 : 1 * x20 + ((-1) * x12 + 0) ≤ 0) (f7 : (-1) * x20 + (1 * x12 + 0) ≤ 0) (f17 : TQA (nodes_0o13) (order_0) (parent_0) (level_0) (part_0o8) (x21) (x20)) (kz_13_0 : 0 ≤ nodes_0o13 ∧ nodes_0o13 ≤ 24) : TQB (nodes_0o13) (order_0) (parent_0) (level_0) (part_0o8) (x21) (x22) := by
  first
    | assumption
    | exact tqb_start (by omega) (by omega) (fun v a b => ((‹FPA _ _ _›).2 v a b).1)
    | (rw [show gy = x12 by omega]; exact ‹TQB _ _ _ _ _ _ _›)
    | (rw [show x21 = x19 + 1 by omega]; exact ‹TQA _ _ _ _ _ _ _›)
    | (rw [show x23 = x21 + 1 by omega]; exact ‹TQA _ _ _ _ _ _ _›)
    | (rw [show x22 = x20 + 1 by omega]; exact ‹TQA _ _ _ _ _ _ _›)
  
def o_Pl_layTree_9 : or_T := (8, 23, [(12, (0, 0, 23, [])), (13, (2, 0, 0, [3])), (20, (0, 0, 24, [])), (21, (0, 1, 24, [])), (22, (0, 1, 24, []))], [(24, [8, 19], []), (23, [20, 12], [0, 1, -1]), (23, [20, 12], [0, -1, 1]), (24, [0, 7], []), (20, [7, 19, 21, 20], [60, 0, 2, 679, 2, 1004]), (20, [7, 13, 19, 21, 20], [60, 1, 4, 856, 1000, 2, 5, 4, 2004])], [], [], [(20, [7, 8, 21, 22], [60, 0, 2, 678, 2, 1004]), (20, [7, 13, 8, 21, 22], [60, 1, 4, 855, 1000, 2, 5, 4, 2004])], [], [(22, 12, 1, 1)])
theorem oo_Pl_layTree_9 {kA : Nat → ClassId} : or_ok PRD kA GG o_Pl_layTree_9 := by
  refine or_mk fun A ta ws vs hD hth hl => ?_
  intro t12 k12 t13 r13 t20 k20 t21 k21 t22 k22 d0 f5 f6 f7 f15 f16 f17
  replace f5 := shm_5 f5
  replace f6 := shm_7 f6
  replace f7 := shm_22 f7
  replace f15 := shm_5 f15
  replace f16 := shm_426 f16
  replace f17 := shm_427 f17
  have q19 : n_v vs 19 = n_v vs 8 := f5.symm
  have q7 : n_v vs 7 = n_v vs 0 := f15.symm
  simp only [q19, q7] at f16 f17
  have kz_13_0 := fdq_21 hD hth r13
  have nf0 : fc_1 PRD (20, [7, 8, 21, 22], [60, 0, 2, 678, 2, 1004]) ws (vs) := by
    refine ⟨nf_in hl rfl, sgq_420 ?_⟩
    · show WTB (w_ei ws (w_ar ws (n_v vs 7) 2)) (w_ei ws (w_ar ws (n_v vs 8) 4)) (v_iv (n_v vs 21)) (v_iv (n_v vs 22))
      rw [q7]
      exact vc_Pl_layTree_9_0 (v_iv (n_v vs 12)) (v_iv (n_v vs 20)) (v_iv (n_v vs 21)) (v_iv (n_v vs 22)) (w_ei ws (w_ar ws (n_v vs 8) 4)) (w_ei ws (w_ar ws (n_v vs 0) 2)) k12 k20 k21 k22 d0 f6 f7 f16
  have nf1 : fc_1 PRD (20, [7, 13, 8, 21, 22], [60, 1, 4, 855, 1000, 2, 5, 4, 2004]) ws (vs) := by
    refine ⟨nf_in hl rfl, sgq_421 ?_⟩
    · show TQB (w_fi ws (n_v vs 13) 0) (w_ei ws (w_ar ws (n_v vs 7) 2)) (w_ei ws (w_ar ws (n_v vs 7) 5)) (w_ei ws (w_ar ws (n_v vs 7) 4)) (w_ei ws (w_ar ws (n_v vs 8) 4)) (v_iv (n_v vs 21)) (v_iv (n_v vs 22))
      rw [q7]
      exact vc_Pl_layTree_9_1 (v_iv (n_v vs 12)) (v_iv (n_v vs 20)) (v_iv (n_v vs 21)) (v_iv (n_v vs 22)) (w_ei ws (w_ar ws (n_v vs 8) 4)) (w_fi ws (n_v vs 13) 0) (w_ei ws (w_ar ws (n_v vs 0) 2)) (w_ei ws (w_ar ws (n_v vs 0) 5)) (w_ei ws (w_ar ws (n_v vs 0) 4)) k12 k20 k21 k22 d0 f6 f7 f17 kz_13_0
  refine ⟨(fun _ h => (by cases h)), [], trivial, ?_, (fun _ h => (by cases h))⟩
  rw [List.append_nil]
  exact List.forall_mem_cons.mpr ⟨⟨show (20 : Nat) < 100 from by decide, nf0⟩, List.forall_mem_cons.mpr ⟨⟨show (20 : Nat) < 100 from by decide, nf1⟩, (fun _ h => (by cases h))⟩⟩
set_option maxHeartbeats 4000000 in
theorem vc_Pl_layTree_10_0 (x11 : Int) (x12 : Int) (order_0 : Int → Int) (parent_0 : Int → Int) (nodes_0o13 : Int) (x_0o14 : Int → Int) (k11 : 0 ≤ x11 ∧ x11 ≤ 24) (k12 : (-1) ≤ x12 ∧ x12 ≤ (-1)) (f2 : TQ0 (nodes_0o13) (order_0) (parent_0) (x_0o14) (x11) (x12)) (kz_13_0 : 0 ≤ nodes_0o13 ∧ nodes_0o13 ≤ 24) : TQ0 (nodes_0o13) (order_0) (parent_0) (x_0o14) (x11) (x11) := by
  first
    | assumption
    | exact tq0_start (by omega)
    | (have g := ‹TQN _ _ _ _ _ _›; rw [show x17 = x11 by omega] at g; exact tq0_next g (by omega) (by omega))
    | exact tq0_all ‹TQ0 _ _ _ _ _ _› (by omega) (by omega) (by omega)
    | (rw [show gx = x11 by omega, show gy = x12 by omega]; assumption)
    | (rw [show gx = x11 by omega, show gy = x11 by omega]; assumption)
  
set_option maxHeartbeats 4000000 in
theorem vc_Pl_layTree_10_1 (x11 : Int) (x12 : Int) (order_0 : Int → Int) (nodes_0o13 : Int) (under_0 : Int → Int) (k11 : 0 ≤ x11 ∧ x11 ≤ 24) (k12 : (-1) ≤ x12 ∧ x12 ≤ (-1)) (f3 : TQU (nodes_0o13) (order_0) (under_0) (x11) (x12)) (kz_13_0 : 0 ≤ nodes_0o13 ∧ nodes_0o13 ≤ 24) : TQU (nodes_0o13) (order_0) (under_0) (x11) (x11) := by
  first
    | assumption
    | exact tqu_start (by omega)
    | (have g := ‹TQM _ _ _ _ _›; rw [show x17 = x11 by omega] at g; exact tqu_next g (by omega) (by omega))
    | exact tqu_all ‹TQU _ _ _ _ _› (by omega) (by omega) (by omega)
    | (rw [show gx = x11 by omega, show gy = x12 by omega]; assumption)
    | (rw [show gx = x11 by omega, show gy = x11 by omega]; assumption)
  
set_option maxHeartbeats 4000000 in
theorem vc_Pl_layTree_10_2 (x10 : Int) (x11 : Int) (x12 : Int) (x15 : Int) (order_0 : Int → Int) (parent_0 : Int → Int) (level_0 : Int → Int) (nodes_0o13 : Int) (kids_0 : Int → Int) (k10 : 0 ≤ x10 ∧ x10 ≤ 0) (k15 : 0 ≤ x15 ∧ x15 ≤ 0) (kz_13_0 : 0 ≤ nodes_0o13 ∧ nodes_0o13 ≤ 24) : TQR (nodes_0o13) (order_0) (parent_0) (kids_0) (x10) (x15) := by
  first
    | assumption
    | exact tqr_start (by omega) (by omega)
    | exact tqr_skip ‹TQR _ _ _ _ _ _› (by omega)
    | (have e : x17 = x21 := by omega
       exact tqr_step (lv := level_0) (q := x12) (s := x11) (y := x21) ‹TQR _ _ _ _ _ _› (by assumption) (by omega) (by omega) (by rw [← ‹x17 = order_0 x12›]; omega) (by assumption) rfl (by assumption) (by omega) (by omega))
  
set_option maxHeartbeats 4000000 in
theorem vc_Pl_layTree_10_3 (x11 : Int) (x12 : Int) (x15 : Int) (k11 : 0 ≤ x11 ∧ x11 ≤ 24) (k15 : 0 ≤ x15 ∧ x15 ≤ 0) : x15 ≤ x11 := by
  first
    | omega
    | assumption
    | (have q := wtb_room (r := x17) ‹WTB _ _ _ _› (by omega) (by omega) (by assumption); omega)
    | (have q := wtb_room (r := x19) ‹WTB _ _ _ _› (by omega) (by omega) (by assumption); omega)
    | (have q := wtb_room (r := x9) ‹WTB _ _ _ _› (by omega) (by omega) (by omega); omega)
    | (rw [show gy = x12 by omega]; assumption)
    | (have q := (‹TQ5 _ _ _ _›).2 x13 (by omega) (by omega); omega)
  
def o_Pl_layTree_10 : or_T := (93, 16, [(10, (0, 0, 0, [])), (11, (0, 0, 24, [])), (12, (0, -1, -1, [])), (13, (2, 0, 0, [3])), (15, (0, 0, 0, []))], [(20, [7, 13, 14, 11, 12], [60, 1, 3, 865, 1000, 2, 5, 2002]), (20, [7, 13, 11, 12], [60, 1, 2, 860, 1000, 2, 6]), (24, [0, 7], [])], [], [], [(20, [7, 13, 14, 11, 11], [60, 1, 3, 865, 1000, 2, 5, 2002]), (20, [7, 13, 11, 11], [60, 1, 2, 860, 1000, 2, 6]), (20, [7, 13, 10, 15], [60, 1, 3, 874, 1000, 2, 5, 7]), (20, [15, 11], [50, 0, 0, 0, 2, 1, 0, 1, 1])], [], [])
theorem oo_Pl_layTree_10 {kA : Nat → ClassId} : or_ok PRD kA GG o_Pl_layTree_10 := by
  refine or_mk fun A ta ws vs hD hth hl => ?_
  intro t10 k10 t11 k11 t12 k12 t13 r13 t15 k15 f2 f3 f5
  replace f2 := shm_1103 f2
  replace f3 := shm_1104 f3
  replace f5 := shm_5 f5
  have q7 : n_v vs 7 = n_v vs 0 := f5.symm
  simp only [q7] at f2 f3
  have kz_13_0 := fdq_21 hD hth r13
  have nf0 : fc_1 PRD (20, [7, 13, 14, 11, 11], [60, 1, 3, 865, 1000, 2, 5, 2002]) ws (vs) := by
    refine ⟨nf_in hl rfl, sgq_1785 ?_⟩
    · show TQ0 (w_fi ws (n_v vs 13) 0) (w_ei ws (w_ar ws (n_v vs 7) 2)) (w_ei ws (w_ar ws (n_v vs 7) 5)) (w_ei ws (w_ar ws (n_v vs 14) 2)) (v_iv (n_v vs 11)) (v_iv (n_v vs 11))
      rw [q7]
      exact vc_Pl_layTree_10_0 (v_iv (n_v vs 11)) (v_iv (n_v vs 12)) (w_ei ws (w_ar ws (n_v vs 0) 2)) (w_ei ws (w_ar ws (n_v vs 0) 5)) (w_fi ws (n_v vs 13) 0) (w_ei ws (w_ar ws (n_v vs 14) 2)) k11 k12 f2 kz_13_0
  have nf1 : fc_1 PRD (20, [7, 13, 11, 11], [60, 1, 2, 860, 1000, 2, 6]) ws (vs) := by
    refine ⟨nf_in hl rfl, sgq_1786 ?_⟩
    · show TQU (w_fi ws (n_v vs 13) 0) (w_ei ws (w_ar ws (n_v vs 7) 2)) (w_ei ws (w_ar ws (n_v vs 7) 6)) (v_iv (n_v vs 11)) (v_iv (n_v vs 11))
      rw [q7]
      exact vc_Pl_layTree_10_1 (v_iv (n_v vs 11)) (v_iv (n_v vs 12)) (w_ei ws (w_ar ws (n_v vs 0) 2)) (w_fi ws (n_v vs 13) 0) (w_ei ws (w_ar ws (n_v vs 0) 6)) k11 k12 f3 kz_13_0
  have nf2 : fc_1 PRD (20, [7, 13, 10, 15], [60, 1, 3, 874, 1000, 2, 5, 7]) ws (vs) := by
    refine ⟨nf_in hl rfl, sgq_1787 ?_⟩
    · show TQR (w_fi ws (n_v vs 13) 0) (w_ei ws (w_ar ws (n_v vs 7) 2)) (w_ei ws (w_ar ws (n_v vs 7) 5)) (w_ei ws (w_ar ws (n_v vs 7) 7)) (v_iv (n_v vs 10)) (v_iv (n_v vs 15))
      rw [q7]
      exact vc_Pl_layTree_10_2 (v_iv (n_v vs 10)) (v_iv (n_v vs 11)) (v_iv (n_v vs 12)) (v_iv (n_v vs 15)) (w_ei ws (w_ar ws (n_v vs 0) 2)) (w_ei ws (w_ar ws (n_v vs 0) 5)) (w_ei ws (w_ar ws (n_v vs 0) 4)) (w_fi ws (n_v vs 13) 0) (w_ei ws (w_ar ws (n_v vs 0) 7)) k10 k15 kz_13_0
  have nf3 : fc_1 PRD (20, [15, 11], [50, 0, 0, 0, 2, 1, 0, 1, 1]) ws (vs) := ⟨nf_in hl rfl, sgq_360 (vc_Pl_layTree_10_3 (v_iv (n_v vs 11)) (v_iv (n_v vs 12)) (v_iv (n_v vs 15)) k11 k15)⟩
  refine ⟨(fun _ h => (by cases h)), [], trivial, ?_, (fun _ h => (by cases h))⟩
  rw [List.append_nil]
  exact List.forall_mem_cons.mpr ⟨⟨show (20 : Nat) < 100 from by decide, nf0⟩, List.forall_mem_cons.mpr ⟨⟨show (20 : Nat) < 100 from by decide, nf1⟩, List.forall_mem_cons.mpr ⟨⟨show (20 : Nat) < 100 from by decide, nf2⟩, List.forall_mem_cons.mpr ⟨⟨show (20 : Nat) < 100 from by decide, nf3⟩, (fun _ h => (by cases h))⟩⟩⟩⟩
set_option maxHeartbeats 4000000 in
theorem vc_Pl_layTree_11_0 (x11 : Int) (x12 : Int) (gx : Int) (gy : Int) (k11 : 1 ≤ x11 ∧ x11 ≤ 24) (ex2 : gx = x11) : 1 * gx + ((-1) * x11 + 0) ≤ 0 := by
  first
    | omega
    | assumption
    | (have q := wtb_room (r := x17) ‹WTB _ _ _ _› (by omega) (by omega) (by assumption); omega)
    | (have q := wtb_room (r := x19) ‹WTB _ _ _ _› (by omega) (by omega) (by assumption); omega)
    | (have q := wtb_room (r := x9) ‹WTB _ _ _ _› (by omega) (by omega) (by omega); omega)
    | (rw [show gy = x12 by omega]; assumption)
    | (have q := (‹TQ5 _ _ _ _›).2 x13 (by omega) (by omega); omega)
  
set_option maxHeartbeats 4000000 in
theorem vc_Pl_layTree_11_1 (x11 : Int) (x12 : Int) (gx : Int) (gy : Int) (k11 : 1 ≤ x11 ∧ x11 ≤ 24) (ex2 : gx = x11) : (-1) * gx + (1 * x11 + 0) ≤ 0 := by
  first
    | omega
    | assumption
    | (have q := wtb_room (r := x17) ‹WTB _ _ _ _› (by omega) (by omega) (by assumption); omega)
    | (have q := wtb_room (r := x19) ‹WTB _ _ _ _› (by omega) (by omega) (by assumption); omega)
    | (have q := wtb_room (r := x9) ‹WTB _ _ _ _› (by omega) (by omega) (by omega); omega)
    | (rw [show gy = x12 by omega]; assumption)
    | (have q := (‹TQ5 _ _ _ _›).2 x13 (by omega) (by omega); omega)
  
set_option maxHeartbeats 4000000 in
theorem vc_Pl_layTree_11_2 (x12 : Int) (gy : Int) (k12 : 0 ≤ x12 ∧ x12 ≤ 23) (ey2 : gy = x12) : 1 * gy + ((-1) * x12 + 0) ≤ 0 := by
  first
    | omega
    | assumption
    | (have q := wtb_room (r := x17) ‹WTB _ _ _ _› (by omega) (by omega) (by assumption); omega)
    | (have q := wtb_room (r := x19) ‹WTB _ _ _ _› (by omega) (by omega) (by assumption); omega)
    | (have q := wtb_room (r := x9) ‹WTB _ _ _ _› (by omega) (by omega) (by omega); omega)
    | (rw [show gy = x12 by omega]; assumption)
    | (have q := (‹TQ5 _ _ _ _›).2 x13 (by omega) (by omega); omega)
  
set_option maxHeartbeats 4000000 in
theorem vc_Pl_layTree_11_3 (x12 : Int) (gy : Int) (k12 : 0 ≤ x12 ∧ x12 ≤ 23) (ey2 : gy = x12) : (-1) * gy + (1 * x12 + 0) ≤ 0 := by
  first
    | omega
    | assumption
    | (have q := wtb_room (r := x17) ‹WTB _ _ _ _› (by omega) (by omega) (by assumption); omega)
    | (have q := wtb_room (r := x19) ‹WTB _ _ _ _› (by omega) (by omega) (by assumption); omega)
    | (have q := wtb_room (r := x9) ‹WTB _ _ _ _› (by omega) (by omega) (by omega); omega)
    | (rw [show gy = x12 by omega]; assumption)
    | (have q := (‹TQ5 _ _ _ _›).2 x13 (by omega) (by omega); omega)
  
set_option maxHeartbeats 4000000 in
theorem vc_Pl_layTree_11_4 (x11 : Int) (x12 : Int) (order_0 : Int → Int) (parent_0 : Int → Int) (nodes_0o13 : Int) (x_0o14 : Int → Int) (gx : Int) (gy : Int) (k11 : 1 ≤ x11 ∧ x11 ≤ 24) (k12 : 0 ≤ x12 ∧ x12 ≤ 23) (f4 : TQ0 (nodes_0o13) (order_0) (parent_0) (x_0o14) (x11) (x12)) (kz_13_0 : 0 ≤ nodes_0o13 ∧ nodes_0o13 ≤ 24) (ex2 : gx = x11) (ey2 : gy = x12) : TQ0 (nodes_0o13) (order_0) (parent_0) (x_0o14) (gx) (gy) := by
  first
    | assumption
    | exact tq0_start (by omega)
    | (have g := ‹TQN _ _ _ _ _ _›; rw [show x17 = x11 by omega] at g; exact tq0_next g (by omega) (by omega))
    | exact tq0_all ‹TQ0 _ _ _ _ _ _› (by omega) (by omega) (by omega)
    | (rw [show gx = x11 by omega, show gy = x12 by omega]; assumption)
    | (rw [show gx = x11 by omega, show gy = x11 by omega]; assumption)
  
set_option maxHeartbeats 4000000 in
theorem vc_Pl_layTree_11_5 (x11 : Int) (x12 : Int) (order_0 : Int → Int) (nodes_0o13 : Int) (under_0 : Int → Int) (gx : Int) (gy : Int) (k11 : 1 ≤ x11 ∧ x11 ≤ 24) (k12 : 0 ≤ x12 ∧ x12 ≤ 23) (f5 : TQU (nodes_0o13) (order_0) (under_0) (x11) (x12)) (kz_13_0 : 0 ≤ nodes_0o13 ∧ nodes_0o13 ≤ 24) (ex2 : gx = x11) (ey2 : gy = x12) : TQU (nodes_0o13) (order_0) (under_0) (gx) (gy) := by
  first
    | assumption
    | exact tqu_start (by omega)
    | (have g := ‹TQM _ _ _ _ _›; rw [show x17 = x11 by omega] at g; exact tqu_next g (by omega) (by omega))
    | exact tqu_all ‹TQU _ _ _ _ _› (by omega) (by omega) (by omega)
    | (rw [show gx = x11 by omega, show gy = x12 by omega]; assumption)
    | (rw [show gx = x11 by omega, show gy = x11 by omega]; assumption)
  
set_option maxHeartbeats 4000000 in
theorem vc_Pl_layTree_11_6 (x11 : Int) (order_0 : Int → Int) (parent_0 : Int → Int) (level_0 : Int → Int) (nodes_0o13 : Int) (gx : Int) (k11 : 1 ≤ x11 ∧ x11 ≤ 24) (f3 : TQD (nodes_0o13) (order_0) (parent_0) (level_0) (x11)) (kz_13_0 : 0 ≤ nodes_0o13 ∧ nodes_0o13 ≤ 24) (ex2 : gx = x11) : TQD (nodes_0o13) (order_0) (parent_0) (level_0) (gx) := by
  first
    | assumption
    | exact tqd_of ‹TQB _ _ _ _ _ _ _› ‹WTB _ _ _ _› ‹FPA _ _ _› (by omega) (by omega)
    | (rw [show gx = x11 by omega]; assumption)
  
set_option maxHeartbeats 4000000 in
theorem vc_Pl_layTree_11_7 (x12 : Int) (x16 : Int) (order_0 : Int → Int) (gy : Int) (k12 : 0 ≤ x12 ∧ x12 ≤ 23) (k16 : 0 ≤ x16 ∧ x16 ≤ 23) (h0 : x16 = order_0 (x12)) (ey2 : gy = x12) : x16 = order_0 (gy) := by
  first
    | omega
    | assumption
    | (have q := wtb_room (r := x17) ‹WTB _ _ _ _› (by omega) (by omega) (by assumption); omega)
    | (have q := wtb_room (r := x19) ‹WTB _ _ _ _› (by omega) (by omega) (by assumption); omega)
    | (have q := wtb_room (r := x9) ‹WTB _ _ _ _› (by omega) (by omega) (by omega); omega)
    | (rw [show gy = x12 by omega]; assumption)
    | (have q := (‹TQ5 _ _ _ _›).2 x13 (by omega) (by omega); omega)
  
set_option maxHeartbeats 4000000 in
theorem vc_Pl_layTree_11_8 (x11 : Int) (x12 : Int) (gx : Int) (gy : Int) (k11 : 1 ≤ x11 ∧ x11 ≤ 24) (k12 : 0 ≤ x12 ∧ x12 ≤ 23) (d0 : x11 + (-4294967296) ≤ x12 ∧ x12 ≤ x11 + (-1)) (ex2 : gx = x11) (ey2 : gy = x12) : (gy + 1) ≤ gx := by
  first
    | omega
    | assumption
    | (have q := wtb_room (r := x17) ‹WTB _ _ _ _› (by omega) (by omega) (by assumption); omega)
    | (have q := wtb_room (r := x19) ‹WTB _ _ _ _› (by omega) (by omega) (by assumption); omega)
    | (have q := wtb_room (r := x9) ‹WTB _ _ _ _› (by omega) (by omega) (by omega); omega)
    | (rw [show gy = x12 by omega]; assumption)
    | (have q := (‹TQ5 _ _ _ _›).2 x13 (by omega) (by omega); omega)
  
def o_Pl_layTree_11 : or_T := (81, 17, [(11, (0, 1, 24, [])), (12, (0, 0, 23, [])), (13, (2, 0, 0, [3])), (16, (0, 0, 23, []))], [(10, [16, 15, 12], []), (9, [15, 7], [2]), (20, [7, 13, 11], [60, 1, 3, 859, 1000, 2, 5, 4]), (20, [7, 13, 14, 11, 12], [60, 1, 3, 865, 1000, 2, 5, 2002]), (20, [7, 13, 11, 12], [60, 1, 2, 860, 1000, 2, 6]), (24, [0, 7], [])], [], [(0, 0, 24, []), (0, 0, 24, [])], [(23, [17, 11], [0, 1, -1]), (23, [17, 11], [0, -1, 1]), (23, [18, 12], [0, 1, -1]), (23, [18, 12], [0, -1, 1]), (20, [7, 13, 14, 17, 18], [60, 1, 3, 865, 1000, 2, 5, 2002]), (20, [7, 13, 17, 18], [60, 1, 2, 860, 1000, 2, 6]), (20, [7, 13, 17], [60, 1, 3, 859, 1000, 2, 5, 4]), (20, [16, 7, 18], [50, 0, 1, 1002, 1, 2, 1, 0, 3, 1, 2, 1, 2]), (20, [18, 17], [50, 0, 0, 0, 6, 4, 2, 1, 0, 0, 1, 1, 1])], [], [(12, 11, -4294967296, -1)])
theorem oo_Pl_layTree_11 {kA : Nat → ClassId} : or_ok PRD kA GG o_Pl_layTree_11 := by
  refine or_mk fun A ta ws vs hD hth hl => ?_
  intro t11 k11 t12 k12 t13 r13 t16 k16 d0 f0 f1 f3 f4 f5 f7
  replace f0 := shm_107 f0
  replace f1 := shm_120 f1
  replace f3 := shm_1107 f3
  replace f4 := shm_1103 f4
  replace f5 := shm_1104 f5
  replace f7 := shm_5 f7
  have q7 : n_v vs 7 = n_v vs 0 := f7.symm
  simp only [q7] at f1 f3 f4 f5
  have ad_15 : v_ad (n_v vs 15) = w_ar ws (n_v vs 0) 2 := congrArg v_ad f1
  simp only [ad_15] at f0
  have h0 : v_iv (n_v vs 16) = w_ei ws (w_ar ws (n_v vs 0) 2) (v_iv (n_v vs 12)) := f0
  have kz_13_0 := fdq_21 hD hth r13
  obtain ⟨x, ex, hx⟩ := iv_ex (ta := ta) (lo := 0) (hi := 24) (z := v_iv (n_v vs 11)) (by omega) (by omega) (by omega) (by omega)
  have ex2 : v_iv (Value.int x) = v_iv (n_v vs 11) := ex
  have ex3 : 0 ≤ v_iv (Value.int x) ∧ v_iv (Value.int x) ≤ 24 := tv_rng hx
  obtain ⟨y, ey, hy⟩ := iv_ex (ta := ta) (lo := 0) (hi := 24) (z := v_iv (n_v vs 12)) (by omega) (by omega) (by omega) (by omega)
  have ey2 : v_iv (Value.int y) = v_iv (n_v vs 12) := ey
  have ey3 : 0 ≤ v_iv (Value.int y) ∧ v_iv (Value.int y) ≤ 24 := tv_rng hy
  have e_7 : n_v (vs ++ [Value.int x, Value.int y]) 7 = n_v vs 7 := n_v_old (by rw [hl]; decide)
  have e_11 : n_v (vs ++ [Value.int x, Value.int y]) 11 = n_v vs 11 := n_v_old (by rw [hl]; decide)
  have e_12 : n_v (vs ++ [Value.int x, Value.int y]) 12 = n_v vs 12 := n_v_old (by rw [hl]; decide)
  have e_13 : n_v (vs ++ [Value.int x, Value.int y]) 13 = n_v vs 13 := n_v_old (by rw [hl]; decide)
  have e_14 : n_v (vs ++ [Value.int x, Value.int y]) 14 = n_v vs 14 := n_v_old (by rw [hl]; decide)
  have e_16 : n_v (vs ++ [Value.int x, Value.int y]) 16 = n_v vs 16 := n_v_old (by rw [hl]; decide)
  have e_17 : n_v (vs ++ [Value.int x, Value.int y]) 17 = Value.int x := n_v_new0 hl
  have e_18 : n_v (vs ++ [Value.int x, Value.int y]) 18 = Value.int y := n_v_new1 hl
  have nf0 : fc_1 PRD (23, [17, 11], [0, 1, -1]) ws (vs ++ [Value.int x, Value.int y]) := by
    refine ⟨nf_inA hl rfl, sgq_7 ?_⟩
    · show 1 * v_iv (n_v (vs ++ [Value.int x, Value.int y]) 17) + ((-1) * v_iv (n_v (vs ++ [Value.int x, Value.int y]) 11) + 0) ≤ 0
      simp only [e_11, e_17]
      exact vc_Pl_layTree_11_0 (v_iv (n_v vs 11)) (v_iv (n_v vs 12)) (v_iv (Value.int x)) (v_iv (Value.int y)) k11 ex2
  have nf1 : fc_1 PRD (23, [17, 11], [0, -1, 1]) ws (vs ++ [Value.int x, Value.int y]) := by
    refine ⟨nf_inA hl rfl, sgq_22 ?_⟩
    · show (-1) * v_iv (n_v (vs ++ [Value.int x, Value.int y]) 17) + (1 * v_iv (n_v (vs ++ [Value.int x, Value.int y]) 11) + 0) ≤ 0
      simp only [e_11, e_17]
      exact vc_Pl_layTree_11_1 (v_iv (n_v vs 11)) (v_iv (n_v vs 12)) (v_iv (Value.int x)) (v_iv (Value.int y)) k11 ex2
  have nf2 : fc_1 PRD (23, [18, 12], [0, 1, -1]) ws (vs ++ [Value.int x, Value.int y]) := by
    refine ⟨nf_inA hl rfl, sgq_7 ?_⟩
    · show 1 * v_iv (n_v (vs ++ [Value.int x, Value.int y]) 18) + ((-1) * v_iv (n_v (vs ++ [Value.int x, Value.int y]) 12) + 0) ≤ 0
      simp only [e_12, e_18]
      exact vc_Pl_layTree_11_2 (v_iv (n_v vs 12)) (v_iv (Value.int y)) k12 ey2
  have nf3 : fc_1 PRD (23, [18, 12], [0, -1, 1]) ws (vs ++ [Value.int x, Value.int y]) := by
    refine ⟨nf_inA hl rfl, sgq_22 ?_⟩
    · show (-1) * v_iv (n_v (vs ++ [Value.int x, Value.int y]) 18) + (1 * v_iv (n_v (vs ++ [Value.int x, Value.int y]) 12) + 0) ≤ 0
      simp only [e_12, e_18]
      exact vc_Pl_layTree_11_3 (v_iv (n_v vs 12)) (v_iv (Value.int y)) k12 ey2
  have nf4 : fc_1 PRD (20, [7, 13, 14, 17, 18], [60, 1, 3, 865, 1000, 2, 5, 2002]) ws (vs ++ [Value.int x, Value.int y]) := by
    refine ⟨nf_inA hl rfl, sgq_1103 ?_⟩
    · show TQ0 (w_fi ws (n_v (vs ++ [Value.int x, Value.int y]) 13) 0) (w_ei ws (w_ar ws (n_v (vs ++ [Value.int x, Value.int y]) 7) 2)) (w_ei ws (w_ar ws (n_v (vs ++ [Value.int x, Value.int y]) 7) 5)) (w_ei ws (w_ar ws (n_v (vs ++ [Value.int x, Value.int y]) 14) 2)) (v_iv (n_v (vs ++ [Value.int x, Value.int y]) 17)) (v_iv (n_v (vs ++ [Value.int x, Value.int y]) 18))
      simp only [e_7, e_13, e_14, e_17, e_18, q7]
      exact vc_Pl_layTree_11_4 (v_iv (n_v vs 11)) (v_iv (n_v vs 12)) (w_ei ws (w_ar ws (n_v vs 0) 2)) (w_ei ws (w_ar ws (n_v vs 0) 5)) (w_fi ws (n_v vs 13) 0) (w_ei ws (w_ar ws (n_v vs 14) 2)) (v_iv (Value.int x)) (v_iv (Value.int y)) k11 k12 f4 kz_13_0 ex2 ey2
  have nf5 : fc_1 PRD (20, [7, 13, 17, 18], [60, 1, 2, 860, 1000, 2, 6]) ws (vs ++ [Value.int x, Value.int y]) := by
    refine ⟨nf_inA hl rfl, sgq_1104 ?_⟩
    · show TQU (w_fi ws (n_v (vs ++ [Value.int x, Value.int y]) 13) 0) (w_ei ws (w_ar ws (n_v (vs ++ [Value.int x, Value.int y]) 7) 2)) (w_ei ws (w_ar ws (n_v (vs ++ [Value.int x, Value.int y]) 7) 6)) (v_iv (n_v (vs ++ [Value.int x, Value.int y]) 17)) (v_iv (n_v (vs ++ [Value.int x, Value.int y]) 18))
      simp only [e_7, e_13, e_17, e_18, q7]
      exact vc_Pl_layTree_11_5 (v_iv (n_v vs 11)) (v_iv (n_v vs 12)) (w_ei ws (w_ar ws (n_v vs 0) 2)) (w_fi ws (n_v vs 13) 0) (w_ei ws (w_ar ws (n_v vs 0) 6)) (v_iv (Value.int x)) (v_iv (Value.int y)) k11 k12 f5 kz_13_0 ex2 ey2
  have nf6 : fc_1 PRD (20, [7, 13, 17], [60, 1, 3, 859, 1000, 2, 5, 4]) ws (vs ++ [Value.int x, Value.int y]) := by
    refine ⟨nf_inA hl rfl, sgq_1107 ?_⟩
    · show TQD (w_fi ws (n_v (vs ++ [Value.int x, Value.int y]) 13) 0) (w_ei ws (w_ar ws (n_v (vs ++ [Value.int x, Value.int y]) 7) 2)) (w_ei ws (w_ar ws (n_v (vs ++ [Value.int x, Value.int y]) 7) 5)) (w_ei ws (w_ar ws (n_v (vs ++ [Value.int x, Value.int y]) 7) 4)) (v_iv (n_v (vs ++ [Value.int x, Value.int y]) 17))
      simp only [e_7, e_13, e_17, q7]
      exact vc_Pl_layTree_11_6 (v_iv (n_v vs 11)) (w_ei ws (w_ar ws (n_v vs 0) 2)) (w_ei ws (w_ar ws (n_v vs 0) 5)) (w_ei ws (w_ar ws (n_v vs 0) 4)) (w_fi ws (n_v vs 13) 0) (v_iv (Value.int x)) k11 f3 kz_13_0 ex2
  have nf7 : fc_1 PRD (20, [16, 7, 18], [50, 0, 1, 1002, 1, 2, 1, 0, 3, 1, 2, 1, 2]) ws (vs ++ [Value.int x, Value.int y]) := by
    refine ⟨nf_inA hl rfl, sgq_428 ?_⟩
    · show v_iv (n_v (vs ++ [Value.int x, Value.int y]) 16) = w_ei ws (w_ar ws (n_v (vs ++ [Value.int x, Value.int y]) 7) 2) (v_iv (n_v (vs ++ [Value.int x, Value.int y]) 18))
      simp only [e_7, e_16, e_18, q7]
      exact vc_Pl_layTree_11_7 (v_iv (n_v vs 12)) (v_iv (n_v vs 16)) (w_ei ws (w_ar ws (n_v vs 0) 2)) (v_iv (Value.int y)) k12 k16 h0 ey2
  have nf8 : fc_1 PRD (20, [18, 17], [50, 0, 0, 0, 6, 4, 2, 1, 0, 0, 1, 1, 1]) ws (vs ++ [Value.int x, Value.int y]) := by
    refine ⟨nf_inA hl rfl, sgq_396 ?_⟩
    · show (v_iv (n_v (vs ++ [Value.int x, Value.int y]) 18) + 1) ≤ v_iv (n_v (vs ++ [Value.int x, Value.int y]) 17)
      simp only [e_17, e_18]
      exact vc_Pl_layTree_11_8 (v_iv (n_v vs 11)) (v_iv (n_v vs 12)) (v_iv (Value.int x)) (v_iv (Value.int y)) k11 k12 d0 ex2 ey2
  exact ⟨(fun _ h => (by cases h)), [Value.int x, Value.int y], ag_two hx hy, List.forall_mem_cons.mpr ⟨⟨show (23 : Nat) < 100 from by decide, nf0⟩, List.forall_mem_cons.mpr ⟨⟨show (23 : Nat) < 100 from by decide, nf1⟩, List.forall_mem_cons.mpr ⟨⟨show (23 : Nat) < 100 from by decide, nf2⟩, List.forall_mem_cons.mpr ⟨⟨show (23 : Nat) < 100 from by decide, nf3⟩, List.forall_mem_cons.mpr ⟨⟨show (20 : Nat) < 100 from by decide, nf4⟩, List.forall_mem_cons.mpr ⟨⟨show (20 : Nat) < 100 from by decide, nf5⟩, List.forall_mem_cons.mpr ⟨⟨show (20 : Nat) < 100 from by decide, nf6⟩, List.forall_mem_cons.mpr ⟨⟨show (20 : Nat) < 100 from by decide, nf7⟩, List.forall_mem_cons.mpr ⟨⟨show (20 : Nat) < 100 from by decide, nf8⟩, (fun _ h => (by cases h))⟩⟩⟩⟩⟩⟩⟩⟩⟩, (fun _ h => (by cases h))⟩
set_option maxHeartbeats 4000000 in
theorem vc_Pl_layTree_12_0 (x11 : Int) (x12 : Int) (x17 : Int) (x18 : Int) (x19 : Int) (order_0 : Int → Int) (parent_0 : Int → Int) (nodes_0o13 : Int) (x_0o14 : Int → Int) (k11 : 1 ≤ x11 ∧ x11 ≤ 24) (k12 : 0 ≤ x12 ∧ x12 ≤ 23) (k17 : 0 ≤ x17 ∧ x17 ≤ 24) (k18 : 0 ≤ x18 ∧ x18 ≤ 24) (k19 : (-1) ≤ x19 ∧ x19 ≤ 22) (d0 : x12 + (-1) ≤ x19 ∧ x19 ≤ x12 + (-1)) (d1 : x11 + (-4294967296) ≤ x19 ∧ x19 ≤ x11 + (-2)) (f2 : 1 * x17 + ((-1) * x11 + 0) ≤ 0) (f3 : (-1) * x17 + (1 * x11 + 0) ≤ 0) (f4 : 1 * x18 + ((-1) * x12 + 0) ≤ 0) (f5 : (-1) * x18 + (1 * x12 + 0) ≤ 0) (f12 : TQN (nodes_0o13) (order_0) (parent_0) (x_0o14) (x17) (x18)) (kz_13_0 : 0 ≤ nodes_0o13 ∧ nodes_0o13 ≤ 24) : TQ0 (nodes_0o13) (order_0) (parent_0) (x_0o14) (x11) (x19) := by
  first
    | assumption
    | exact tq0_start (by omega)
    | (have g := ‹TQN _ _ _ _ _ _›; rw [show x17 = x11 by omega] at g; exact tq0_next g (by omega) (by omega))
    | exact tq0_all ‹TQ0 _ _ _ _ _ _› (by omega) (by omega) (by omega)
    | (rw [show gx = x11 by omega, show gy = x12 by omega]; assumption)
    | (rw [show gx = x11 by omega, show gy = x11 by omega]; assumption)
  
set_option maxHeartbeats 4000000 in
theorem vc_Pl_layTree_12_1 (x11 : Int) (x12 : Int) (x17 : Int) (x18 : Int) (x19 : Int) (order_0 : Int → Int) (nodes_0o13 : Int) (under_0 : Int → Int) (k11 : 1 ≤ x11 ∧ x11 ≤ 24) (k12 : 0 ≤ x12 ∧ x12 ≤ 23) (k17 : 0 ≤ x17 ∧ x17 ≤ 24) (k18 : 0 ≤ x18 ∧ x18 ≤ 24) (k19 : (-1) ≤ x19 ∧ x19 ≤ 22) (d0 : x12 + (-1) ≤ x19 ∧ x19 ≤ x12 + (-1)) (d1 : x11 + (-4294967296) ≤ x19 ∧ x19 ≤ x11 + (-2)) (f2 : 1 * x17 + ((-1) * x11 + 0) ≤ 0) (f3 : (-1) * x17 + (1 * x11 + 0) ≤ 0) (f4 : 1 * x18 + ((-1) * x12 + 0) ≤ 0) (f5 : (-1) * x18 + (1 * x12 + 0) ≤ 0) (f13 : TQM (nodes_0o13) (order_0) (under_0) (x17) (x18)) (kz_13_0 : 0 ≤ nodes_0o13 ∧ nodes_0o13 ≤ 24) : TQU (nodes_0o13) (order_0) (under_0) (x11) (x19) := by
  first
    | assumption
    | exact tqu_start (by omega)
    | (have g := ‹TQM _ _ _ _ _›; rw [show x17 = x11 by omega] at g; exact tqu_next g (by omega) (by omega))
    | exact tqu_all ‹TQU _ _ _ _ _› (by omega) (by omega) (by omega)
    | (rw [show gx = x11 by omega, show gy = x12 by omega]; assumption)
    | (rw [show gx = x11 by omega, show gy = x11 by omega]; assumption)
  
set_option maxHeartbeats 4000000 in
theorem vc_Pl_layTree_12_2 (x11 : Int) (x12 : Int) (x17 : Int) (x19 : Int) (k11 : 1 ≤ x11 ∧ x11 ≤ 24) (k17 : 0 ≤ x17 ∧ x17 ≤ 24) (k19 : (-1) ≤ x19 ∧ x19 ≤ 22) (d1 : x11 + (-4294967296) ≤ x19 ∧ x19 ≤ x11 + (-2)) (f2 : 1 * x17 + ((-1) * x11 + 0) ≤ 0) (f3 : (-1) * x17 + (1 * x11 + 0) ≤ 0) : ((-1) ≤ x19) ∧ ((x19 + 1) ≤ x11) := by
  first
    | omega
    | assumption
    | (have q := wtb_room (r := x17) ‹WTB _ _ _ _› (by omega) (by omega) (by assumption); omega)
    | (have q := wtb_room (r := x19) ‹WTB _ _ _ _› (by omega) (by omega) (by assumption); omega)
    | (have q := wtb_room (r := x9) ‹WTB _ _ _ _› (by omega) (by omega) (by omega); omega)
    | (rw [show gy = x12 by omega]; assumption)
    | (have q := (‹TQ5 _ _ _ _›).2 x13 (by omega) (by omega); omega)
  
def o_Pl_layTree_12 : or_T := (68, 20, [(11, (0, 1, 24, [])), (12, (0, 0, 23, [])), (13, (2, 0, 0, [3])), (17, (0, 0, 24, [])), (18, (0, 0, 24, [])), (19, (0, -1, 22, []))], [(23, [17, 11], [0, 1, -1]), (23, [17, 11], [0, -1, 1]), (23, [18, 12], [0, 1, -1]), (23, [18, 12], [0, -1, 1]), (24, [0, 7], []), (20, [7, 13, 14, 17, 18], [60, 1, 3, 872, 1000, 2, 5, 2002]), (20, [7, 13, 17, 18], [60, 1, 2, 873, 1000, 2, 6])], [], [], [(20, [7, 13, 14, 11, 19], [60, 1, 3, 865, 1000, 2, 5, 2002]), (20, [7, 13, 11, 19], [60, 1, 2, 860, 1000, 2, 6]), (20, [19, 11], [50, 0, 0, 2, 6, 0, 2, 0, -1, 1, 0, 0, 6, 4, 2, 1, 0, 0, 1, 1, 1])], [], [(19, 12, -1, -1), (19, 11, -4294967296, -2)])
theorem oo_Pl_layTree_12 {kA : Nat → ClassId} : or_ok PRD kA GG o_Pl_layTree_12 := by
  refine or_mk fun A ta ws vs hD hth hl => ?_
  intro t11 k11 t12 k12 t13 r13 t17 k17 t18 k18 t19 k19 d0 d1 f2 f3 f4 f5 f11 f12 f13
  replace f2 := shm_7 f2
  replace f3 := shm_22 f3
  replace f4 := shm_7 f4
  replace f5 := shm_22 f5
  replace f11 := shm_5 f11
  replace f12 := shm_1391 f12
  replace f13 := shm_1392 f13
  have q7 : n_v vs 7 = n_v vs 0 := f11.symm
  simp only [q7] at f12 f13
  have kz_13_0 := fdq_21 hD hth r13
  have nf0 : fc_1 PRD (20, [7, 13, 14, 11, 19], [60, 1, 3, 865, 1000, 2, 5, 2002]) ws (vs) := by
    refine ⟨nf_in hl rfl, sgq_1103 ?_⟩
    · show TQ0 (w_fi ws (n_v vs 13) 0) (w_ei ws (w_ar ws (n_v vs 7) 2)) (w_ei ws (w_ar ws (n_v vs 7) 5)) (w_ei ws (w_ar ws (n_v vs 14) 2)) (v_iv (n_v vs 11)) (v_iv (n_v vs 19))
      rw [q7]
      exact vc_Pl_layTree_12_0 (v_iv (n_v vs 11)) (v_iv (n_v vs 12)) (v_iv (n_v vs 17)) (v_iv (n_v vs 18)) (v_iv (n_v vs 19)) (w_ei ws (w_ar ws (n_v vs 0) 2)) (w_ei ws (w_ar ws (n_v vs 0) 5)) (w_fi ws (n_v vs 13) 0) (w_ei ws (w_ar ws (n_v vs 14) 2)) k11 k12 k17 k18 k19 d0 d1 f2 f3 f4 f5 f12 kz_13_0
  have nf1 : fc_1 PRD (20, [7, 13, 11, 19], [60, 1, 2, 860, 1000, 2, 6]) ws (vs) := by
    refine ⟨nf_in hl rfl, sgq_1104 ?_⟩
    · show TQU (w_fi ws (n_v vs 13) 0) (w_ei ws (w_ar ws (n_v vs 7) 2)) (w_ei ws (w_ar ws (n_v vs 7) 6)) (v_iv (n_v vs 11)) (v_iv (n_v vs 19))
      rw [q7]
      exact vc_Pl_layTree_12_1 (v_iv (n_v vs 11)) (v_iv (n_v vs 12)) (v_iv (n_v vs 17)) (v_iv (n_v vs 18)) (v_iv (n_v vs 19)) (w_ei ws (w_ar ws (n_v vs 0) 2)) (w_fi ws (n_v vs 13) 0) (w_ei ws (w_ar ws (n_v vs 0) 6)) k11 k12 k17 k18 k19 d0 d1 f2 f3 f4 f5 f13 kz_13_0
  have nf2 : fc_1 PRD (20, [19, 11], [50, 0, 0, 2, 6, 0, 2, 0, -1, 1, 0, 0, 6, 4, 2, 1, 0, 0, 1, 1, 1]) ws (vs) := ⟨nf_in hl rfl, sgq_1558 (vc_Pl_layTree_12_2 (v_iv (n_v vs 11)) (v_iv (n_v vs 12)) (v_iv (n_v vs 17)) (v_iv (n_v vs 19)) k11 k17 k19 d1 f2 f3)⟩
  refine ⟨(fun _ h => (by cases h)), [], trivial, ?_, (fun _ h => (by cases h))⟩
  rw [List.append_nil]
  exact List.forall_mem_cons.mpr ⟨⟨show (20 : Nat) < 100 from by decide, nf0⟩, List.forall_mem_cons.mpr ⟨⟨show (20 : Nat) < 100 from by decide, nf1⟩, List.forall_mem_cons.mpr ⟨⟨show (20 : Nat) < 100 from by decide, nf2⟩, (fun _ h => (by cases h))⟩⟩⟩
set_option maxHeartbeats 4000000 in
theorem vc_Pl_layTree_13_0 (x10 : Int) (x11 : Int) (x12 : Int) (order_0 : Int → Int) (parent_0 : Int → Int) (level_0 : Int → Int) (nodes_0o13 : Int) (kids_0 : Int → Int) (gx : Int) (gy : Int) (k10 : 0 ≤ x10 ∧ x10 ≤ 24) (k11 : 0 ≤ x11 ∧ x11 ≤ 24) (k12 : 0 ≤ x12 ∧ x12 ≤ 24) (f1 : TQD (nodes_0o13) (order_0) (parent_0) (level_0) (x11)) (f4 : TQR (nodes_0o13) (order_0) (parent_0) (kids_0) (x10) (x12)) (f5 : x12 ≤ x11) (kz_13_0 : 0 ≤ nodes_0o13 ∧ nodes_0o13 ≤ 24) : TQK (order_0) (level_0) (kids_0) (x10) (x11) (x11) := by
  first
    | assumption
    | exact tqr_k ‹TQR _ _ _ _ _ _› ‹TQD _ _ _ _ _› (by omega) (by omega)
    | (rw [show gx = x11 by omega, show gy = x11 by omega]; exact tqr_k ‹TQR _ _ _ _ _ _› ‹TQD _ _ _ _ _› (by omega) (by omega))
  
set_option maxHeartbeats 4000000 in
theorem vc_Pl_layTree_13_1 (x10 : Int) (x11 : Int) (x12 : Int) (order_0 : Int → Int) (parent_0 : Int → Int) (level_0 : Int → Int) (nodes_0o13 : Int) (kids_0 : Int → Int) (gx : Int) (gy : Int) (k10 : 0 ≤ x10 ∧ x10 ≤ 24) (k11 : 0 ≤ x11 ∧ x11 ≤ 24) (k12 : 0 ≤ x12 ∧ x12 ≤ 24) (f1 : TQD (nodes_0o13) (order_0) (parent_0) (level_0) (x11)) (f4 : TQR (nodes_0o13) (order_0) (parent_0) (kids_0) (x10) (x12)) (kz_13_0 : 0 ≤ nodes_0o13 ∧ nodes_0o13 ≤ 24) : TQC (nodes_0o13) (order_0) (parent_0) (x10) (x11) (x11) := by
  first
    | assumption
    | exact tqr_c ‹TQR _ _ _ _ _ _› ‹TQD _ _ _ _ _› (by omega) (by omega) (by omega)
    | (rw [show gx = x11 by omega, show gy = x11 by omega]; exact tqr_c ‹TQR _ _ _ _ _ _› ‹TQD _ _ _ _ _› (by omega) (by omega) (by omega))
  
set_option maxHeartbeats 4000000 in
theorem vc_Pl_layTree_13_2 (x11 : Int) (x12 : Int) (gx : Int) (gy : Int) (k11 : 0 ≤ x11 ∧ x11 ≤ 24) (k12 : 0 ≤ x12 ∧ x12 ≤ 24) (d0 : x11 + 0 ≤ x12 ∧ x12 ≤ x11 + 4294967296) (d3 : x11 + (-4294967296) ≤ x12 ∧ x12 ≤ x11 + 0) (ex2 : gx = x11) : 1 * gx + ((-1) * x11 + 0) ≤ 0 := by
  first
    | omega
    | assumption
    | (have q := wtb_room (r := x17) ‹WTB _ _ _ _› (by omega) (by omega) (by assumption); omega)
    | (have q := wtb_room (r := x19) ‹WTB _ _ _ _› (by omega) (by omega) (by assumption); omega)
    | (have q := wtb_room (r := x9) ‹WTB _ _ _ _› (by omega) (by omega) (by omega); omega)
    | (rw [show gy = x12 by omega]; assumption)
    | (have q := (‹TQ5 _ _ _ _›).2 x13 (by omega) (by omega); omega)
  
set_option maxHeartbeats 4000000 in
theorem vc_Pl_layTree_13_3 (x11 : Int) (x12 : Int) (gx : Int) (gy : Int) (k11 : 0 ≤ x11 ∧ x11 ≤ 24) (k12 : 0 ≤ x12 ∧ x12 ≤ 24) (d0 : x11 + 0 ≤ x12 ∧ x12 ≤ x11 + 4294967296) (d3 : x11 + (-4294967296) ≤ x12 ∧ x12 ≤ x11 + 0) (ex2 : gx = x11) : (-1) * gx + (1 * x11 + 0) ≤ 0 := by
  first
    | omega
    | assumption
    | (have q := wtb_room (r := x17) ‹WTB _ _ _ _› (by omega) (by omega) (by assumption); omega)
    | (have q := wtb_room (r := x19) ‹WTB _ _ _ _› (by omega) (by omega) (by assumption); omega)
    | (have q := wtb_room (r := x9) ‹WTB _ _ _ _› (by omega) (by omega) (by omega); omega)
    | (rw [show gy = x12 by omega]; assumption)
    | (have q := (‹TQ5 _ _ _ _›).2 x13 (by omega) (by omega); omega)
  
set_option maxHeartbeats 4000000 in
theorem vc_Pl_layTree_13_4 (x11 : Int) (x12 : Int) (gx : Int) (gy : Int) (k11 : 0 ≤ x11 ∧ x11 ≤ 24) (k12 : 0 ≤ x12 ∧ x12 ≤ 24) (d0 : x11 + 0 ≤ x12 ∧ x12 ≤ x11 + 4294967296) (d3 : x11 + (-4294967296) ≤ x12 ∧ x12 ≤ x11 + 0) (ex2 : gx = x11) (ey2 : gy = x11) : 1 * gy + ((-1) * x11 + 0) ≤ 0 := by
  first
    | omega
    | assumption
    | (have q := wtb_room (r := x17) ‹WTB _ _ _ _› (by omega) (by omega) (by assumption); omega)
    | (have q := wtb_room (r := x19) ‹WTB _ _ _ _› (by omega) (by omega) (by assumption); omega)
    | (have q := wtb_room (r := x9) ‹WTB _ _ _ _› (by omega) (by omega) (by omega); omega)
    | (rw [show gy = x12 by omega]; assumption)
    | (have q := (‹TQ5 _ _ _ _›).2 x13 (by omega) (by omega); omega)
  
set_option maxHeartbeats 4000000 in
theorem vc_Pl_layTree_13_5 (x11 : Int) (x12 : Int) (gx : Int) (gy : Int) (k11 : 0 ≤ x11 ∧ x11 ≤ 24) (k12 : 0 ≤ x12 ∧ x12 ≤ 24) (d0 : x11 + 0 ≤ x12 ∧ x12 ≤ x11 + 4294967296) (d3 : x11 + (-4294967296) ≤ x12 ∧ x12 ≤ x11 + 0) (ex2 : gx = x11) (ey2 : gy = x11) : (-1) * gy + (1 * x11 + 0) ≤ 0 := by
  first
    | omega
    | assumption
    | (have q := wtb_room (r := x17) ‹WTB _ _ _ _› (by omega) (by omega) (by assumption); omega)
    | (have q := wtb_room (r := x19) ‹WTB _ _ _ _› (by omega) (by omega) (by assumption); omega)
    | (have q := wtb_room (r := x9) ‹WTB _ _ _ _› (by omega) (by omega) (by omega); omega)
    | (rw [show gy = x12 by omega]; assumption)
    | (have q := (‹TQ5 _ _ _ _›).2 x13 (by omega) (by omega); omega)
  
set_option maxHeartbeats 4000000 in
theorem vc_Pl_layTree_13_6 (x11 : Int) (x12 : Int) (order_0 : Int → Int) (parent_0 : Int → Int) (nodes_0o13 : Int) (x_0o14 : Int → Int) (gx : Int) (gy : Int) (k11 : 0 ≤ x11 ∧ x11 ≤ 24) (f2 : TQ0 (nodes_0o13) (order_0) (parent_0) (x_0o14) (x11) (x11)) (kz_13_0 : 0 ≤ nodes_0o13 ∧ nodes_0o13 ≤ 24) (ex2 : gx = x11) (ey2 : gy = x11) : TQ0 (nodes_0o13) (order_0) (parent_0) (x_0o14) (gx) (gy) := by
  first
    | assumption
    | exact tq0_start (by omega)
    | (have g := ‹TQN _ _ _ _ _ _›; rw [show x17 = x11 by omega] at g; exact tq0_next g (by omega) (by omega))
    | exact tq0_all ‹TQ0 _ _ _ _ _ _› (by omega) (by omega) (by omega)
    | (rw [show gx = x11 by omega, show gy = x12 by omega]; assumption)
    | (rw [show gx = x11 by omega, show gy = x11 by omega]; assumption)
  
set_option maxHeartbeats 4000000 in
theorem vc_Pl_layTree_13_7 (x11 : Int) (x12 : Int) (order_0 : Int → Int) (nodes_0o13 : Int) (under_0 : Int → Int) (gx : Int) (gy : Int) (k11 : 0 ≤ x11 ∧ x11 ≤ 24) (f3 : TQU (nodes_0o13) (order_0) (under_0) (x11) (x11)) (kz_13_0 : 0 ≤ nodes_0o13 ∧ nodes_0o13 ≤ 24) (ex2 : gx = x11) (ey2 : gy = x11) : TQU (nodes_0o13) (order_0) (under_0) (gx) (gy) := by
  first
    | assumption
    | exact tqu_start (by omega)
    | (have g := ‹TQM _ _ _ _ _›; rw [show x17 = x11 by omega] at g; exact tqu_next g (by omega) (by omega))
    | exact tqu_all ‹TQU _ _ _ _ _› (by omega) (by omega) (by omega)
    | (rw [show gx = x11 by omega, show gy = x12 by omega]; assumption)
    | (rw [show gx = x11 by omega, show gy = x11 by omega]; assumption)
  
set_option maxHeartbeats 4000000 in
theorem vc_Pl_layTree_13_8 (x10 : Int) (x11 : Int) (x12 : Int) (order_0 : Int → Int) (parent_0 : Int → Int) (level_0 : Int → Int) (nodes_0o13 : Int) (kids_0 : Int → Int) (gx : Int) (gy : Int) (k10 : 0 ≤ x10 ∧ x10 ≤ 24) (k11 : 0 ≤ x11 ∧ x11 ≤ 24) (k12 : 0 ≤ x12 ∧ x12 ≤ 24) (f1 : TQD (nodes_0o13) (order_0) (parent_0) (level_0) (x11)) (f4 : TQR (nodes_0o13) (order_0) (parent_0) (kids_0) (x10) (x12)) (f5 : x12 ≤ x11) (kz_13_0 : 0 ≤ nodes_0o13 ∧ nodes_0o13 ≤ 24) (ex2 : gx = x11) (ey2 : gy = x11) : TQK (order_0) (level_0) (kids_0) (x10) (gx) (gy) := by
  first
    | assumption
    | exact tqr_k ‹TQR _ _ _ _ _ _› ‹TQD _ _ _ _ _› (by omega) (by omega)
    | (rw [show gx = x11 by omega, show gy = x11 by omega]; exact tqr_k ‹TQR _ _ _ _ _ _› ‹TQD _ _ _ _ _› (by omega) (by omega))
  
set_option maxHeartbeats 4000000 in
theorem vc_Pl_layTree_13_9 (x10 : Int) (x11 : Int) (x12 : Int) (order_0 : Int → Int) (parent_0 : Int → Int) (level_0 : Int → Int) (nodes_0o13 : Int) (kids_0 : Int → Int) (gx : Int) (gy : Int) (k10 : 0 ≤ x10 ∧ x10 ≤ 24) (k11 : 0 ≤ x11 ∧ x11 ≤ 24) (k12 : 0 ≤ x12 ∧ x12 ≤ 24) (f1 : TQD (nodes_0o13) (order_0) (parent_0) (level_0) (x11)) (f4 : TQR (nodes_0o13) (order_0) (parent_0) (kids_0) (x10) (x12)) (kz_13_0 : 0 ≤ nodes_0o13 ∧ nodes_0o13 ≤ 24) (ex2 : gx = x11) (ey2 : gy = x11) : TQC (nodes_0o13) (order_0) (parent_0) (x10) (gx) (gy) := by
  first
    | assumption
    | exact tqr_c ‹TQR _ _ _ _ _ _› ‹TQD _ _ _ _ _› (by omega) (by omega) (by omega)
    | (rw [show gx = x11 by omega, show gy = x11 by omega]; exact tqr_c ‹TQR _ _ _ _ _ _› ‹TQD _ _ _ _ _› (by omega) (by omega) (by omega))
  
set_option maxHeartbeats 4000000 in
theorem vc_Pl_layTree_13_10 (x11 : Int) (order_0 : Int → Int) (parent_0 : Int → Int) (level_0 : Int → Int) (nodes_0o13 : Int) (gx : Int) (k11 : 0 ≤ x11 ∧ x11 ≤ 24) (f1 : TQD (nodes_0o13) (order_0) (parent_0) (level_0) (x11)) (kz_13_0 : 0 ≤ nodes_0o13 ∧ nodes_0o13 ≤ 24) (ex2 : gx = x11) : TQD (nodes_0o13) (order_0) (parent_0) (level_0) (gx) := by
  first
    | assumption
    | exact tqd_of ‹TQB _ _ _ _ _ _ _› ‹WTB _ _ _ _› ‹FPA _ _ _› (by omega) (by omega)
    | (rw [show gx = x11 by omega]; assumption)
  
def o_Pl_layTree_13 : or_T := (140, 15, [(10, (0, 0, 24, [])), (11, (0, 0, 24, [])), (12, (0, 0, 24, [])), (13, (2, 0, 0, [3]))], [(20, [7, 13, 11], [60, 1, 3, 859, 1000, 2, 5, 4]), (20, [7, 13, 14, 11, 11], [60, 1, 3, 865, 1000, 2, 5, 2002]), (20, [7, 13, 11, 11], [60, 1, 2, 860, 1000, 2, 6]), (20, [7, 13, 10, 12], [60, 1, 3, 874, 1000, 2, 5, 7]), (20, [12, 11], [50, 0, 0, 0, 2, 1, 0, 1, 1]), (24, [0, 7], [])], [], [(0, 0, 24, []), (0, 0, 24, [])], [(20, [7, 10, 11, 11], [60, 0, 3, 861, 2, 4, 7]), (20, [7, 13, 10, 11, 11], [60, 1, 2, 862, 1000, 2, 5]), (23, [15, 11], [0, 1, -1]), (23, [15, 11], [0, -1, 1]), (23, [16, 11], [0, 1, -1]), (23, [16, 11], [0, -1, 1]), (20, [7, 13, 14, 15, 16], [60, 1, 3, 865, 1000, 2, 5, 2002]), (20, [7, 13, 15, 16], [60, 1, 2, 860, 1000, 2, 6]), (20, [7, 10, 15, 16], [60, 0, 3, 861, 2, 4, 7]), (20, [7, 13, 10, 15, 16], [60, 1, 2, 862, 1000, 2, 5]), (20, [7, 13, 15], [60, 1, 3, 859, 1000, 2, 5, 4])], [], [(12, 11, 0, 4294967296), (10, 11, -4294967296, 0), (12, 11, -4294967296, 0)])
theorem oo_Pl_layTree_13 {kA : Nat → ClassId} : or_ok PRD kA GG o_Pl_layTree_13 := by
  refine or_mk fun A ta ws vs hD hth hl => ?_
  intro t10 k10 t11 k11 t12 k12 t13 r13 d0 d1 d3 f1 f2 f3 f4 f5 f6
  replace f1 := shm_1107 f1
  replace f2 := shm_1785 f2
  replace f3 := shm_1786 f3
  replace f4 := shm_1787 f4
  replace f5 := shm_360 f5
  replace f6 := shm_5 f6
  have q7 : n_v vs 7 = n_v vs 0 := f6.symm
  simp only [q7] at f1 f2 f3 f4
  have kz_13_0 := fdq_21 hD hth r13
  obtain ⟨x, ex, hx⟩ := iv_ex (ta := ta) (lo := 0) (hi := 24) (z := v_iv (n_v vs 11)) (by omega) (by omega) (by omega) (by omega)
  have ex2 : v_iv (Value.int x) = v_iv (n_v vs 11) := ex
  have ex3 : 0 ≤ v_iv (Value.int x) ∧ v_iv (Value.int x) ≤ 24 := tv_rng hx
  obtain ⟨y, ey, hy⟩ := iv_ex (ta := ta) (lo := 0) (hi := 24) (z := v_iv (n_v vs 11)) (by omega) (by omega) (by omega) (by omega)
  have ey2 : v_iv (Value.int y) = v_iv (n_v vs 11) := ey
  have ey3 : 0 ≤ v_iv (Value.int y) ∧ v_iv (Value.int y) ≤ 24 := tv_rng hy
  have e_7 : n_v (vs ++ [Value.int x, Value.int y]) 7 = n_v vs 7 := n_v_old (by rw [hl]; decide)
  have e_10 : n_v (vs ++ [Value.int x, Value.int y]) 10 = n_v vs 10 := n_v_old (by rw [hl]; decide)
  have e_11 : n_v (vs ++ [Value.int x, Value.int y]) 11 = n_v vs 11 := n_v_old (by rw [hl]; decide)
  have e_13 : n_v (vs ++ [Value.int x, Value.int y]) 13 = n_v vs 13 := n_v_old (by rw [hl]; decide)
  have e_14 : n_v (vs ++ [Value.int x, Value.int y]) 14 = n_v vs 14 := n_v_old (by rw [hl]; decide)
  have e_15 : n_v (vs ++ [Value.int x, Value.int y]) 15 = Value.int x := n_v_new0 hl
  have e_16 : n_v (vs ++ [Value.int x, Value.int y]) 16 = Value.int y := n_v_new1 hl
  have nf0 : fc_1 PRD (20, [7, 10, 11, 11], [60, 0, 3, 861, 2, 4, 7]) ws (vs ++ [Value.int x, Value.int y]) := by
    refine ⟨nf_inA hl rfl, sgq_1788 ?_⟩
    · show TQK (w_ei ws (w_ar ws (n_v (vs ++ [Value.int x, Value.int y]) 7) 2)) (w_ei ws (w_ar ws (n_v (vs ++ [Value.int x, Value.int y]) 7) 4)) (w_ei ws (w_ar ws (n_v (vs ++ [Value.int x, Value.int y]) 7) 7)) (v_iv (n_v (vs ++ [Value.int x, Value.int y]) 10)) (v_iv (n_v (vs ++ [Value.int x, Value.int y]) 11)) (v_iv (n_v (vs ++ [Value.int x, Value.int y]) 11))
      simp only [e_7, e_10, e_11, q7]
      exact vc_Pl_layTree_13_0 (v_iv (n_v vs 10)) (v_iv (n_v vs 11)) (v_iv (n_v vs 12)) (w_ei ws (w_ar ws (n_v vs 0) 2)) (w_ei ws (w_ar ws (n_v vs 0) 5)) (w_ei ws (w_ar ws (n_v vs 0) 4)) (w_fi ws (n_v vs 13) 0) (w_ei ws (w_ar ws (n_v vs 0) 7)) (v_iv (Value.int x)) (v_iv (Value.int y)) k10 k11 k12 f1 f4 f5 kz_13_0
  have nf1 : fc_1 PRD (20, [7, 13, 10, 11, 11], [60, 1, 2, 862, 1000, 2, 5]) ws (vs ++ [Value.int x, Value.int y]) := by
    refine ⟨nf_inA hl rfl, sgq_1789 ?_⟩
    · show TQC (w_fi ws (n_v (vs ++ [Value.int x, Value.int y]) 13) 0) (w_ei ws (w_ar ws (n_v (vs ++ [Value.int x, Value.int y]) 7) 2)) (w_ei ws (w_ar ws (n_v (vs ++ [Value.int x, Value.int y]) 7) 5)) (v_iv (n_v (vs ++ [Value.int x, Value.int y]) 10)) (v_iv (n_v (vs ++ [Value.int x, Value.int y]) 11)) (v_iv (n_v (vs ++ [Value.int x, Value.int y]) 11))
      simp only [e_7, e_10, e_11, e_13, q7]
      exact vc_Pl_layTree_13_1 (v_iv (n_v vs 10)) (v_iv (n_v vs 11)) (v_iv (n_v vs 12)) (w_ei ws (w_ar ws (n_v vs 0) 2)) (w_ei ws (w_ar ws (n_v vs 0) 5)) (w_ei ws (w_ar ws (n_v vs 0) 4)) (w_fi ws (n_v vs 13) 0) (w_ei ws (w_ar ws (n_v vs 0) 7)) (v_iv (Value.int x)) (v_iv (Value.int y)) k10 k11 k12 f1 f4 kz_13_0
  have nf2 : fc_1 PRD (23, [15, 11], [0, 1, -1]) ws (vs ++ [Value.int x, Value.int y]) := by
    refine ⟨nf_inA hl rfl, sgq_7 ?_⟩
    · show 1 * v_iv (n_v (vs ++ [Value.int x, Value.int y]) 15) + ((-1) * v_iv (n_v (vs ++ [Value.int x, Value.int y]) 11) + 0) ≤ 0
      simp only [e_11, e_15]
      exact vc_Pl_layTree_13_2 (v_iv (n_v vs 11)) (v_iv (n_v vs 12)) (v_iv (Value.int x)) (v_iv (Value.int y)) k11 k12 d0 d3 ex2
  have nf3 : fc_1 PRD (23, [15, 11], [0, -1, 1]) ws (vs ++ [Value.int x, Value.int y]) := by
    refine ⟨nf_inA hl rfl, sgq_22 ?_⟩
    · show (-1) * v_iv (n_v (vs ++ [Value.int x, Value.int y]) 15) + (1 * v_iv (n_v (vs ++ [Value.int x, Value.int y]) 11) + 0) ≤ 0
      simp only [e_11, e_15]
      exact vc_Pl_layTree_13_3 (v_iv (n_v vs 11)) (v_iv (n_v vs 12)) (v_iv (Value.int x)) (v_iv (Value.int y)) k11 k12 d0 d3 ex2
  have nf4 : fc_1 PRD (23, [16, 11], [0, 1, -1]) ws (vs ++ [Value.int x, Value.int y]) := by
    refine ⟨nf_inA hl rfl, sgq_7 ?_⟩
    · show 1 * v_iv (n_v (vs ++ [Value.int x, Value.int y]) 16) + ((-1) * v_iv (n_v (vs ++ [Value.int x, Value.int y]) 11) + 0) ≤ 0
      simp only [e_11, e_16]
      exact vc_Pl_layTree_13_4 (v_iv (n_v vs 11)) (v_iv (n_v vs 12)) (v_iv (Value.int x)) (v_iv (Value.int y)) k11 k12 d0 d3 ex2 ey2
  have nf5 : fc_1 PRD (23, [16, 11], [0, -1, 1]) ws (vs ++ [Value.int x, Value.int y]) := by
    refine ⟨nf_inA hl rfl, sgq_22 ?_⟩
    · show (-1) * v_iv (n_v (vs ++ [Value.int x, Value.int y]) 16) + (1 * v_iv (n_v (vs ++ [Value.int x, Value.int y]) 11) + 0) ≤ 0
      simp only [e_11, e_16]
      exact vc_Pl_layTree_13_5 (v_iv (n_v vs 11)) (v_iv (n_v vs 12)) (v_iv (Value.int x)) (v_iv (Value.int y)) k11 k12 d0 d3 ex2 ey2
  have nf6 : fc_1 PRD (20, [7, 13, 14, 15, 16], [60, 1, 3, 865, 1000, 2, 5, 2002]) ws (vs ++ [Value.int x, Value.int y]) := by
    refine ⟨nf_inA hl rfl, sgq_1103 ?_⟩
    · show TQ0 (w_fi ws (n_v (vs ++ [Value.int x, Value.int y]) 13) 0) (w_ei ws (w_ar ws (n_v (vs ++ [Value.int x, Value.int y]) 7) 2)) (w_ei ws (w_ar ws (n_v (vs ++ [Value.int x, Value.int y]) 7) 5)) (w_ei ws (w_ar ws (n_v (vs ++ [Value.int x, Value.int y]) 14) 2)) (v_iv (n_v (vs ++ [Value.int x, Value.int y]) 15)) (v_iv (n_v (vs ++ [Value.int x, Value.int y]) 16))
      simp only [e_7, e_13, e_14, e_15, e_16, q7]
      exact vc_Pl_layTree_13_6 (v_iv (n_v vs 11)) (v_iv (n_v vs 12)) (w_ei ws (w_ar ws (n_v vs 0) 2)) (w_ei ws (w_ar ws (n_v vs 0) 5)) (w_fi ws (n_v vs 13) 0) (w_ei ws (w_ar ws (n_v vs 14) 2)) (v_iv (Value.int x)) (v_iv (Value.int y)) k11 f2 kz_13_0 ex2 ey2
  have nf7 : fc_1 PRD (20, [7, 13, 15, 16], [60, 1, 2, 860, 1000, 2, 6]) ws (vs ++ [Value.int x, Value.int y]) := by
    refine ⟨nf_inA hl rfl, sgq_1104 ?_⟩
    · show TQU (w_fi ws (n_v (vs ++ [Value.int x, Value.int y]) 13) 0) (w_ei ws (w_ar ws (n_v (vs ++ [Value.int x, Value.int y]) 7) 2)) (w_ei ws (w_ar ws (n_v (vs ++ [Value.int x, Value.int y]) 7) 6)) (v_iv (n_v (vs ++ [Value.int x, Value.int y]) 15)) (v_iv (n_v (vs ++ [Value.int x, Value.int y]) 16))
      simp only [e_7, e_13, e_15, e_16, q7]
      exact vc_Pl_layTree_13_7 (v_iv (n_v vs 11)) (v_iv (n_v vs 12)) (w_ei ws (w_ar ws (n_v vs 0) 2)) (w_fi ws (n_v vs 13) 0) (w_ei ws (w_ar ws (n_v vs 0) 6)) (v_iv (Value.int x)) (v_iv (Value.int y)) k11 f3 kz_13_0 ex2 ey2
  have nf8 : fc_1 PRD (20, [7, 10, 15, 16], [60, 0, 3, 861, 2, 4, 7]) ws (vs ++ [Value.int x, Value.int y]) := by
    refine ⟨nf_inA hl rfl, sgq_1105 ?_⟩
    · show TQK (w_ei ws (w_ar ws (n_v (vs ++ [Value.int x, Value.int y]) 7) 2)) (w_ei ws (w_ar ws (n_v (vs ++ [Value.int x, Value.int y]) 7) 4)) (w_ei ws (w_ar ws (n_v (vs ++ [Value.int x, Value.int y]) 7) 7)) (v_iv (n_v (vs ++ [Value.int x, Value.int y]) 10)) (v_iv (n_v (vs ++ [Value.int x, Value.int y]) 15)) (v_iv (n_v (vs ++ [Value.int x, Value.int y]) 16))
      simp only [e_7, e_10, e_15, e_16, q7]
      exact vc_Pl_layTree_13_8 (v_iv (n_v vs 10)) (v_iv (n_v vs 11)) (v_iv (n_v vs 12)) (w_ei ws (w_ar ws (n_v vs 0) 2)) (w_ei ws (w_ar ws (n_v vs 0) 5)) (w_ei ws (w_ar ws (n_v vs 0) 4)) (w_fi ws (n_v vs 13) 0) (w_ei ws (w_ar ws (n_v vs 0) 7)) (v_iv (Value.int x)) (v_iv (Value.int y)) k10 k11 k12 f1 f4 f5 kz_13_0 ex2 ey2
  have nf9 : fc_1 PRD (20, [7, 13, 10, 15, 16], [60, 1, 2, 862, 1000, 2, 5]) ws (vs ++ [Value.int x, Value.int y]) := by
    refine ⟨nf_inA hl rfl, sgq_1106 ?_⟩
    · show TQC (w_fi ws (n_v (vs ++ [Value.int x, Value.int y]) 13) 0) (w_ei ws (w_ar ws (n_v (vs ++ [Value.int x, Value.int y]) 7) 2)) (w_ei ws (w_ar ws (n_v (vs ++ [Value.int x, Value.int y]) 7) 5)) (v_iv (n_v (vs ++ [Value.int x, Value.int y]) 10)) (v_iv (n_v (vs ++ [Value.int x, Value.int y]) 15)) (v_iv (n_v (vs ++ [Value.int x, Value.int y]) 16))
      simp only [e_7, e_10, e_13, e_15, e_16, q7]
      exact vc_Pl_layTree_13_9 (v_iv (n_v vs 10)) (v_iv (n_v vs 11)) (v_iv (n_v vs 12)) (w_ei ws (w_ar ws (n_v vs 0) 2)) (w_ei ws (w_ar ws (n_v vs 0) 5)) (w_ei ws (w_ar ws (n_v vs 0) 4)) (w_fi ws (n_v vs 13) 0) (w_ei ws (w_ar ws (n_v vs 0) 7)) (v_iv (Value.int x)) (v_iv (Value.int y)) k10 k11 k12 f1 f4 kz_13_0 ex2 ey2
  have nf10 : fc_1 PRD (20, [7, 13, 15], [60, 1, 3, 859, 1000, 2, 5, 4]) ws (vs ++ [Value.int x, Value.int y]) := by
    refine ⟨nf_inA hl rfl, sgq_1107 ?_⟩
    · show TQD (w_fi ws (n_v (vs ++ [Value.int x, Value.int y]) 13) 0) (w_ei ws (w_ar ws (n_v (vs ++ [Value.int x, Value.int y]) 7) 2)) (w_ei ws (w_ar ws (n_v (vs ++ [Value.int x, Value.int y]) 7) 5)) (w_ei ws (w_ar ws (n_v (vs ++ [Value.int x, Value.int y]) 7) 4)) (v_iv (n_v (vs ++ [Value.int x, Value.int y]) 15))
      simp only [e_7, e_13, e_15, q7]
      exact vc_Pl_layTree_13_10 (v_iv (n_v vs 11)) (w_ei ws (w_ar ws (n_v vs 0) 2)) (w_ei ws (w_ar ws (n_v vs 0) 5)) (w_ei ws (w_ar ws (n_v vs 0) 4)) (w_fi ws (n_v vs 13) 0) (v_iv (Value.int x)) k11 f1 kz_13_0 ex2
  exact ⟨(fun _ h => (by cases h)), [Value.int x, Value.int y], ag_two hx hy, List.forall_mem_cons.mpr ⟨⟨show (20 : Nat) < 100 from by decide, nf0⟩, List.forall_mem_cons.mpr ⟨⟨show (20 : Nat) < 100 from by decide, nf1⟩, List.forall_mem_cons.mpr ⟨⟨show (23 : Nat) < 100 from by decide, nf2⟩, List.forall_mem_cons.mpr ⟨⟨show (23 : Nat) < 100 from by decide, nf3⟩, List.forall_mem_cons.mpr ⟨⟨show (23 : Nat) < 100 from by decide, nf4⟩, List.forall_mem_cons.mpr ⟨⟨show (23 : Nat) < 100 from by decide, nf5⟩, List.forall_mem_cons.mpr ⟨⟨show (20 : Nat) < 100 from by decide, nf6⟩, List.forall_mem_cons.mpr ⟨⟨show (20 : Nat) < 100 from by decide, nf7⟩, List.forall_mem_cons.mpr ⟨⟨show (20 : Nat) < 100 from by decide, nf8⟩, List.forall_mem_cons.mpr ⟨⟨show (20 : Nat) < 100 from by decide, nf9⟩, List.forall_mem_cons.mpr ⟨⟨show (20 : Nat) < 100 from by decide, nf10⟩, (fun _ h => (by cases h))⟩⟩⟩⟩⟩⟩⟩⟩⟩⟩⟩, (fun _ h => (by cases h))⟩
set_option maxHeartbeats 4000000 in
theorem vc_Pl_layTree_14_0 (x10 : Int) (x11 : Int) (x12 : Int) (x15 : Int) (x16 : Int) (x19 : Int) (x20 : Int) (x21 : Int) (x_0o14 : Int → Int) (order_0 : Int → Int) (level_0 : Int → Int) (kids_0 : Int → Int) (parent_0 : Int → Int) (nodes_0o13 : Int) (k10 : 0 ≤ x10 ∧ x10 ≤ 24) (k11 : 0 ≤ x11 ∧ x11 ≤ 24) (k12 : 0 ≤ x12 ∧ x12 ≤ 24) (k15 : 0 ≤ x15 ∧ x15 ≤ 24) (k16 : 0 ≤ x16 ∧ x16 ≤ 24) (k19 : 0 ≤ x19 ∧ x19 ≤ 0) (k20 : (-40000000) ≤ x20 ∧ x20 ≤ 690000000) (k21 : 1 ≤ x21 ∧ x21 ≤ 1) (d0 : x11 + 0 ≤ x12 ∧ x12 ≤ x11 + 4294967296) (d3 : x11 + (-4294967296) ≤ x12 ∧ x12 ≤ x11 + 0) (h0 : x20 = x_0o14 (x19)) (f4 : 1 * x15 + ((-1) * x11 + 0) ≤ 0) (f5 : (-1) * x15 + (1 * x11 + 0) ≤ 0) (f6 : 1 * x16 + ((-1) * x11 + 0) ≤ 0) (f7 : (-1) * x16 + (1 * x11 + 0) ≤ 0) (f10 : TQC (nodes_0o13) (order_0) (parent_0) (x10) (x15) (x16)) (f11 : TQD (nodes_0o13) (order_0) (parent_0) (level_0) (x15)) (f14 : TQR (nodes_0o13) (order_0) (parent_0) (kids_0) (x10) (x12)) (f17 : TQ2 (nodes_0o13) (order_0) (parent_0) (x_0o14) (x10) (x15) (x16)) (kz_13_0 : 0 ≤ nodes_0o13 ∧ nodes_0o13 ≤ 24) : TQ4 (nodes_0o13) (x_0o14) (x20) (x21) := by
  first
    | (have e1 : x15 = x11 := by omega
       have e2 : x16 = x11 := by omega
       exact tq4_start (tq3_of (s := x15) (k := x16) (lv := level_0) ‹TQ2 _ _ _ _ _ _ _› (by assumption) (by have := (‹TQR _ _ _ _ _ _›).2.2.1; omega) (by assumption) (by omega)) (by rw [show (0 : Int) = x19 by omega]; assumption) (by omega))
    | exact tq4_step (v := x13) (a := x18) ‹TQ4 _ _ _ _› (by omega) (by assumption) (by omega) (by omega)
  
def o_Pl_layTree_14 : or_T := (158, 22, [(10, (0, 0, 24, [])), (11, (0, 0, 24, [])), (12, (0, 0, 24, [])), (13, (2, 0, 0, [3])), (15, (0, 0, 24, [])), (16, (0, 0, 24, [])), (19, (0, 0, 0, [])), (20, (0, -40000000, 690000000, [])), (21, (0, 1, 1, []))], [(10, [20, 18, 19], []), (9, [18, 14], [2]), (23, [15, 11], [0, 1, -1]), (23, [15, 11], [0, -1, 1]), (23, [16, 11], [0, 1, -1]), (23, [16, 11], [0, -1, 1]), (20, [7, 13, 10, 15, 16], [60, 1, 2, 862, 1000, 2, 5]), (20, [7, 13, 15], [60, 1, 3, 859, 1000, 2, 5, 4]), (20, [7, 13, 10, 12], [60, 1, 3, 874, 1000, 2, 5, 7]), (24, [0, 7], []), (20, [7, 13, 14, 10, 15, 16], [60, 1, 3, 866, 1000, 2, 5, 2002])], [], [], [(20, [13, 14, 20, 21], [60, 1, 1, 878, 0, 1002])], [], [(12, 11, 0, 4294967296), (12, 11, -4294967296, 0)])
theorem oo_Pl_layTree_14 {kA : Nat → ClassId} : or_ok PRD kA GG o_Pl_layTree_14 := by
  refine or_mk fun A ta ws vs hD hth hl => ?_
  intro t10 k10 t11 k11 t12 k12 t13 r13 t15 k15 t16 k16 t19 k19 t20 k20 t21 k21 d0 d3 f0 f1 f4 f5 f6 f7 f10 f11 f14 f16 f17
  replace f0 := shm_107 f0
  replace f1 := shm_120 f1
  replace f10 := shm_1106 f10
  replace f11 := shm_1107 f11
  replace f14 := shm_1787 f14
  replace f16 := shm_5 f16
  replace f17 := shm_1111 f17
  have q7 : n_v vs 7 = n_v vs 0 := f16.symm
  simp only [q7] at f10 f11 f14 f17
  have ad_18 : v_ad (n_v vs 18) = w_ar ws (n_v vs 14) 2 := congrArg v_ad f1
  simp only [ad_18] at f0
  have h0 : v_iv (n_v vs 20) = w_ei ws (w_ar ws (n_v vs 14) 2) (v_iv (n_v vs 19)) := f0
  have kz_13_0 := fdq_21 hD hth r13
  have nf0 : fc_1 PRD (20, [13, 14, 20, 21], [60, 1, 1, 878, 0, 1002]) ws (vs) := ⟨nf_in hl rfl, sgq_1790 (vc_Pl_layTree_14_0 (v_iv (n_v vs 10)) (v_iv (n_v vs 11)) (v_iv (n_v vs 12)) (v_iv (n_v vs 15)) (v_iv (n_v vs 16)) (v_iv (n_v vs 19)) (v_iv (n_v vs 20)) (v_iv (n_v vs 21)) (w_ei ws (w_ar ws (n_v vs 14) 2)) (w_ei ws (w_ar ws (n_v vs 0) 2)) (w_ei ws (w_ar ws (n_v vs 0) 4)) (w_ei ws (w_ar ws (n_v vs 0) 7)) (w_ei ws (w_ar ws (n_v vs 0) 5)) (w_fi ws (n_v vs 13) 0) k10 k11 k12 k15 k16 k19 k20 k21 d0 d3 h0 (shm_7 f4) (shm_22 f5) (shm_7 f6) (shm_22 f7) f10 f11 f14 f17 kz_13_0)⟩
  refine ⟨(fun _ h => (by cases h)), [], trivial, ?_, (fun _ h => (by cases h))⟩
  rw [List.append_nil]
  exact List.forall_mem_cons.mpr ⟨⟨show (20 : Nat) < 100 from by decide, nf0⟩, (fun _ h => (by cases h))⟩
set_option maxHeartbeats 4000000 in
theorem vc_Pl_layTree_15_0 (x10 : Int) (x11 : Int) (x12 : Int) (x17 : Int) (x20 : Int) (parent_0 : Int → Int) (order_0 : Int → Int) (level_0 : Int → Int) (nodes_0o13 : Int) (kids_0 : Int → Int) (k10 : 0 ≤ x10 ∧ x10 ≤ 23) (k12 : 0 ≤ x12 ∧ x12 ≤ 23) (k20 : 1 ≤ x20 ∧ x20 ≤ 24) (f0 : x20 = x12 + 1) (f10 : TQR (nodes_0o13) (order_0) (parent_0) (kids_0) (x10) (x12)) (kz_13_0 : 0 ≤ nodes_0o13 ∧ nodes_0o13 ≤ 24) : TQR (nodes_0o13) (order_0) (parent_0) (kids_0) (x10) (x20) := by
  first
    | assumption
    | exact tqr_start (by omega) (by omega)
    | exact tqr_skip ‹TQR _ _ _ _ _ _› (by omega)
    | (have e : x17 = x21 := by omega
       exact tqr_step (lv := level_0) (q := x12) (s := x11) (y := x21) ‹TQR _ _ _ _ _ _› (by assumption) (by omega) (by omega) (by rw [← ‹x17 = order_0 x12›]; omega) (by assumption) rfl (by assumption) (by omega) (by omega))
  
set_option maxHeartbeats 4000000 in
theorem vc_Pl_layTree_15_1 (x11 : Int) (x12 : Int) (x17 : Int) (x19 : Int) (x20 : Int) (k11 : 1 ≤ x11 ∧ x11 ≤ 24) (k12 : 0 ≤ x12 ∧ x12 ≤ 23) (k20 : 1 ≤ x20 ∧ x20 ≤ 24) (d0 : x12 + 1 ≤ x20 ∧ x20 ≤ x12 + 1) (d1 : x11 + (-4294967296) ≤ x20 ∧ x20 ≤ x11 + 0) (d3 : x11 + (-4294967296) ≤ x12 ∧ x12 ≤ x11 + (-1)) : x20 ≤ x11 := by
  first
    | omega
    | assumption
    | (have q := wtb_room (r := x17) ‹WTB _ _ _ _› (by omega) (by omega) (by assumption); omega)
    | (have q := wtb_room (r := x19) ‹WTB _ _ _ _› (by omega) (by omega) (by assumption); omega)
    | (have q := wtb_room (r := x9) ‹WTB _ _ _ _› (by omega) (by omega) (by omega); omega)
    | (rw [show gy = x12 by omega]; assumption)
    | (have q := (‹TQ5 _ _ _ _›).2 x13 (by omega) (by omega); omega)
  
def o_Pl_layTree_15 : or_T := (93, 21, [(10, (0, 0, 23, [])), (11, (0, 1, 24, [])), (12, (0, 0, 23, [])), (13, (2, 0, 0, [3])), (20, (0, 1, 24, []))], [(6, [20, 12], [1]), (20, [7, 13, 10, 12], [60, 1, 3, 874, 1000, 2, 5, 7]), (24, [0, 7], [])], [], [], [(20, [7, 13, 10, 20], [60, 1, 3, 874, 1000, 2, 5, 7]), (20, [20, 11], [50, 0, 0, 0, 2, 1, 0, 1, 1])], [], [(20, 12, 1, 1), (20, 11, -4294967296, 0), (12, 11, -4294967296, -1)])
theorem oo_Pl_layTree_15 {kA : Nat → ClassId} : or_ok PRD kA GG o_Pl_layTree_15 := by
  refine or_mk fun A ta ws vs hD hth hl => ?_
  intro t10 k10 t11 k11 t12 k12 t13 r13 t20 k20 d0 d1 d3 f0 f10 f12
  replace f0 := shm_4 f0
  replace f10 := shm_1787 f10
  replace f12 := shm_5 f12
  have q7 : n_v vs 7 = n_v vs 0 := f12.symm
  simp only [q7] at f10
  have kz_13_0 := fdq_21 hD hth r13
  have nf0 : fc_1 PRD (20, [7, 13, 10, 20], [60, 1, 3, 874, 1000, 2, 5, 7]) ws (vs) := by
    refine ⟨nf_in hl rfl, sgq_1787 ?_⟩
    · show TQR (w_fi ws (n_v vs 13) 0) (w_ei ws (w_ar ws (n_v vs 7) 2)) (w_ei ws (w_ar ws (n_v vs 7) 5)) (w_ei ws (w_ar ws (n_v vs 7) 7)) (v_iv (n_v vs 10)) (v_iv (n_v vs 20))
      rw [q7]
      exact vc_Pl_layTree_15_0 (v_iv (n_v vs 10)) (v_iv (n_v vs 11)) (v_iv (n_v vs 12)) (v_iv (n_v vs 17)) (v_iv (n_v vs 20)) (w_ei ws (w_ar ws (n_v vs 0) 5)) (w_ei ws (w_ar ws (n_v vs 0) 2)) (w_ei ws (w_ar ws (n_v vs 0) 4)) (w_fi ws (n_v vs 13) 0) (w_ei ws (w_ar ws (n_v vs 0) 7)) k10 k12 k20 f0 f10 kz_13_0
  have nf1 : fc_1 PRD (20, [20, 11], [50, 0, 0, 0, 2, 1, 0, 1, 1]) ws (vs) := ⟨nf_in hl rfl, sgq_360 (vc_Pl_layTree_15_1 (v_iv (n_v vs 11)) (v_iv (n_v vs 12)) (v_iv (n_v vs 17)) (v_iv (n_v vs 19)) (v_iv (n_v vs 20)) k11 k12 k20 d0 d1 d3)⟩
  refine ⟨(fun _ h => (by cases h)), [], trivial, ?_, (fun _ h => (by cases h))⟩
  rw [List.append_nil]
  exact List.forall_mem_cons.mpr ⟨⟨show (20 : Nat) < 100 from by decide, nf0⟩, List.forall_mem_cons.mpr ⟨⟨show (20 : Nat) < 100 from by decide, nf1⟩, (fun _ h => (by cases h))⟩⟩
set_option maxHeartbeats 4000000 in
theorem vc_Pl_layTree_16_0 (x10 : Int) (x11 : Int) (x12 : Int) (x17 : Int) (x18 : Int) (x21 : Int) (x22 : Int) (x23 : Int) (order_0 : Int → Int) (parent_0 : Int → Int) (level_0 : Int → Int) (nodes_0o13 : Int) (x_0o14 : Int → Int) (under_0 : Int → Int) (order_1 : Int → Int) (parent_1 : Int → Int) (level_1 : Int → Int) (nodes_1o13 : Int) (x_1o14 : Int → Int) (under_1 : Int → Int) (kids_1 : Int → Int) (kids_0 : Int → Int) (k10 : 0 ≤ x10 ∧ x10 ≤ 23) (k11 : 1 ≤ x11 ∧ x11 ≤ 24) (k12 : 0 ≤ x12 ∧ x12 ≤ 23) (k17 : 0 ≤ x17 ∧ x17 ≤ 23) (k18 : (-1) ≤ x18 ∧ x18 ≤ (-1)) (k21 : 0 ≤ x21 ∧ x21 ≤ 23) (k22 : 1 ≤ x22 ∧ x22 ≤ 24) (k23 : 1 ≤ x23 ∧ x23 ≤ 24) (d0 : x12 + 1 ≤ x23 ∧ x23 ≤ x12 + 1) (f3 : x23 = x12 + 1) (f4 : x22 = x10 + 1) (h11 : x21 = order_1 (x12)) (h13 : x18 = parent_1 (x17)) (h14 : x17 = order_1 (x12)) (f15 : x12 < x11) (f16 : TQD (nodes_1o13) (order_1) (parent_1) (level_1) (x11)) (f19 : TQR (nodes_1o13) (order_1) (parent_1) (kids_1) (x10) (x12)) (fe_13_0_1 : nodes_0o13 = nodes_1o13) (hE_0_2_1 : ∀ j : Int, order_0 j = order_1 j) (hE_0_4_1 : ∀ j : Int, level_0 j = level_1 j) (hE_0_5_1 : ∀ j : Int, parent_0 j = parent_1 j) (hE_0_6_1 : ∀ j : Int, under_0 j = under_1 j) (hE_0_7_1 : ∀ j : Int, 0 ≤ j → (j = x10 → kids_0 j = x21) ∧ (j ≠ x10 → kids_0 j = kids_1 j)) (hE_14_2_1 : ∀ j : Int, x_0o14 j = x_1o14 j) (kz_13_0 : 0 ≤ nodes_0o13 ∧ nodes_0o13 ≤ 24) : TQR (nodes_0o13) (order_0) (parent_0) (kids_0) (x22) (x23) := by
  subst fe_13_0_1
  have e_hE_0_2_1 := funext hE_0_2_1; subst e_hE_0_2_1
  have e_hE_0_4_1 := funext hE_0_4_1; subst e_hE_0_4_1
  have e_hE_0_5_1 := funext hE_0_5_1; subst e_hE_0_5_1
  have e_hE_0_6_1 := funext hE_0_6_1; subst e_hE_0_6_1
  have e_hE_14_2_1 := funext hE_14_2_1; subst e_hE_14_2_1
  first
    | assumption
    | exact tqr_start (by omega) (by omega)
    | exact tqr_skip ‹TQR _ _ _ _ _ _› (by omega)
    | (have e : x17 = x21 := by omega
       exact tqr_step (lv := level_0) (q := x12) (s := x11) (y := x21) ‹TQR _ _ _ _ _ _› (by assumption) (by omega) (by omega) (by rw [← ‹x17 = order_0 x12›]; omega) (by assumption) rfl (by assumption) (by omega) (by omega))
  
set_option maxHeartbeats 4000000 in
theorem vc_Pl_layTree_16_1 (x11 : Int) (x12 : Int) (x17 : Int) (x19 : Int) (x23 : Int) (order_0 : Int → Int) (parent_0 : Int → Int) (level_0 : Int → Int) (nodes_0o13 : Int) (x_0o14 : Int → Int) (under_0 : Int → Int) (order_1 : Int → Int) (parent_1 : Int → Int) (level_1 : Int → Int) (nodes_1o13 : Int) (x_1o14 : Int → Int) (under_1 : Int → Int) (k11 : 1 ≤ x11 ∧ x11 ≤ 24) (k12 : 0 ≤ x12 ∧ x12 ≤ 23) (k23 : 1 ≤ x23 ∧ x23 ≤ 24) (d0 : x12 + 1 ≤ x23 ∧ x23 ≤ x12 + 1) (d1 : x11 + (-4294967296) ≤ x23 ∧ x23 ≤ x11 + 0) (d6 : x11 + (-4294967296) ≤ x12 ∧ x12 ≤ x11 + (-1)) (fe_13_0_1 : nodes_0o13 = nodes_1o13) (hE_0_2_1 : ∀ j : Int, order_0 j = order_1 j) (hE_0_4_1 : ∀ j : Int, level_0 j = level_1 j) (hE_0_5_1 : ∀ j : Int, parent_0 j = parent_1 j) (hE_0_6_1 : ∀ j : Int, under_0 j = under_1 j) (hE_14_2_1 : ∀ j : Int, x_0o14 j = x_1o14 j) (kz_13_0 : 0 ≤ nodes_0o13 ∧ nodes_0o13 ≤ 24) : x23 ≤ x11 := by
  subst fe_13_0_1
  have e_hE_0_2_1 := funext hE_0_2_1; subst e_hE_0_2_1
  have e_hE_0_4_1 := funext hE_0_4_1; subst e_hE_0_4_1
  have e_hE_0_5_1 := funext hE_0_5_1; subst e_hE_0_5_1
  have e_hE_0_6_1 := funext hE_0_6_1; subst e_hE_0_6_1
  have e_hE_14_2_1 := funext hE_14_2_1; subst e_hE_14_2_1
  first
    | omega
    | assumption
    | (have q := wtb_room (r := x17) ‹WTB _ _ _ _› (by omega) (by omega) (by assumption); omega)
    | (have q := wtb_room (r := x19) ‹WTB _ _ _ _› (by omega) (by omega) (by assumption); omega)
    | (have q := wtb_room (r := x9) ‹WTB _ _ _ _› (by omega) (by omega) (by omega); omega)
    | (rw [show gy = x12 by omega]; assumption)
    | (have q := (‹TQ5 _ _ _ _›).2 x13 (by omega) (by omega); omega)
  
def o_Pl_layTree_16 : or_T := (93, 24, [(0, (2, 0, 0, [6])), (10, (0, 0, 23, [])), (11, (0, 1, 24, [])), (12, (0, 0, 23, [])), (13, (2, 0, 0, [3])), (14, (2, 0, 0, [0])), (17, (0, 0, 23, [])), (18, (0, -1, -1, [])), (20, (2, 0, 0, [94])), (21, (0, 0, 23, [])), (22, (0, 1, 24, [])), (23, (0, 1, 24, []))], [(9, [20, 7], [7]), (9, [16, 7], [2]), (9, [15, 7], [5]), (6, [23, 12], [1]), (6, [22, 10], [1]), (24, [0, 7], []), (100, [20, 10, 21], []), (10, [21, 16, 12], []), (10, [18, 15, 17], []), (10, [17, 16, 12], []), (7, [12, 11], [2]), (20, [7, 13, 11], [60, 1, 3, 859, 1000, 2, 5, 4]), (20, [7, 13, 10, 12], [60, 1, 3, 874, 1000, 2, 5, 7])], [], [], [(20, [7, 13, 22, 23], [60, 1, 3, 874, 1000, 2, 5, 7]), (20, [23, 11], [50, 0, 0, 0, 2, 1, 0, 1, 1])], [], [(23, 12, 1, 1), (23, 11, -4294967296, 0), (22, 10, 1, 1), (12, 11, -4294967296, -1), (10, 11, -4294967296, 0), (10, 12, -4294967296, 0)])
theorem oo_Pl_layTree_16 {kA : Nat → ClassId} : or_ok PRD kA GG o_Pl_layTree_16 := by
  refine or_mk fun A ta ws vs hD hth hl => ?_
  intro t0 r0 t10 k10 t11 k11 t12 k12 t13 r13 t14 r14 t17 k17 t18 k18 t20 r20 t21 k21 t22 k22 t23 k23 d0 d1 d3 d6 d7 d8 f0 f1 f2 f3 f4 f9 ta1 w1 le1 s1 f11 f13 f14 f15 f16 f19
  replace f0 := shm_198 f0
  replace f1 := shm_120 f1
  replace f2 := shm_110 f2
  replace f3 := shm_4 f3
  replace f4 := shm_4 f4
  replace f9 := shm_5 f9
  have s1 : (∀ b j, w_el ws b j = if b = v_ad (n_v vs 20) ∧ j = (v_iv (n_v vs 10)).toNat then v_iv (n_v vs 21) else w_el w1 b j) ∧ ∀ b k, w_fd ws b k = w_fd w1 b k := s1.2
  replace f11 := shm_107 f11
  replace f13 := shm_107 f13
  replace f14 := shm_107 f14
  replace f15 := shm_6 f15
  replace f16 := shm_1107 f16
  replace f19 := shm_1787 f19
  have q7 : n_v vs 7 = n_v vs 0 := f9.symm
  simp only [q7] at f0 f1 f2 f16 f19
  have ar_0_2_1 : w_ar w1 (n_v vs 0) 2 = w_ar ws (n_v vs 0) 2 := congrArg v_ad (s1.2 _ _).symm
  have cr_0_2 := fdq_89 hD hth r0
  have ar_0_4_1 : w_ar w1 (n_v vs 0) 4 = w_ar ws (n_v vs 0) 4 := congrArg v_ad (s1.2 _ _).symm
  have cr_0_4 := fdq_86 hD hth r0
  have ar_0_5_1 : w_ar w1 (n_v vs 0) 5 = w_ar ws (n_v vs 0) 5 := congrArg v_ad (s1.2 _ _).symm
  have cr_0_5 := fdq_90 hD hth r0
  have ar_0_6_1 : w_ar w1 (n_v vs 0) 6 = w_ar ws (n_v vs 0) 6 := congrArg v_ad (s1.2 _ _).symm
  have cr_0_6 := fdq_264 hD hth r0
  have ar_0_7_1 : w_ar w1 (n_v vs 0) 7 = w_ar ws (n_v vs 0) 7 := congrArg v_ad (s1.2 _ _).symm
  have ar_14_2_1 : w_ar w1 (n_v vs 14) 2 = w_ar ws (n_v vs 14) 2 := congrArg v_ad (s1.2 _ _).symm
  have cr_14_2 := fdq_45 hD hth r14
  have ad_20 : v_ad (n_v vs 20) = w_ar ws (n_v vs 0) 7 := congrArg v_ad f0
  have ad_16 : v_ad (n_v vs 16) = w_ar ws (n_v vs 0) 2 := congrArg v_ad f1
  have ad_15 : v_ad (n_v vs 15) = w_ar ws (n_v vs 0) 5 := congrArg v_ad f2
  simp only [ad_16] at f11
  have h11 : v_iv (n_v vs 21) = w_ei w1 (w_ar ws (n_v vs 0) 2) (v_iv (n_v vs 12)) := f11
  simp only [ad_15] at f13
  have h13 : v_iv (n_v vs 18) = w_ei w1 (w_ar ws (n_v vs 0) 5) (v_iv (n_v vs 17)) := f13
  simp only [ad_16] at f14
  have h14 : v_iv (n_v vs 17) = w_ei w1 (w_ar ws (n_v vs 0) 2) (v_iv (n_v vs 12)) := f14
  simp only [ar_0_2_1, ar_0_4_1, ar_0_5_1, ar_14_2_1, ar_0_6_1, ar_0_7_1] at f16 f19
  have fe_13_0_1 : w_fi ws (n_v vs 13) 0 = w_fi w1 (n_v vs 13) 0 := congrArg v_iv (s1.2 _ _)
  have hE_0_2_1 : ∀ j : Int, w_ei ws (w_ar ws (n_v vs 0) 2) j = w_ei w1 (w_ar ws (n_v vs 0) 2) j := el_kp s1.1 r20 cr_0_2 (by decide)
  have hE_0_4_1 : ∀ j : Int, w_ei ws (w_ar ws (n_v vs 0) 4) j = w_ei w1 (w_ar ws (n_v vs 0) 4) j := el_kp s1.1 r20 cr_0_4 (by decide)
  have hE_0_5_1 : ∀ j : Int, w_ei ws (w_ar ws (n_v vs 0) 5) j = w_ei w1 (w_ar ws (n_v vs 0) 5) j := el_kp s1.1 r20 cr_0_5 (by decide)
  have hE_0_6_1 : ∀ j : Int, w_ei ws (w_ar ws (n_v vs 0) 6) j = w_ei w1 (w_ar ws (n_v vs 0) 6) j := el_kp s1.1 r20 cr_0_6 (by decide)
  have hE_0_7_1 : ∀ j : Int, 0 ≤ j → (j = v_iv (n_v vs 10) → w_ei ws (w_ar ws (n_v vs 0) 7) j = v_iv (n_v vs 21)) ∧ (j ≠ v_iv (n_v vs 10) → w_ei ws (w_ar ws (n_v vs 0) 7) j = w_ei w1 (w_ar ws (n_v vs 0) 7) j) := fun j hj => ⟨fun h => by unfold w_ei; rw [s1.1, if_pos ⟨ad_20.symm, by rw [h]⟩], fun h => by unfold w_ei; rw [s1.1, if_neg (fun e => h (by have := e.2; omega))]⟩
  have hE_14_2_1 : ∀ j : Int, w_ei ws (w_ar ws (n_v vs 14) 2) j = w_ei w1 (w_ar ws (n_v vs 14) 2) j := el_kp s1.1 r20 cr_14_2 (by decide)
  have kz_13_0 := fdq_21 hD hth r13
  have nf0 : fc_1 PRD (20, [7, 13, 22, 23], [60, 1, 3, 874, 1000, 2, 5, 7]) ws (vs) := by
    refine ⟨nf_in hl rfl, sgq_1787 ?_⟩
    · show TQR (w_fi ws (n_v vs 13) 0) (w_ei ws (w_ar ws (n_v vs 7) 2)) (w_ei ws (w_ar ws (n_v vs 7) 5)) (w_ei ws (w_ar ws (n_v vs 7) 7)) (v_iv (n_v vs 22)) (v_iv (n_v vs 23))
      rw [q7]
      exact vc_Pl_layTree_16_0 (v_iv (n_v vs 10)) (v_iv (n_v vs 11)) (v_iv (n_v vs 12)) (v_iv (n_v vs 17)) (v_iv (n_v vs 18)) (v_iv (n_v vs 21)) (v_iv (n_v vs 22)) (v_iv (n_v vs 23)) (w_ei ws (w_ar ws (n_v vs 0) 2)) (w_ei ws (w_ar ws (n_v vs 0) 5)) (w_ei ws (w_ar ws (n_v vs 0) 4)) (w_fi ws (n_v vs 13) 0) (w_ei ws (w_ar ws (n_v vs 14) 2)) (w_ei ws (w_ar ws (n_v vs 0) 6)) (w_ei w1 (w_ar ws (n_v vs 0) 2)) (w_ei w1 (w_ar ws (n_v vs 0) 5)) (w_ei w1 (w_ar ws (n_v vs 0) 4)) (w_fi w1 (n_v vs 13) 0) (w_ei w1 (w_ar ws (n_v vs 14) 2)) (w_ei w1 (w_ar ws (n_v vs 0) 6)) (w_ei w1 (w_ar ws (n_v vs 0) 7)) (w_ei ws (w_ar ws (n_v vs 0) 7)) k10 k11 k12 k17 k18 k21 k22 k23 d0 f3 f4 h11 h13 h14 f15 f16 f19 fe_13_0_1 hE_0_2_1 hE_0_4_1 hE_0_5_1 hE_0_6_1 hE_0_7_1 hE_14_2_1 kz_13_0
  have nf1 : fc_1 PRD (20, [23, 11], [50, 0, 0, 0, 2, 1, 0, 1, 1]) ws (vs) := ⟨nf_in hl rfl, sgq_360 (vc_Pl_layTree_16_1 (v_iv (n_v vs 11)) (v_iv (n_v vs 12)) (v_iv (n_v vs 17)) (v_iv (n_v vs 19)) (v_iv (n_v vs 23)) (w_ei ws (w_ar ws (n_v vs 0) 2)) (w_ei ws (w_ar ws (n_v vs 0) 5)) (w_ei ws (w_ar ws (n_v vs 0) 4)) (w_fi ws (n_v vs 13) 0) (w_ei ws (w_ar ws (n_v vs 14) 2)) (w_ei ws (w_ar ws (n_v vs 0) 6)) (w_ei w1 (w_ar ws (n_v vs 0) 2)) (w_ei w1 (w_ar ws (n_v vs 0) 5)) (w_ei w1 (w_ar ws (n_v vs 0) 4)) (w_fi w1 (n_v vs 13) 0) (w_ei w1 (w_ar ws (n_v vs 14) 2)) (w_ei w1 (w_ar ws (n_v vs 0) 6)) k11 k12 k23 d0 d1 d6 fe_13_0_1 hE_0_2_1 hE_0_4_1 hE_0_5_1 hE_0_6_1 hE_14_2_1 kz_13_0)⟩
  refine ⟨(fun _ h => (by cases h)), [], trivial, ?_, (fun _ h => (by cases h))⟩
  rw [List.append_nil]
  exact List.forall_mem_cons.mpr ⟨⟨show (20 : Nat) < 100 from by decide, nf0⟩, List.forall_mem_cons.mpr ⟨⟨show (20 : Nat) < 100 from by decide, nf1⟩, (fun _ h => (by cases h))⟩⟩
set_option maxHeartbeats 4000000 in
theorem vc_Pl_layTree_17_0 (x12 : Int) (x13 : Int) (x16 : Int) (x17 : Int) (nodes_0o14 : Int) (x_0o15 : Int → Int) (k12 : (-40000000) ≤ x12 ∧ x12 ≤ 690000000) (k13 : 1 ≤ x13 ∧ x13 ≤ 24) (k16 : 0 ≤ x16 ∧ x16 ≤ 24) (k17 : 0 ≤ x17 ∧ x17 ≤ 0) (d0 : x16 + 0 ≤ x13 ∧ x13 ≤ x16 + 4294967296) (g1 : x16 = nodes_0o14) (f2 : TQ4 (nodes_0o14) (x_0o15) (x12) (x13)) (kz_14_0 : 0 ≤ nodes_0o14 ∧ nodes_0o14 ≤ 24) : TQ5 (nodes_0o14) (x_0o15) (x12) (x17) := by
  first
    | exact tq5_start ‹TQ4 _ _ _ _› (by omega) (by omega)
    | exact tq5_step ‹TQ5 _ _ _ _› (by assumption) rfl (by omega)
  
def o_Pl_layTree_17 : or_T := (196, 18, [(12, (0, -40000000, 690000000, [])), (13, (0, 1, 24, [])), (14, (2, 0, 0, [3])), (16, (0, 0, 24, [])), (17, (0, 0, 0, []))], [(9, [16, 14], [0]), (20, [14, 15, 12, 13], [60, 1, 1, 878, 0, 1002])], [], [], [(20, [14, 15, 12, 17], [60, 1, 1, 879, 0, 1002])], [], [(13, 16, 0, 4294967296)])
theorem oo_Pl_layTree_17 {kA : Nat → ClassId} : or_ok PRD kA GG o_Pl_layTree_17 := by
  refine or_mk fun A ta ws vs hD hth hl => ?_
  intro t12 k12 t13 k13 t14 r14 t16 k16 t17 k17 d0 f1 f2
  replace f1 := shm_163 f1
  have g1 : v_iv (n_v vs 16) = w_fi ws (n_v vs 14) 0 := congrArg v_iv f1
  have kz_14_0 := fdq_21 hD hth r14
  have nf0 : fc_1 PRD (20, [14, 15, 12, 17], [60, 1, 1, 879, 0, 1002]) ws (vs) := ⟨nf_in hl rfl, sgq_1791 (vc_Pl_layTree_17_0 (v_iv (n_v vs 12)) (v_iv (n_v vs 13)) (v_iv (n_v vs 16)) (v_iv (n_v vs 17)) (w_fi ws (n_v vs 14) 0) (w_ei ws (w_ar ws (n_v vs 15) 2)) k12 k13 k16 k17 d0 g1 (shm_1790 f2) kz_14_0)⟩
  refine ⟨(fun _ h => (by cases h)), [], trivial, ?_, (fun _ h => (by cases h))⟩
  rw [List.append_nil]
  exact List.forall_mem_cons.mpr ⟨⟨show (20 : Nat) < 100 from by decide, nf0⟩, (fun _ h => (by cases h))⟩
set_option maxHeartbeats 4000000 in
theorem vc_Pl_layTree_18_0 (x12 : Int) (x13 : Int) (x16 : Int) (x18 : Int) (x19 : Int) (x20 : Int) (x_0o15 : Int → Int) (nodes_0o14 : Int) (k12 : (-40000000) ≤ x12 ∧ x12 ≤ 690000000) (k13 : 1 ≤ x13 ∧ x13 ≤ 23) (k16 : 2 ≤ x16 ∧ x16 ≤ 24) (k18 : (-40000000) ≤ x18 ∧ x18 ≤ 690000000) (k19 : (-40000000) ≤ x19 ∧ x19 ≤ 690000000) (k20 : 2 ≤ x20 ∧ x20 ≤ 24) (d0 : x13 + 1 ≤ x20 ∧ x20 ≤ x13 + 1) (d1 : x16 + (-4294967296) ≤ x20 ∧ x20 ≤ x16 + 0) (d2 : x16 + (-4294967296) ≤ x13 ∧ x13 ≤ x16 + (-1)) (f0 : x20 = x13 + 1) (f1 : (-1) * x12 + (1 * x19 + 0) ≤ 0) (f2 : (-1) * x18 + (1 * x19 + 0) ≤ 0) (f3 : (x19 = x12) ∨ (x19 = x18)) (h4 : x18 = x_0o15 (x13)) (g7 : x16 = nodes_0o14) (f8 : TQ4 (nodes_0o14) (x_0o15) (x12) (x13)) (kz_14_0 : 0 ≤ nodes_0o14 ∧ nodes_0o14 ≤ 24) : TQ4 (nodes_0o14) (x_0o15) (x19) (x20) := by
  first
    | (have e1 : x15 = x11 := by omega
       have e2 : x16 = x11 := by omega
       exact tq4_start (tq3_of (s := x15) (k := x16) (lv := level_0) ‹TQ2 _ _ _ _ _ _ _› (by assumption) (by have := (‹TQR _ _ _ _ _ _›).2.2.1; omega) (by assumption) (by omega)) (by rw [show (0 : Int) = x19 by omega]; assumption) (by omega))
    | exact tq4_step (v := x13) (a := x18) ‹TQ4 _ _ _ _› (by omega) (by assumption) (by omega) (by omega)
  
def o_Pl_layTree_18 : or_T := (158, 21, [(12, (0, -40000000, 690000000, [])), (13, (0, 1, 23, [])), (14, (2, 0, 0, [3])), (16, (0, 2, 24, [])), (18, (0, -40000000, 690000000, [])), (19, (0, -40000000, 690000000, [])), (20, (0, 2, 24, []))], [(6, [20, 13], [1]), (23, [12, 19], [0, -1, 1]), (23, [18, 19], [0, -1, 1]), (20, [19, 12, 18], [50, 0, 0, 3, 6, 1, 2, 1, 0, 1, 1, 1, 2, 1, 0, 1, 2]), (10, [18, 17, 13], []), (9, [17, 15], [2]), (9, [16, 14], [0]), (20, [14, 15, 12, 13], [60, 1, 1, 878, 0, 1002])], [], [], [(20, [14, 15, 19, 20], [60, 1, 1, 878, 0, 1002])], [], [(20, 13, 1, 1), (20, 16, -4294967296, 0), (13, 16, -4294967296, -1)])
theorem oo_Pl_layTree_18 {kA : Nat → ClassId} : or_ok PRD kA GG o_Pl_layTree_18 := by
  refine or_mk fun A ta ws vs hD hth hl => ?_
  intro t12 k12 t13 k13 t14 r14 t16 k16 t18 k18 t19 k19 t20 k20 d0 d1 d2 f0 f1 f2 f3 f4 f5 f7 f8
  replace f4 := shm_107 f4
  replace f5 := shm_120 f5
  replace f7 := shm_163 f7
  have ad_17 : v_ad (n_v vs 17) = w_ar ws (n_v vs 15) 2 := congrArg v_ad f5
  simp only [ad_17] at f4
  have h4 : v_iv (n_v vs 18) = w_ei ws (w_ar ws (n_v vs 15) 2) (v_iv (n_v vs 13)) := f4
  have g7 : v_iv (n_v vs 16) = w_fi ws (n_v vs 14) 0 := congrArg v_iv f7
  have kz_14_0 := fdq_21 hD hth r14
  have nf0 : fc_1 PRD (20, [14, 15, 19, 20], [60, 1, 1, 878, 0, 1002]) ws (vs) := ⟨nf_in hl rfl, sgq_1790 (vc_Pl_layTree_18_0 (v_iv (n_v vs 12)) (v_iv (n_v vs 13)) (v_iv (n_v vs 16)) (v_iv (n_v vs 18)) (v_iv (n_v vs 19)) (v_iv (n_v vs 20)) (w_ei ws (w_ar ws (n_v vs 15) 2)) (w_fi ws (n_v vs 14) 0) k12 k13 k16 k18 k19 k20 d0 d1 d2 (shm_4 f0) (shm_22 f1) (shm_22 f2) (shm_898 f3) h4 g7 (shm_1790 f8) kz_14_0)⟩
  refine ⟨(fun _ h => (by cases h)), [], trivial, ?_, (fun _ h => (by cases h))⟩
  rw [List.append_nil]
  exact List.forall_mem_cons.mpr ⟨⟨show (20 : Nat) < 100 from by decide, nf0⟩, (fun _ h => (by cases h))⟩
set_option maxHeartbeats 4000000 in
theorem vc_Pl_layTree_19_r0 (x12 : Int) (x13 : Int) (x16 : Int) (x18 : Int) (x19 : Int) (x_0o15 : Int → Int) (nodes_0o14 : Int) (k12 : (-40000000) ≤ x12 ∧ x12 ≤ 690000000) (k13 : 0 ≤ x13 ∧ x13 ≤ 23) (k16 : 1 ≤ x16 ∧ x16 ≤ 24) (k18 : (-40000000) ≤ x18 ∧ x18 ≤ 690000000) (k19 : (-730000000) ≤ x19 ∧ x19 ≤ 730000000) (d1 : x16 + (-4294967296) ≤ x13 ∧ x13 ≤ x16 + (-1)) (f0 : x19 = x18 - x12) (h1 : x18 = x_0o15 (x13)) (g4 : x16 = nodes_0o14) (f5 : TQ5 (nodes_0o14) (x_0o15) (x12) (x13)) (kz_14_0 : 0 ≤ nodes_0o14 ∧ nodes_0o14 ≤ 24) : 0 ≤ x19 ∧ x19 ≤ 67108864 := by
  first
    | omega
    | assumption
    | (have q := wtb_room (r := x17) ‹WTB _ _ _ _› (by omega) (by omega) (by assumption); omega)
    | (have q := wtb_room (r := x19) ‹WTB _ _ _ _› (by omega) (by omega) (by assumption); omega)
    | (have q := wtb_room (r := x9) ‹WTB _ _ _ _› (by omega) (by omega) (by omega); omega)
    | (rw [show gy = x12 by omega]; assumption)
    | (have q := (‹TQ5 _ _ _ _›).2 x13 (by omega) (by omega); omega)
  
def o_Pl_layTree_19 : or_T := (222, 20, [(0, (2, 0, 0, [6])), (7, (2, 0, 0, [6])), (12, (0, -40000000, 690000000, [])), (13, (0, 0, 23, [])), (14, (2, 0, 0, [3])), (15, (2, 0, 0, [0])), (16, (0, 1, 24, [])), (17, (2, 0, 0, [14])), (18, (0, -40000000, 690000000, [])), (19, (0, -730000000, 730000000, []))], [(2, [19, 18, 12], []), (10, [18, 17, 13], []), (9, [17, 15], [2]), (7, [13, 16], [2]), (9, [16, 14], [0]), (20, [14, 15, 12, 13], [60, 1, 1, 879, 0, 1002]), (24, [0, 7], [])], [(19, (0, 0, 67108864, []))], [], [], [], [(19, 18, -690000000, 40000000), (13, 16, -4294967296, -1)])
theorem oo_Pl_layTree_19 {kA : Nat → ClassId} : or_ok PRD kA GG o_Pl_layTree_19 := by
  refine or_mk fun A ta ws vs hD hth hl => ?_
  intro t0 r0 t7 r7 t12 k12 t13 k13 t14 r14 t15 r15 t16 k16 t17 r17 t18 k18 t19 k19 d0 d1 f0 f1 f2 f3 f4 f5 f6
  replace f1 := shm_107 f1
  replace f2 := shm_120 f2
  replace f4 := shm_163 f4
  have ad_17 : v_ad (n_v vs 17) = w_ar ws (n_v vs 15) 2 := congrArg v_ad f2
  simp only [ad_17] at f1
  have h1 : v_iv (n_v vs 18) = w_ei ws (w_ar ws (n_v vs 15) 2) (v_iv (n_v vs 13)) := f1
  have g4 : v_iv (n_v vs 16) = w_fi ws (n_v vs 14) 0 := congrArg v_iv f4
  have kz_14_0 := fdq_21 hD hth r14
  have hrf0 : 0 ≤ v_iv (n_v vs 19) ∧ v_iv (n_v vs 19) ≤ 67108864 := vc_Pl_layTree_19_r0 (v_iv (n_v vs 12)) (v_iv (n_v vs 13)) (v_iv (n_v vs 16)) (v_iv (n_v vs 18)) (v_iv (n_v vs 19)) (w_ei ws (w_ar ws (n_v vs 15) 2)) (w_fi ws (n_v vs 14) 0) k12 k13 k16 k18 k19 d1 (shm_14 f0) h1 g4 (shm_1791 f5) kz_14_0
  have rf19 : tv_ok ta (0, 0, 67108864, []) (n_v vs 19) := tv_in t19 (by first | omega | grind) (by first | omega | grind)
  refine ⟨List.forall_mem_cons.mpr ⟨rf19, (fun _ h => (by cases h))⟩, [], trivial, ?_, (fun _ h => (by cases h))⟩
  rw [List.append_nil]
  exact (fun _ h => (by cases h))
def o_Pl_layTree_20 : or_T := (242, 25, [(5, (2, 0, 0, [12])), (6, (0, 0, 3072, [])), (13, (0, 0, 23, [])), (20, (2, 0, 0, [15])), (24, (0, 0, 92, []))], [(100, [20, 13, 24], []), (20, [5, 6], [62, 2000000])], [], [], [(20, [5, 6], [62, 2000000])], [], [])
theorem oo_Pl_layTree_20 {kA : Nat → ClassId} : or_ok PRD kA GG o_Pl_layTree_20 := by
  refine or_mk fun A ta ws vs hD hth hl => ?_
  intro t5 r5 t6 k6 t13 k13 t20 r20 t24 k24 ta1 w1 le1 s1 f1
  have s1 : (∀ b j, w_el ws b j = if b = v_ad (n_v vs 20) ∧ j = (v_iv (n_v vs 13)).toNat then v_iv (n_v vs 24) else w_el w1 b j) ∧ ∀ b k, w_fd ws b k = w_fd w1 b k := s1.2
  replace f1 := shm_161 f1
  have nf0 : fc_1 PRD (20, [5, 6], [62, 2000000]) ws (vs) := by
    refine ⟨nf_in hl rfl, sgq_161 ?_⟩
    · show HY ws (n_v vs 5) (v_iv (n_v vs 6) + (((2000000 : Nat) : Int) - 2000000))
      have hn := hy_ne (k := 3) (g := GG_12) hD hth r5 rfl (by decide) rfl rfl r20 (by decide) s1.2
      have hn0 := hy_ne (k := 0) (g := GG_12) hD hth r5 rfl (by decide) rfl rfl r20 (by decide) s1.2
      exact hy_st (hy_le f1 (by omega)) s1 hn hn0 (by omega) (by omega)
  refine ⟨(fun _ h => (by cases h)), [], trivial, ?_, (fun _ h => (by cases h))⟩
  rw [List.append_nil]
  exact List.forall_mem_cons.mpr ⟨⟨show (20 : Nat) < 100 from by decide, nf0⟩, (fun _ h => (by cases h))⟩
set_option maxHeartbeats 4000000 in
theorem vc_Pl_layTree_21_0 (x12 : Int) (x13 : Int) (x19 : Int) (x25 : Int) (nodes_0o14 : Int) (x_2o15 : Int → Int) (nodes_2o14 : Int) (nodes_1o14 : Int) (x_0o15 : Int → Int) (x_1o15 : Int → Int) (y_1o15 : Int → Int) (y_2o15 : Int → Int) (k12 : (-40000000) ≤ x12 ∧ x12 ≤ 690000000) (k13 : 0 ≤ x13 ∧ x13 ≤ 23) (k19 : 0 ≤ x19 ∧ x19 ≤ 67108864) (k25 : 1 ≤ x25 ∧ x25 ≤ 24) (f3 : x25 = x13 + 1) (f10 : TQ5 (nodes_2o14) (x_2o15) (x12) (x13)) (fe_14_0_1 : nodes_0o14 = nodes_1o14) (fe_14_0_2 : nodes_1o14 = nodes_2o14) (hE_15_2_1 : ∀ j : Int, x_0o15 j = x_1o15 j) (hE_15_2_2 : ∀ j : Int, 0 ≤ j → (j = x13 → x_1o15 j = x19) ∧ (j ≠ x13 → x_1o15 j = x_2o15 j)) (hE_15_3_2 : ∀ j : Int, y_1o15 j = y_2o15 j) (kz_14_0 : 0 ≤ nodes_0o14 ∧ nodes_0o14 ≤ 24) : TQ5 (nodes_0o14) (x_0o15) (x12) (x25) := by
  subst fe_14_0_1
  subst fe_14_0_2
  have e_hE_15_2_1 := funext hE_15_2_1; subst e_hE_15_2_1
  have e_hE_15_3_2 := funext hE_15_3_2; subst e_hE_15_3_2
  first
    | exact tq5_start ‹TQ4 _ _ _ _› (by omega) (by omega)
    | exact tq5_step ‹TQ5 _ _ _ _› (by assumption) rfl (by omega)
  
def o_Pl_layTree_21 : or_T := (196, 26, [(12, (0, -40000000, 690000000, [])), (13, (0, 0, 23, [])), (14, (2, 0, 0, [3])), (15, (2, 0, 0, [0])), (17, (2, 0, 0, [14])), (19, (0, 0, 67108864, [])), (20, (2, 0, 0, [15])), (25, (0, 1, 24, []))], [(9, [17, 15], [2]), (6, [25, 13], [1]), (100, [20, 13, 24], []), (100, [17, 13, 19], []), (20, [14, 15, 12, 13], [60, 1, 1, 879, 0, 1002])], [], [], [(20, [14, 15, 12, 25], [60, 1, 1, 879, 0, 1002])], [], [(25, 13, 1, 1), (19, 18, -690000000, 40000000), (13, 16, -4294967296, -1)])
theorem oo_Pl_layTree_21 {kA : Nat → ClassId} : or_ok PRD kA GG o_Pl_layTree_21 := by
  refine or_mk fun A ta ws vs hD hth hl => ?_
  intro t12 k12 t13 k13 t14 r14 t15 r15 t17 r17 t19 k19 t20 r20 t25 k25 d0 d2 d3 f1 f3 ta1 w1 le1 s1 ta2 w2 le2 s2 f10
  replace f1 := shm_120 f1
  have s1 : (∀ b j, w_el ws b j = if b = v_ad (n_v vs 20) ∧ j = (v_iv (n_v vs 13)).toNat then v_iv (n_v vs 24) else w_el w1 b j) ∧ ∀ b k, w_fd ws b k = w_fd w1 b k := s1.2
  have s2 : (∀ b j, w_el w1 b j = if b = v_ad (n_v vs 17) ∧ j = (v_iv (n_v vs 13)).toNat then v_iv (n_v vs 19) else w_el w2 b j) ∧ ∀ b k, w_fd w1 b k = w_fd w2 b k := s2.2
  replace f10 := shm_1791 f10
  have ar_15_2_1 : w_ar w1 (n_v vs 15) 2 = w_ar ws (n_v vs 15) 2 := congrArg v_ad (s1.2 _ _).symm
  have ar_15_2_2 : w_ar w2 (n_v vs 15) 2 = w_ar ws (n_v vs 15) 2 := by rw [← ar_15_2_1]; show v_ad (w_fd w2 _ _) = v_ad (w_fd w1 _ _); rw [s2.2]
  have cr_15_2 := fdq_45 hD hth r15
  have cr_15_3 := fdq_48 hD hth r15
  have ad_17 : v_ad (n_v vs 17) = w_ar ws (n_v vs 15) 2 := congrArg v_ad f1
  simp only [ar_15_2_2] at f10
  have fe_14_0_1 : w_fi ws (n_v vs 14) 0 = w_fi w1 (n_v vs 14) 0 := congrArg v_iv (s1.2 _ _)
  have fe_14_0_2 : w_fi w1 (n_v vs 14) 0 = w_fi w2 (n_v vs 14) 0 := congrArg v_iv (s2.2 _ _)
  have hE_15_2_1 : ∀ j : Int, w_ei ws (w_ar ws (n_v vs 15) 2) j = w_ei w1 (w_ar ws (n_v vs 15) 2) j := el_kp s1.1 r20 cr_15_2 (by decide)
  have hE_15_2_2 : ∀ j : Int, 0 ≤ j → (j = v_iv (n_v vs 13) → w_ei w1 (w_ar ws (n_v vs 15) 2) j = v_iv (n_v vs 19)) ∧ (j ≠ v_iv (n_v vs 13) → w_ei w1 (w_ar ws (n_v vs 15) 2) j = w_ei w2 (w_ar ws (n_v vs 15) 2) j) := fun j hj => ⟨fun h => by unfold w_ei; rw [s2.1, if_pos ⟨ad_17.symm, by rw [h]⟩], fun h => by unfold w_ei; rw [s2.1, if_neg (fun e => h (by have := e.2; omega))]⟩
  have hE_15_3_2 : ∀ j : Int, w_ei w1 (w_ar ws (n_v vs 15) 3) j = w_ei w2 (w_ar ws (n_v vs 15) 3) j := el_kp s2.1 r17 cr_15_3 (by decide)
  have kz_14_0 := fdq_21 hD hth r14
  have nf0 : fc_1 PRD (20, [14, 15, 12, 25], [60, 1, 1, 879, 0, 1002]) ws (vs) := ⟨nf_in hl rfl, sgq_1791 (vc_Pl_layTree_21_0 (v_iv (n_v vs 12)) (v_iv (n_v vs 13)) (v_iv (n_v vs 19)) (v_iv (n_v vs 25)) (w_fi ws (n_v vs 14) 0) (w_ei w2 (w_ar ws (n_v vs 15) 2)) (w_fi w2 (n_v vs 14) 0) (w_fi w1 (n_v vs 14) 0) (w_ei ws (w_ar ws (n_v vs 15) 2)) (w_ei w1 (w_ar ws (n_v vs 15) 2)) (w_ei w1 (w_ar ws (n_v vs 15) 3)) (w_ei w2 (w_ar ws (n_v vs 15) 3)) k12 k13 k19 k25 (shm_4 f3) f10 fe_14_0_1 fe_14_0_2 hE_15_2_1 hE_15_2_2 hE_15_3_2 kz_14_0)⟩
  refine ⟨(fun _ h => (by cases h)), [], trivial, ?_, (fun _ h => (by cases h))⟩
  rw [List.append_nil]
  exact List.forall_mem_cons.mpr ⟨⟨show (20 : Nat) < 100 from by decide, nf0⟩, (fun _ h => (by cases h))⟩
def n_Pl_layTree_an : List an_T := [(8, [(0, (2, 0, 0, [6])), (1, (2, 0, 0, [2])), (2, (0, (Int.negSucc 0), 23, [])), (3, (0, 0, 0, [])), (4, (0, 0, 24, [])), (5, (0, 0, 24, []))], [], (0, 0), [(0, 0, 99992), (1, 12, 24), (0, 0, 100000)], [(2, 9, (Int.negSucc 999999999999), 0), (9, 2, (Int.negSucc 999999999999), 0), (11, 12, (Int.negSucc 999999999999), 23)], [((0, 0), (2, 0, 0, [3])), ((0, 1), (2, 0, 0, [0]))], [(2, 0, 0, [6]), (2, 0, 0, [2]), (0, (Int.negSucc 0), 23, []), (2, 0, 0, [3]), (2, 0, 0, [0]), (2, 0, 0, [12]), (0, 0, 3072, [])], 0, [], [(20, [7, 8, 11, 12], [60, 0, 2, 678, 2, 1004]), (20, [13, 8], [60, 1, 2, 671, 0, 14, 1004]), (20, [13, 8], [60, 2, 1, 672, 0, 1001, 1004]), (20, [9, 13], [50, 1, 0, 1000, 2, 6, 0, 2, 0, (Int.negSucc 0), 1, 0, 0, 6, 4, 2, 1, 0, 0, 1, 2, 1, 0]), (20, [7, 13, 8, 11, 12], [60, 1, 4, 855, 1000, 2, 5, 4, 2004]), (20, [5, 6], [62, 2000000]), (24, [0, 7], [])]), (68, [(0, (2, 0, 0, [6])), (1, (2, 0, 0, [2])), (2, (0, (Int.negSucc 0), 23, [])), (3, (0, 0, 0, [])), (4, (0, 0, 24, [])), (5, (0, (Int.negSucc 0), 23, []))], [], (0, 0), [(0, 0, 99932), (2, 12, (Int.negSucc 0)), (0, 0, 100000)], [(2, 9, (Int.negSucc 999999999999), 0), (9, 2, (Int.negSucc 999999999999), 0), (12, 11, (Int.negSucc 999999999999), (Int.negSucc 0))], [((0, 0), (2, 0, 0, [3])), ((0, 1), (2, 0, 0, [0]))], [(2, 0, 0, [6]), (2, 0, 0, [2]), (0, (Int.negSucc 0), 23, []), (2, 0, 0, [3]), (2, 0, 0, [0]), (2, 0, 0, [12]), (0, 0, 3072, [])], 0, [], [(20, [7, 13, 11], [60, 1, 3, 859, 1000, 2, 5, 4]), (20, [7, 13, 14, 11, 12], [60, 1, 3, 865, 1000, 2, 5, 2002]), (20, [7, 13, 11, 12], [60, 1, 2, 860, 1000, 2, 6]), (20, [12, 11], [50, 0, 0, 2, 6, 0, 2, 0, (Int.negSucc 0), 1, 0, 0, 6, 4, 2, 1, 0, 0, 1, 1, 1]), (20, [5, 6], [62, 2000000]), (24, [0, 7], [])]), (93, [(0, (2, 0, 0, [6])), (1, (2, 0, 0, [2])), (2, (0, (Int.negSucc 0), 23, [])), (3, (0, 0, 24, [])), (4, (0, 0, 24, [])), (5, (0, 0, 24, []))], [], (0, 0), [(0, 0, 99907), (1, 12, 24), (0, 0, 100000)], [(2, 9, (Int.negSucc 999999999999), 0), (9, 2, (Int.negSucc 999999999999), 0), (10, 11, (Int.negSucc 999999999999), 0), (10, 12, (Int.negSucc 999999999999), 0), (12, 11, (Int.negSucc 999999999999), 0)], [((0, 0), (2, 0, 0, [3])), ((0, 1), (2, 0, 0, [0]))], [(2, 0, 0, [6]), (2, 0, 0, [2]), (0, (Int.negSucc 0), 23, []), (2, 0, 0, [3]), (2, 0, 0, [0]), (2, 0, 0, [12]), (0, 0, 3072, [])], 0, [], [(20, [7, 13, 11], [60, 1, 3, 859, 1000, 2, 5, 4]), (20, [7, 13, 14, 11, 11], [60, 1, 3, 865, 1000, 2, 5, 2002]), (20, [7, 13, 11, 11], [60, 1, 2, 860, 1000, 2, 6]), (20, [7, 13, 10, 12], [60, 1, 3, 874, 1000, 2, 5, 7]), (20, [12, 11], [50, 0, 0, 0, 2, 1, 0, 1, 1]), (20, [5, 6], [62, 2000000]), (24, [0, 7], [])]), (158, [(0, (2, 0, 0, [6])), (1, (2, 0, 0, [2])), (2, (0, (Int.negSucc 0), 23, [])), (3, (0, 0, 24, [])), (4, (0, 0, 24, [])), (5, (0, (Int.negSucc 39999999), 690000000, [])), (6, (0, 1, 24, []))], [], (0, 0), [(0, 0, 99842), (1, 13, 24), (0, 0, 100000)], [(2, 9, (Int.negSucc 999999999999), 0), (9, 2, (Int.negSucc 999999999999), 0), (10, 11, (Int.negSucc 999999999999), 0)], [((0, 0), (2, 0, 0, [3])), ((0, 1), (2, 0, 0, [0]))], [(2, 0, 0, [6]), (2, 0, 0, [2]), (0, (Int.negSucc 0), 23, []), (2, 0, 0, [3]), (2, 0, 0, [0]), (2, 0, 0, [12]), (0, 0, 3072, [])], 0, [], [(20, [14, 15, 12, 13], [60, 1, 1, 878, 0, 1002]), (20, [5, 6], [62, 2000000]), (24, [0, 7], [])]), (196, [(0, (2, 0, 0, [6])), (1, (2, 0, 0, [2])), (2, (0, (Int.negSucc 0), 23, [])), (3, (0, 0, 24, [])), (4, (0, 0, 24, [])), (5, (0, (Int.negSucc 39999999), 690000000, [])), (6, (0, 0, 24, []))], [], (0, 0), [(0, 0, 99804), (1, 13, 24), (0, 0, 100000)], [(2, 9, (Int.negSucc 999999999999), 0), (9, 2, (Int.negSucc 999999999999), 0), (10, 11, (Int.negSucc 999999999999), 0)], [((0, 0), (2, 0, 0, [3])), ((0, 1), (2, 0, 0, [0]))], [(2, 0, 0, [6]), (2, 0, 0, [2]), (0, (Int.negSucc 0), 23, []), (2, 0, 0, [3]), (2, 0, 0, [0]), (2, 0, 0, [12]), (0, 0, 3072, [])], 0, [], [(20, [14, 15, 12, 13], [60, 1, 1, 879, 0, 1002]), (20, [5, 6], [62, 2000000]), (24, [0, 7], [])])]
def t_Pl_layTree_ct : ct_L := [(1, 112, e_Pl_leastOfPart), (1, 116, e_Pl_walkTree), (1, 120, e_Pl_placeOver), (1, 123, e_Pl_placeSideBySide), (549, 130, e_jMath_min1_v257)]
set_option maxRecDepth 100000 in
theorem c_Pl_layTree {l : Launch} {D : va_G} {kA : Nat → ClassId} (h_Pl_leastOfPart : ct_ok PRD l D kA GG y_Pl_leastOfPart z_Pl_leastOfPart e_Pl_leastOfPart) (h_Pl_placeOver : ct_ok PRD l D kA GG y_Pl_placeOver z_Pl_placeOver e_Pl_placeOver) (h_Pl_placeSideBySide : ct_ok PRD l D kA GG y_Pl_placeSideBySide z_Pl_placeSideBySide e_Pl_placeSideBySide) (h_Pl_walkTree : ct_ok PRD l D kA GG y_Pl_walkTree z_Pl_walkTree e_Pl_walkTree) : ct_ok PRD l D kA GG y_Pl_layTree z_Pl_layTree e_Pl_layTree := chk_all_ok (FT := [(9, 6, 0), (15, 6, 1), (19, 6, 2), (26, 6, 4), (29, 6, 5), (35, 6, 7), (74, 3, 0), (82, 2, 1), (109, 2, 4), (127, 0, 2), (135, 0, 3)]) (PT := []) (CT := t_Pl_layTree_ct) (KT := []) (NT := []) (AN := n_Pl_layTree_an) (OT := [o_Pl_layTree_0, o_Pl_layTree_1, o_Pl_layTree_2, o_Pl_layTree_3, o_Pl_layTree_4, o_Pl_layTree_5, o_Pl_layTree_6, o_Pl_layTree_7, o_Pl_layTree_8, o_Pl_layTree_9, o_Pl_layTree_10, o_Pl_layTree_11, o_Pl_layTree_12, o_Pl_layTree_13, o_Pl_layTree_14, o_Pl_layTree_15, o_Pl_layTree_16, o_Pl_layTree_17, o_Pl_layTree_18, o_Pl_layTree_19, o_Pl_layTree_20, o_Pl_layTree_21]) 3 604 (List.forall_mem_cons.mpr ⟨oo_Pl_layTree_0, List.forall_mem_cons.mpr ⟨oo_Pl_layTree_1, List.forall_mem_cons.mpr ⟨oo_Pl_layTree_2, List.forall_mem_cons.mpr ⟨oo_Pl_layTree_3, List.forall_mem_cons.mpr ⟨oo_Pl_layTree_4, List.forall_mem_cons.mpr ⟨oo_Pl_layTree_5, List.forall_mem_cons.mpr ⟨oo_Pl_layTree_6, List.forall_mem_cons.mpr ⟨oo_Pl_layTree_7, List.forall_mem_cons.mpr ⟨oo_Pl_layTree_8, List.forall_mem_cons.mpr ⟨oo_Pl_layTree_9, List.forall_mem_cons.mpr ⟨oo_Pl_layTree_10, List.forall_mem_cons.mpr ⟨oo_Pl_layTree_11, List.forall_mem_cons.mpr ⟨oo_Pl_layTree_12, List.forall_mem_cons.mpr ⟨oo_Pl_layTree_13, List.forall_mem_cons.mpr ⟨oo_Pl_layTree_14, List.forall_mem_cons.mpr ⟨oo_Pl_layTree_15, List.forall_mem_cons.mpr ⟨oo_Pl_layTree_16, List.forall_mem_cons.mpr ⟨oo_Pl_layTree_17, List.forall_mem_cons.mpr ⟨oo_Pl_layTree_18, List.forall_mem_cons.mpr ⟨oo_Pl_layTree_19, List.forall_mem_cons.mpr ⟨oo_Pl_layTree_20, List.forall_mem_cons.mpr ⟨oo_Pl_layTree_21, List.forall_mem_nil _⟩⟩⟩⟩⟩⟩⟩⟩⟩⟩⟩⟩⟩⟩⟩⟩⟩⟩⟩⟩⟩⟩) (by decide +kernel) ⟨List.forall_mem_cons.mpr ⟨gf_Pl_9, List.forall_mem_cons.mpr ⟨gf_Pl_15, List.forall_mem_cons.mpr ⟨gf_Pl_19, List.forall_mem_cons.mpr ⟨gf_Pl_26, List.forall_mem_cons.mpr ⟨gf_Pl_29, List.forall_mem_cons.mpr ⟨gf_Pl_35, List.forall_mem_cons.mpr ⟨gf_Pl_74, List.forall_mem_cons.mpr ⟨gf_Pl_82, List.forall_mem_cons.mpr ⟨gf_Pl_109, List.forall_mem_cons.mpr ⟨gf_Pl_127, List.forall_mem_cons.mpr ⟨gf_Pl_135, List.forall_mem_nil _⟩⟩⟩⟩⟩⟩⟩⟩⟩⟩⟩, List.forall_mem_nil _, List.forall_mem_cons.mpr ⟨cl_virtual (y := y_Pl_leastOfPart) (ci := 6) rfl rfl ⟨_, _, rfl⟩ (by decide +kernel) h_Pl_leastOfPart wm_1695 wm_21 wm_1692 wm_1694 wv_7_7 ⟨by decide, by decide, by decide +kernel⟩ (by decide), List.forall_mem_cons.mpr ⟨cl_virtual (y := y_Pl_walkTree) (ci := 6) rfl rfl ⟨_, _, rfl⟩ (by decide +kernel) h_Pl_walkTree wm_1699 wm_21 wm_1696 wm_1698 wv_7_8 ⟨by decide, by decide, by decide +kernel⟩ (by decide), List.forall_mem_cons.mpr ⟨cl_virtual (y := y_Pl_placeOver) (ci := 6) rfl rfl ⟨_, _, rfl⟩ (by decide +kernel) h_Pl_placeOver wm_1703 wm_21 wm_1700 wm_1702 wv_7_9 ⟨by decide, by decide, by decide +kernel⟩ (by decide), List.forall_mem_cons.mpr ⟨cl_virtual (y := y_Pl_placeSideBySide) (ci := 6) rfl rfl ⟨_, _, rfl⟩ (by decide +kernel) h_Pl_placeSideBySide wm_1707 wm_21 wm_1704 wm_1706 wv_7_10 ⟨by decide, by decide, by decide +kernel⟩ (by decide), List.forall_mem_cons.mpr ⟨cl_static (y := y_jMath_min1) c_jMath_min1_v257 wm_658 wm_10 wm_1716 wm_657 ⟨by decide, by decide, by decide +kernel⟩ (by decide), List.forall_mem_nil _⟩⟩⟩⟩⟩, List.forall_mem_nil _, List.forall_mem_nil _, GG_pl⟩ (by decide +kernel)

set_option maxHeartbeats 4000000 in
theorem vc_Pn_orderFromTo_0_0 (x21 : Int) (x22 : Int) (x23 : Int) (x24 : Int) (x25 : Int) (nodes_0o1 : Int) (line_0 : Int → Int) (near_0o1 : Int → Int) (tail_0o1 : Int → Int) (head_0o1 : Int → Int) (near_1o1 : Int → Int) (nodes_1o1 : Int) (tail_1o1 : Int → Int) (head_1o1 : Int → Int) (head_2o1 : Int → Int) (near_2o1 : Int → Int) (nodes_2o1 : Int) (tail_2o1 : Int → Int) (tail_3o1 : Int → Int) (near_3o1 : Int → Int) (nodes_3o1 : Int) (head_3o1 : Int → Int) (lineLength_1 : Int) (lineLength_2 : Int) (line_1 : Int → Int) (k21 : 1 ≤ x21 ∧ x21 ≤ 1) (k22 : 0 ≤ x22 ∧ x22 ≤ 24) (k23 : 1 ≤ x23 ∧ x23 ≤ 16777216) (k24 : 1 ≤ x24 ∧ x24 ≤ 1) (k25 : 0 ≤ x25 ∧ x25 ≤ 16777215) (d0 : x23 + (-1) ≤ x25 ∧ x25 ≤ x23 + (-1)) (f3 : x25 = x23 - x24) (f4 : bvp (x23) = bvp (x21) <<< (x22).toNat) (g5 : x22 = nodes_0o1) (fe_1_0_1 : nodes_0o1 = nodes_1o1) (fe_0_3_2 : lineLength_1 = lineLength_2) (fe_1_0_2 : nodes_1o1 = nodes_2o1) (fe_1_0_3 : nodes_2o1 = nodes_3o1) (hE_0_2_1 : ∀ j : Int, line_0 j = line_1 j) (hE_1_7_1 : ∀ j : Int, tail_0o1 j = tail_1o1 j) (hE_1_7_2 : ∀ j : Int, tail_1o1 j = tail_2o1 j) (hE_1_7_3 : ∀ j : Int, tail_2o1 j = tail_3o1 j) (hE_1_8_1 : ∀ j : Int, head_0o1 j = head_1o1 j) (hE_1_8_2 : ∀ j : Int, head_1o1 j = head_2o1 j) (hE_1_8_3 : ∀ j : Int, head_2o1 j = head_3o1 j) (hE_1_14_1 : ∀ j : Int, near_0o1 j = near_1o1 j) (hE_1_14_2 : ∀ j : Int, near_1o1 j = near_2o1 j) (hE_1_14_3 : ∀ j : Int, near_2o1 j = near_3o1 j) (kz_1_0 : 0 ≤ nodes_0o1 ∧ nodes_0o1 ≤ 24) : ALB (nodes_0o1) (x25) := by
  subst fe_1_0_1
  subst fe_0_3_2
  subst fe_1_0_2
  subst fe_1_0_3
  have e_hE_0_2_1 := funext hE_0_2_1; subst e_hE_0_2_1
  have e_hE_1_7_1 := funext hE_1_7_1; subst e_hE_1_7_1
  have e_hE_1_7_2 := funext hE_1_7_2; subst e_hE_1_7_2
  have e_hE_1_7_3 := funext hE_1_7_3; subst e_hE_1_7_3
  have e_hE_1_8_1 := funext hE_1_8_1; subst e_hE_1_8_1
  have e_hE_1_8_2 := funext hE_1_8_2; subst e_hE_1_8_2
  have e_hE_1_8_3 := funext hE_1_8_3; subst e_hE_1_8_3
  have e_hE_1_14_1 := funext hE_1_14_1; subst e_hE_1_14_1
  have e_hE_1_14_2 := funext hE_1_14_2; subst e_hE_1_14_2
  have e_hE_1_14_3 := funext hE_1_14_3; subst e_hE_1_14_3
  first
    | assumption
    | (rw [← ‹x22 = nodes_0o1›]; exact alb_of (p := x23) ‹bvp x23 = _› (by omega) (by assumption) (by omega) (by omega) (by omega) (by omega) (by omega))
  
set_option maxHeartbeats 4000000 in
theorem vc_Pn_orderFromTo_0_2 (x3 : Int) (x5 : Int) (x6 : Int) (x7 : Int) (x9 : Int) (x10 : Int) (x12 : Int) (x13 : Int) (x14 : Int) (x15 : Int) (x16 : Int) (x17 : Int) (x18 : Int) (x19 : Int) (x20 : Int) (x21 : Int) (x22 : Int) (x23 : Int) (x24 : Int) (x25 : Int) (nodes_0o1 : Int) (line_0 : Int → Int) (near_0o1 : Int → Int) (tail_0o1 : Int → Int) (head_0o1 : Int → Int) (near_1o1 : Int → Int) (nodes_1o1 : Int) (tail_1o1 : Int → Int) (head_1o1 : Int → Int) (head_2o1 : Int → Int) (near_2o1 : Int → Int) (nodes_2o1 : Int) (tail_2o1 : Int → Int) (tail_3o1 : Int → Int) (near_3o1 : Int → Int) (nodes_3o1 : Int) (head_3o1 : Int → Int) (lineLength_1 : Int) (lineLength_2 : Int) (line_1 : Int → Int) (line_2 : Int → Int) (line_3 : Int → Int) (k3 : 0 ≤ x3 ∧ x3 ≤ 0) (k5 : 0 ≤ x5 ∧ x5 ≤ 0) (k6 : 0 ≤ x6 ∧ x6 ≤ 23) (k7 : 1 ≤ x7 ∧ x7 ≤ 1) (k9 : 0 ≤ x9 ∧ x9 ≤ 0) (k10 : 0 ≤ x10 ∧ x10 ≤ 23) (k12 : 1 ≤ x12 ∧ x12 ≤ 1) (k13 : 0 ≤ x13 ∧ x13 ≤ 0) (k14 : 0 ≤ x14 ∧ x14 ≤ 23) (k15 : 1 ≤ x15 ∧ x15 ≤ 8388608) (k16 : 1 ≤ x16 ∧ x16 ≤ 1) (k17 : 1 ≤ x17 ∧ x17 ≤ 1) (k18 : 0 ≤ x18 ∧ x18 ≤ 23) (k19 : 1 ≤ x19 ∧ x19 ≤ 8388608) (k20 : 0 ≤ x20 ∧ x20 ≤ 16777215) (k21 : 1 ≤ x21 ∧ x21 ≤ 1) (k22 : 0 ≤ x22 ∧ x22 ≤ 24) (k23 : 1 ≤ x23 ∧ x23 ≤ 16777216) (k24 : 1 ≤ x24 ∧ x24 ≤ 1) (k25 : 0 ≤ x25 ∧ x25 ≤ 16777215) (d0 : x23 + (-1) ≤ x25 ∧ x25 ≤ x23 + (-1)) (f3 : x25 = x23 - x24) (f4 : bvp (x23) = bvp (x21) <<< (x22).toNat) (g5 : x22 = nodes_0o1) (f7 : bvp (x20) = bvp (x15) ||| bvp (x19)) (f8 : bvp (x19) = bvp (x16) <<< (x18).toNat) (h9 : x18 = line_0 (x17)) (f11 : bvp (x15) = bvp (x12) <<< (x14).toNat) (h12 : x14 = line_0 (x13)) (h19 : x10 = head_2o1 (x9)) (h23 : x6 = tail_3o1 (x5)) (f25 : EAR (nodes_3o1) (near_3o1) (tail_3o1) (head_3o1)) (fe_1_0_1 : nodes_0o1 = nodes_1o1) (fe_0_3_2 : lineLength_1 = lineLength_2) (fe_1_0_2 : nodes_1o1 = nodes_2o1) (fe_1_0_3 : nodes_2o1 = nodes_3o1) (hE_0_2_1 : ∀ j : Int, line_0 j = line_1 j) (hE_0_2_2 : ∀ j : Int, 0 ≤ j → (j = x7 → line_1 j = x10) ∧ (j ≠ x7 → line_1 j = line_2 j)) (hE_0_2_3 : ∀ j : Int, 0 ≤ j → (j = x3 → line_2 j = x6) ∧ (j ≠ x3 → line_2 j = line_3 j)) (hE_1_7_1 : ∀ j : Int, tail_0o1 j = tail_1o1 j) (hE_1_7_2 : ∀ j : Int, tail_1o1 j = tail_2o1 j) (hE_1_7_3 : ∀ j : Int, tail_2o1 j = tail_3o1 j) (hE_1_8_1 : ∀ j : Int, head_0o1 j = head_1o1 j) (hE_1_8_2 : ∀ j : Int, head_1o1 j = head_2o1 j) (hE_1_8_3 : ∀ j : Int, head_2o1 j = head_3o1 j) (hE_1_14_1 : ∀ j : Int, near_0o1 j = near_1o1 j) (hE_1_14_2 : ∀ j : Int, near_1o1 j = near_2o1 j) (hE_1_14_3 : ∀ j : Int, near_2o1 j = near_3o1 j) (kz_1_0 : 0 ≤ nodes_0o1 ∧ nodes_0o1 ≤ 24) : OFT (tail_0o1) (head_0o1) (x20) := by
  subst fe_1_0_1
  subst fe_0_3_2
  subst fe_1_0_2
  subst fe_1_0_3
  have e_hE_0_2_1 := funext hE_0_2_1; subst e_hE_0_2_1
  have e_hE_1_7_1 := funext hE_1_7_1; subst e_hE_1_7_1
  have e_hE_1_7_2 := funext hE_1_7_2; subst e_hE_1_7_2
  have e_hE_1_7_3 := funext hE_1_7_3; subst e_hE_1_7_3
  have e_hE_1_8_1 := funext hE_1_8_1; subst e_hE_1_8_1
  have e_hE_1_8_2 := funext hE_1_8_2; subst e_hE_1_8_2
  have e_hE_1_8_3 := funext hE_1_8_3; subst e_hE_1_8_3
  have e_hE_1_14_1 := funext hE_1_14_1; subst e_hE_1_14_1
  have e_hE_1_14_2 := funext hE_1_14_2; subst e_hE_1_14_2
  have e_hE_1_14_3 := funext hE_1_14_3; subst e_hE_1_14_3
  first
    | assumption
    | exact oft_or ‹OFT _ _ _› (by assumption)
    | (have ha : ALC nodes_0o1 x25 := by rw [← ‹x22 = nodes_0o1›]; exact alc_of (p := x23) ‹bvp x23 = _› (by omega) (by assumption) (by omega) (by omega) (by omega) (by omega) (by omega)
       have e1 : line_0 0 = tail_0o1 0 := by rw [(hE_0_2_2 0 (by omega)).2 (by omega), (hE_0_2_3 0 (by omega)).1 (by omega), (by assumption : x6 = tail_0o1 x5), show x5 = 0 by omega]
       have e2 : line_0 1 = head_0o1 0 := by rw [(hE_0_2_2 1 (by omega)).1 (by omega), (by assumption : x10 = head_0o1 x9), show x9 = 0 by omega]
       exact (ofs_both (a := x14) (b := x18) (o1 := x12) (o2 := x16) (p := x15) (q := x19) ‹EAR _ _ _ _› (by omega) ha e1 e2 (by rw [show (0 : Int) = x13 by omega]; assumption) (by rw [show (1 : Int) = x17 by omega]; assumption) (by omega) (by omega) (by assumption) (by assumption) (by assumption) (len := 2) (by omega)).2)
  
set_option maxHeartbeats 4000000 in
theorem vc_Pn_orderFromTo_0_3 (x21 : Int) (x22 : Int) (x23 : Int) (x24 : Int) (x25 : Int) (nodes_0o1 : Int) (line_0 : Int → Int) (near_0o1 : Int → Int) (tail_0o1 : Int → Int) (head_0o1 : Int → Int) (near_1o1 : Int → Int) (nodes_1o1 : Int) (tail_1o1 : Int → Int) (head_1o1 : Int → Int) (head_2o1 : Int → Int) (near_2o1 : Int → Int) (nodes_2o1 : Int) (tail_2o1 : Int → Int) (tail_3o1 : Int → Int) (near_3o1 : Int → Int) (nodes_3o1 : Int) (head_3o1 : Int → Int) (lineLength_1 : Int) (lineLength_2 : Int) (line_1 : Int → Int) (k21 : 1 ≤ x21 ∧ x21 ≤ 1) (k22 : 0 ≤ x22 ∧ x22 ≤ 24) (k23 : 1 ≤ x23 ∧ x23 ≤ 16777216) (k24 : 1 ≤ x24 ∧ x24 ≤ 1) (k25 : 0 ≤ x25 ∧ x25 ≤ 16777215) (d0 : x23 + (-1) ≤ x25 ∧ x25 ≤ x23 + (-1)) (f3 : x25 = x23 - x24) (f4 : bvp (x23) = bvp (x21) <<< (x22).toNat) (g5 : x22 = nodes_0o1) (fe_1_0_1 : nodes_0o1 = nodes_1o1) (fe_0_3_2 : lineLength_1 = lineLength_2) (fe_1_0_2 : nodes_1o1 = nodes_2o1) (fe_1_0_3 : nodes_2o1 = nodes_3o1) (hE_0_2_1 : ∀ j : Int, line_0 j = line_1 j) (hE_1_7_1 : ∀ j : Int, tail_0o1 j = tail_1o1 j) (hE_1_7_2 : ∀ j : Int, tail_1o1 j = tail_2o1 j) (hE_1_7_3 : ∀ j : Int, tail_2o1 j = tail_3o1 j) (hE_1_8_1 : ∀ j : Int, head_0o1 j = head_1o1 j) (hE_1_8_2 : ∀ j : Int, head_1o1 j = head_2o1 j) (hE_1_8_3 : ∀ j : Int, head_2o1 j = head_3o1 j) (hE_1_14_1 : ∀ j : Int, near_0o1 j = near_1o1 j) (hE_1_14_2 : ∀ j : Int, near_1o1 j = near_2o1 j) (hE_1_14_3 : ∀ j : Int, near_2o1 j = near_3o1 j) (kz_1_0 : 0 ≤ nodes_0o1 ∧ nodes_0o1 ≤ 24) : ALC (nodes_0o1) (x25) := by
  subst fe_1_0_1
  subst fe_0_3_2
  subst fe_1_0_2
  subst fe_1_0_3
  have e_hE_0_2_1 := funext hE_0_2_1; subst e_hE_0_2_1
  have e_hE_1_7_1 := funext hE_1_7_1; subst e_hE_1_7_1
  have e_hE_1_7_2 := funext hE_1_7_2; subst e_hE_1_7_2
  have e_hE_1_7_3 := funext hE_1_7_3; subst e_hE_1_7_3
  have e_hE_1_8_1 := funext hE_1_8_1; subst e_hE_1_8_1
  have e_hE_1_8_2 := funext hE_1_8_2; subst e_hE_1_8_2
  have e_hE_1_8_3 := funext hE_1_8_3; subst e_hE_1_8_3
  have e_hE_1_14_1 := funext hE_1_14_1; subst e_hE_1_14_1
  have e_hE_1_14_2 := funext hE_1_14_2; subst e_hE_1_14_2
  have e_hE_1_14_3 := funext hE_1_14_3; subst e_hE_1_14_3
  first
    | assumption
    | (rw [← ‹x22 = nodes_0o1›]; exact alc_of (p := x23) ‹bvp x23 = _› (by omega) (by assumption) (by omega) (by omega) (by omega) (by omega) (by omega))
  
set_option maxHeartbeats 4000000 in
theorem vc_Pn_orderFromTo_0_4 (x3 : Int) (x5 : Int) (x6 : Int) (x7 : Int) (x9 : Int) (x10 : Int) (x11 : Int) (x12 : Int) (x13 : Int) (x14 : Int) (x15 : Int) (x16 : Int) (x17 : Int) (x18 : Int) (x19 : Int) (x20 : Int) (x21 : Int) (x22 : Int) (x23 : Int) (x24 : Int) (x25 : Int) (lineLength_0 : Int) (nodes_0o1 : Int) (line_0 : Int → Int) (near_0o1 : Int → Int) (tail_0o1 : Int → Int) (head_0o1 : Int → Int) (near_1o1 : Int → Int) (nodes_1o1 : Int) (tail_1o1 : Int → Int) (head_1o1 : Int → Int) (head_2o1 : Int → Int) (near_2o1 : Int → Int) (nodes_2o1 : Int) (tail_2o1 : Int → Int) (tail_3o1 : Int → Int) (near_3o1 : Int → Int) (nodes_3o1 : Int) (head_3o1 : Int → Int) (lineLength_1 : Int) (lineLength_2 : Int) (line_1 : Int → Int) (line_2 : Int → Int) (line_3 : Int → Int) (k3 : 0 ≤ x3 ∧ x3 ≤ 0) (k5 : 0 ≤ x5 ∧ x5 ≤ 0) (k6 : 0 ≤ x6 ∧ x6 ≤ 23) (k7 : 1 ≤ x7 ∧ x7 ≤ 1) (k9 : 0 ≤ x9 ∧ x9 ≤ 0) (k10 : 0 ≤ x10 ∧ x10 ≤ 23) (k11 : 2 ≤ x11 ∧ x11 ≤ 2) (k12 : 1 ≤ x12 ∧ x12 ≤ 1) (k13 : 0 ≤ x13 ∧ x13 ≤ 0) (k14 : 0 ≤ x14 ∧ x14 ≤ 23) (k15 : 1 ≤ x15 ∧ x15 ≤ 8388608) (k16 : 1 ≤ x16 ∧ x16 ≤ 1) (k17 : 1 ≤ x17 ∧ x17 ≤ 1) (k18 : 0 ≤ x18 ∧ x18 ≤ 23) (k19 : 1 ≤ x19 ∧ x19 ≤ 8388608) (k20 : 0 ≤ x20 ∧ x20 ≤ 16777215) (k21 : 1 ≤ x21 ∧ x21 ≤ 1) (k22 : 0 ≤ x22 ∧ x22 ≤ 24) (k23 : 1 ≤ x23 ∧ x23 ≤ 16777216) (k24 : 1 ≤ x24 ∧ x24 ≤ 1) (k25 : 0 ≤ x25 ∧ x25 ≤ 16777215) (d0 : x23 + (-1) ≤ x25 ∧ x25 ≤ x23 + (-1)) (g0 : x11 = lineLength_0) (f3 : x25 = x23 - x24) (f4 : bvp (x23) = bvp (x21) <<< (x22).toNat) (g5 : x22 = nodes_0o1) (f7 : bvp (x20) = bvp (x15) ||| bvp (x19)) (f8 : bvp (x19) = bvp (x16) <<< (x18).toNat) (h9 : x18 = line_0 (x17)) (f11 : bvp (x15) = bvp (x12) <<< (x14).toNat) (h12 : x14 = line_0 (x13)) (h19 : x10 = head_2o1 (x9)) (h23 : x6 = tail_3o1 (x5)) (f25 : EAR (nodes_3o1) (near_3o1) (tail_3o1) (head_3o1)) (fe_1_0_1 : nodes_0o1 = nodes_1o1) (fe_0_3_2 : lineLength_1 = lineLength_2) (fe_1_0_2 : nodes_1o1 = nodes_2o1) (fe_1_0_3 : nodes_2o1 = nodes_3o1) (hE_0_2_1 : ∀ j : Int, line_0 j = line_1 j) (hE_0_2_2 : ∀ j : Int, 0 ≤ j → (j = x7 → line_1 j = x10) ∧ (j ≠ x7 → line_1 j = line_2 j)) (hE_0_2_3 : ∀ j : Int, 0 ≤ j → (j = x3 → line_2 j = x6) ∧ (j ≠ x3 → line_2 j = line_3 j)) (hE_1_7_1 : ∀ j : Int, tail_0o1 j = tail_1o1 j) (hE_1_7_2 : ∀ j : Int, tail_1o1 j = tail_2o1 j) (hE_1_7_3 : ∀ j : Int, tail_2o1 j = tail_3o1 j) (hE_1_8_1 : ∀ j : Int, head_0o1 j = head_1o1 j) (hE_1_8_2 : ∀ j : Int, head_1o1 j = head_2o1 j) (hE_1_8_3 : ∀ j : Int, head_2o1 j = head_3o1 j) (hE_1_14_1 : ∀ j : Int, near_0o1 j = near_1o1 j) (hE_1_14_2 : ∀ j : Int, near_1o1 j = near_2o1 j) (hE_1_14_3 : ∀ j : Int, near_2o1 j = near_3o1 j) (kz_0_3 : 0 ≤ lineLength_0 ∧ lineLength_0 ≤ 24) (kz_1_0 : 0 ≤ nodes_0o1 ∧ nodes_0o1 ≤ 24) : OFL (lineLength_0) (line_0) (x25) (x20) := by
  subst fe_1_0_1
  subst fe_0_3_2
  subst fe_1_0_2
  subst fe_1_0_3
  have e_hE_0_2_1 := funext hE_0_2_1; subst e_hE_0_2_1
  have e_hE_1_7_1 := funext hE_1_7_1; subst e_hE_1_7_1
  have e_hE_1_7_2 := funext hE_1_7_2; subst e_hE_1_7_2
  have e_hE_1_7_3 := funext hE_1_7_3; subst e_hE_1_7_3
  have e_hE_1_8_1 := funext hE_1_8_1; subst e_hE_1_8_1
  have e_hE_1_8_2 := funext hE_1_8_2; subst e_hE_1_8_2
  have e_hE_1_8_3 := funext hE_1_8_3; subst e_hE_1_8_3
  have e_hE_1_14_1 := funext hE_1_14_1; subst e_hE_1_14_1
  have e_hE_1_14_2 := funext hE_1_14_2; subst e_hE_1_14_2
  have e_hE_1_14_3 := funext hE_1_14_3; subst e_hE_1_14_3
  first
    | assumption
    | (rw [show gx = x5 by omega, show gy = x4 by omega]; assumption)
    | exact ofl_of ‹OFQ _ _ _ _ _› (by omega)
    | (have ha : ALC nodes_0o1 x25 := by rw [← ‹x22 = nodes_0o1›]; exact alc_of (p := x23) ‹bvp x23 = _› (by omega) (by assumption) (by omega) (by omega) (by omega) (by omega) (by omega)
       have e1 : line_0 0 = tail_0o1 0 := by rw [(hE_0_2_2 0 (by omega)).2 (by omega), (hE_0_2_3 0 (by omega)).1 (by omega), (by assumption : x6 = tail_0o1 x5), show x5 = 0 by omega]
       have e2 : line_0 1 = head_0o1 0 := by rw [(hE_0_2_2 1 (by omega)).1 (by omega), (by assumption : x10 = head_0o1 x9), show x9 = 0 by omega]
       exact (ofs_both (a := x14) (b := x18) (o1 := x12) (o2 := x16) (p := x15) (q := x19) ‹EAR _ _ _ _› (by omega) ha e1 e2 (by rw [show (0 : Int) = x13 by omega]; assumption) (by rw [show (1 : Int) = x17 by omega]; assumption) (by omega) (by omega) (by assumption) (by assumption) (by assumption) (by omega)).1)
  
set_option maxHeartbeats 4000000 in
theorem vc_Pn_orderFromTo_0_5 (x11 : Int) (x26 : Int) (lineLength_0 : Int) (nodes_0o1 : Int) (line_0 : Int → Int) (near_0o1 : Int → Int) (tail_0o1 : Int → Int) (head_0o1 : Int → Int) (near_1o1 : Int → Int) (nodes_1o1 : Int) (tail_1o1 : Int → Int) (head_1o1 : Int → Int) (head_2o1 : Int → Int) (near_2o1 : Int → Int) (nodes_2o1 : Int) (tail_2o1 : Int → Int) (tail_3o1 : Int → Int) (near_3o1 : Int → Int) (nodes_3o1 : Int) (head_3o1 : Int → Int) (lineLength_1 : Int) (lineLength_2 : Int) (line_1 : Int → Int) (k11 : 2 ≤ x11 ∧ x11 ≤ 2) (k26 : 0 ≤ x26 ∧ x26 ≤ 0) (g0 : x11 = lineLength_0) (fe_1_0_1 : nodes_0o1 = nodes_1o1) (fe_0_3_2 : lineLength_1 = lineLength_2) (fe_1_0_2 : nodes_1o1 = nodes_2o1) (fe_1_0_3 : nodes_2o1 = nodes_3o1) (hE_0_2_1 : ∀ j : Int, line_0 j = line_1 j) (hE_1_7_1 : ∀ j : Int, tail_0o1 j = tail_1o1 j) (hE_1_7_2 : ∀ j : Int, tail_1o1 j = tail_2o1 j) (hE_1_7_3 : ∀ j : Int, tail_2o1 j = tail_3o1 j) (hE_1_8_1 : ∀ j : Int, head_0o1 j = head_1o1 j) (hE_1_8_2 : ∀ j : Int, head_1o1 j = head_2o1 j) (hE_1_8_3 : ∀ j : Int, head_2o1 j = head_3o1 j) (hE_1_14_1 : ∀ j : Int, near_0o1 j = near_1o1 j) (hE_1_14_2 : ∀ j : Int, near_1o1 j = near_2o1 j) (hE_1_14_3 : ∀ j : Int, near_2o1 j = near_3o1 j) (kz_0_3 : 0 ≤ lineLength_0 ∧ lineLength_0 ≤ 24) (kz_1_0 : 0 ≤ nodes_0o1 ∧ nodes_0o1 ≤ 24) : (x26 + 2) ≤ lineLength_0 := by
  subst fe_1_0_1
  subst fe_0_3_2
  subst fe_1_0_2
  subst fe_1_0_3
  have e_hE_0_2_1 := funext hE_0_2_1; subst e_hE_0_2_1
  have e_hE_1_7_1 := funext hE_1_7_1; subst e_hE_1_7_1
  have e_hE_1_7_2 := funext hE_1_7_2; subst e_hE_1_7_2
  have e_hE_1_7_3 := funext hE_1_7_3; subst e_hE_1_7_3
  have e_hE_1_8_1 := funext hE_1_8_1; subst e_hE_1_8_1
  have e_hE_1_8_2 := funext hE_1_8_2; subst e_hE_1_8_2
  have e_hE_1_8_3 := funext hE_1_8_3; subst e_hE_1_8_3
  have e_hE_1_14_1 := funext hE_1_14_1; subst e_hE_1_14_1
  have e_hE_1_14_2 := funext hE_1_14_2; subst e_hE_1_14_2
  have e_hE_1_14_3 := funext hE_1_14_3; subst e_hE_1_14_3
  first
    | omega
    | exact ear_use (len := 0) (ln_zq := fun z => z) ‹EAR _ _ _ _› ‹OFT _ _ _› ‹OFN _ _› ‹NWA _ _ _ _ _› ‹EWY _ _ _ _› (by first | exact Or.inl (by omega) | exact Or.inr (by omega)) rfl rfl
  
def o_Pn_orderFromTo_0 : or_T := (59, 27, [(0, (2, 0, 0, [7])), (1, (2, 0, 0, [3])), (2, (2, 0, 0, [103])), (3, (0, 0, 0, [])), (5, (0, 0, 0, [])), (6, (0, 0, 23, [])), (7, (0, 1, 1, [])), (9, (0, 0, 0, [])), (10, (0, 0, 23, [])), (11, (0, 2, 2, [])), (12, (0, 1, 1, [])), (13, (0, 0, 0, [])), (14, (0, 0, 23, [])), (15, (0, 1, 8388608, [])), (16, (0, 1, 1, [])), (17, (0, 1, 1, [])), (18, (0, 0, 23, [])), (19, (0, 1, 8388608, [])), (20, (0, 0, 16777215, [])), (21, (0, 1, 1, [])), (22, (0, 0, 24, [])), (23, (0, 1, 16777216, [])), (24, (0, 1, 1, [])), (25, (0, 0, 16777215, [])), (26, (0, 0, 0, []))], [(9, [11, 0], [3]), (9, [8, 1], [8]), (9, [4, 1], [7]), (2, [25, 23, 24], []), (16, [23, 21, 22], [3]), (9, [22, 1], [0]), (16, [20, 15, 19], [1]), (16, [19, 16, 18], [3]), (10, [18, 2, 17], []), (9, [2, 0], [2]), (16, [15, 12, 14], [3]), (10, [14, 2, 13], []), (101, [0, 11], [3]), (100, [2, 7, 10], []), (10, [10, 8, 9], []), (100, [2, 3, 6], []), (10, [6, 4, 5], []), (20, [1], [60, 1, 3, 905, 0, 14, 7, 8])], [], [], [(20, [1, 25], [60, 1, 0, 638, 0]), (24, [1, 1], []), (20, [1, 20], [60, 0, 2, 903, 7, 8]), (20, [1, 25], [60, 1, 0, 904, 0]), (20, [0, 25, 20], [60, 1, 1, 900, 3, 2]), (20, [26, 0], [50, 1, 0, 1003, 0, 6, 4, 2, 1, 0, 0, 2, 2, 1, 3]), (24, [0, 0], []), (24, [1, 1], [])], [], [(25, 23, -1, -1)])
theorem oo_Pn_orderFromTo_0 {kA : Nat → ClassId} : or_ok PRD kA GG o_Pn_orderFromTo_0 := by
  refine or_mk fun A ta ws vs hD hth hl => ?_
  intro t0 r0 t1 r1 t2 r2 t3 k3 t5 k5 t6 k6 t7 k7 t9 k9 t10 k10 t11 k11 t12 k12 t13 k13 t14 k14 t15 k15 t16 k16 t17 k17 t18 k18 t19 k19 t20 k20 t21 k21 t22 k22 t23 k23 t24 k24 t25 k25 t26 k26 d0 f0 f1 f2 f3 f4 f5 f7 f8 f9 f10 f11 f12 ta1 w1 le1 s1 ta2 w2 le2 s2 f19 ta3 w3 le3 s3 f23 f25
  replace f0 := shm_137 f0
  replace f1 := shm_293 f1
  replace f2 := shm_198 f2
  replace f5 := shm_163 f5
  replace f9 := shm_107 f9
  replace f10 := shm_120 f10
  replace f12 := shm_107 f12
  have s1 : (∀ b j, w_el ws b j = w_el w1 b j) ∧ ∀ b j, w_fd ws b j = if b = v_ad (n_v vs 0) ∧ j = 3 then n_v vs 11 else w_fd w1 b j := s1.2
  have s2 : (∀ b j, w_el w1 b j = if b = v_ad (n_v vs 2) ∧ j = (v_iv (n_v vs 7)).toNat then v_iv (n_v vs 10) else w_el w2 b j) ∧ ∀ b k, w_fd w1 b k = w_fd w2 b k := s2.2
  replace f19 := shm_107 f19
  have s3 : (∀ b j, w_el w2 b j = if b = v_ad (n_v vs 2) ∧ j = (v_iv (n_v vs 3)).toNat then v_iv (n_v vs 6) else w_el w3 b j) ∧ ∀ b k, w_fd w2 b k = w_fd w3 b k := s3.2
  replace f23 := shm_107 f23
  replace f25 := shm_1793 f25
  have ar_1_7_1 : w_ar w1 (n_v vs 1) 7 = w_ar ws (n_v vs 1) 7 := by show v_ad (w_fd w1 _ _) = v_ad (w_fd ws _ _); rw [s1.2, if_neg (fun e => absurd e.2 (by decide))]
  have ar_1_7_2 : w_ar w2 (n_v vs 1) 7 = w_ar ws (n_v vs 1) 7 := by rw [← ar_1_7_1]; show v_ad (w_fd w2 _ _) = v_ad (w_fd w1 _ _); rw [s2.2]
  have ar_1_7_3 : w_ar w3 (n_v vs 1) 7 = w_ar ws (n_v vs 1) 7 := by rw [← ar_1_7_2]; show v_ad (w_fd w3 _ _) = v_ad (w_fd w2 _ _); rw [s3.2]
  have cr_1_7 := fdq_46 hD hth r1
  have ar_1_8_1 : w_ar w1 (n_v vs 1) 8 = w_ar ws (n_v vs 1) 8 := by show v_ad (w_fd w1 _ _) = v_ad (w_fd ws _ _); rw [s1.2, if_neg (fun e => absurd e.2 (by decide))]
  have ar_1_8_2 : w_ar w2 (n_v vs 1) 8 = w_ar ws (n_v vs 1) 8 := by rw [← ar_1_8_1]; show v_ad (w_fd w2 _ _) = v_ad (w_fd w1 _ _); rw [s2.2]
  have ar_1_8_3 : w_ar w3 (n_v vs 1) 8 = w_ar ws (n_v vs 1) 8 := by rw [← ar_1_8_2]; show v_ad (w_fd w3 _ _) = v_ad (w_fd w2 _ _); rw [s3.2]
  have cr_1_8 := fdq_47 hD hth r1
  have ar_1_14_1 : w_ar w1 (n_v vs 1) 14 = w_ar ws (n_v vs 1) 14 := by show v_ad (w_fd w1 _ _) = v_ad (w_fd ws _ _); rw [s1.2, if_neg (fun e => absurd e.2 (by decide))]
  have ar_1_14_2 : w_ar w2 (n_v vs 1) 14 = w_ar ws (n_v vs 1) 14 := by rw [← ar_1_14_1]; show v_ad (w_fd w2 _ _) = v_ad (w_fd w1 _ _); rw [s2.2]
  have ar_1_14_3 : w_ar w3 (n_v vs 1) 14 = w_ar ws (n_v vs 1) 14 := by rw [← ar_1_14_2]; show v_ad (w_fd w3 _ _) = v_ad (w_fd w2 _ _); rw [s3.2]
  have cr_1_14 := fdq_75 hD hth r1
  have ad_8 : v_ad (n_v vs 8) = w_ar ws (n_v vs 1) 8 := congrArg v_ad f1
  have ad_4 : v_ad (n_v vs 4) = w_ar ws (n_v vs 1) 7 := congrArg v_ad f2
  have ad_2 : v_ad (n_v vs 2) = w_ar ws (n_v vs 0) 2 := congrArg v_ad f10
  have g0 : v_iv (n_v vs 11) = w_fi ws (n_v vs 0) 3 := congrArg v_iv f0
  have g5 : v_iv (n_v vs 22) = w_fi ws (n_v vs 1) 0 := congrArg v_iv f5
  simp only [ad_2] at f9
  have h9 : v_iv (n_v vs 18) = w_ei ws (w_ar ws (n_v vs 0) 2) (v_iv (n_v vs 17)) := f9
  simp only [ad_2] at f12
  have h12 : v_iv (n_v vs 14) = w_ei ws (w_ar ws (n_v vs 0) 2) (v_iv (n_v vs 13)) := f12
  simp only [ar_1_14_1, ar_1_7_1, ar_1_8_1, ad_8] at f19
  have h19 : v_iv (n_v vs 10) = w_ei w2 (w_ar ws (n_v vs 1) 8) (v_iv (n_v vs 9)) := f19
  simp only [ar_1_14_2, ar_1_7_2, ar_1_8_2, ad_4] at f23
  have h23 : v_iv (n_v vs 6) = w_ei w3 (w_ar ws (n_v vs 1) 7) (v_iv (n_v vs 5)) := f23
  simp only [ar_1_14_3, ar_1_7_3, ar_1_8_3] at f25
  have fe_1_0_1 : w_fi ws (n_v vs 1) 0 = w_fi w1 (n_v vs 1) 0 := by show v_iv (w_fd _ _ _) = v_iv (w_fd _ _ _); rw [s1.2, if_neg (fun e => absurd e.2 (by decide))]
  have fe_0_3_2 : w_fi w1 (n_v vs 0) 3 = w_fi w2 (n_v vs 0) 3 := congrArg v_iv (s2.2 _ _)
  have fe_1_0_2 : w_fi w1 (n_v vs 1) 0 = w_fi w2 (n_v vs 1) 0 := congrArg v_iv (s2.2 _ _)
  have fe_1_0_3 : w_fi w2 (n_v vs 1) 0 = w_fi w3 (n_v vs 1) 0 := congrArg v_iv (s3.2 _ _)
  have hE_0_2_1 : ∀ j : Int, w_ei ws (w_ar ws (n_v vs 0) 2) j = w_ei w1 (w_ar ws (n_v vs 0) 2) j := fun j => s1.1 _ _
  have hE_0_2_2 : ∀ j : Int, 0 ≤ j → (j = v_iv (n_v vs 7) → w_ei w1 (w_ar ws (n_v vs 0) 2) j = v_iv (n_v vs 10)) ∧ (j ≠ v_iv (n_v vs 7) → w_ei w1 (w_ar ws (n_v vs 0) 2) j = w_ei w2 (w_ar ws (n_v vs 0) 2) j) := fun j hj => ⟨fun h => by unfold w_ei; rw [s2.1, if_pos ⟨ad_2.symm, by rw [h]⟩], fun h => by unfold w_ei; rw [s2.1, if_neg (fun e => h (by have := e.2; omega))]⟩
  have hE_0_2_3 : ∀ j : Int, 0 ≤ j → (j = v_iv (n_v vs 3) → w_ei w2 (w_ar ws (n_v vs 0) 2) j = v_iv (n_v vs 6)) ∧ (j ≠ v_iv (n_v vs 3) → w_ei w2 (w_ar ws (n_v vs 0) 2) j = w_ei w3 (w_ar ws (n_v vs 0) 2) j) := fun j hj => ⟨fun h => by unfold w_ei; rw [s3.1, if_pos ⟨ad_2.symm, by rw [h]⟩], fun h => by unfold w_ei; rw [s3.1, if_neg (fun e => h (by have := e.2; omega))]⟩
  have hE_1_7_1 : ∀ j : Int, w_ei ws (w_ar ws (n_v vs 1) 7) j = w_ei w1 (w_ar ws (n_v vs 1) 7) j := fun j => s1.1 _ _
  have hE_1_7_2 : ∀ j : Int, w_ei w1 (w_ar ws (n_v vs 1) 7) j = w_ei w2 (w_ar ws (n_v vs 1) 7) j := el_kp s2.1 r2 cr_1_7 (by decide)
  have hE_1_7_3 : ∀ j : Int, w_ei w2 (w_ar ws (n_v vs 1) 7) j = w_ei w3 (w_ar ws (n_v vs 1) 7) j := el_kp s3.1 r2 cr_1_7 (by decide)
  have hE_1_8_1 : ∀ j : Int, w_ei ws (w_ar ws (n_v vs 1) 8) j = w_ei w1 (w_ar ws (n_v vs 1) 8) j := fun j => s1.1 _ _
  have hE_1_8_2 : ∀ j : Int, w_ei w1 (w_ar ws (n_v vs 1) 8) j = w_ei w2 (w_ar ws (n_v vs 1) 8) j := el_kp s2.1 r2 cr_1_8 (by decide)
  have hE_1_8_3 : ∀ j : Int, w_ei w2 (w_ar ws (n_v vs 1) 8) j = w_ei w3 (w_ar ws (n_v vs 1) 8) j := el_kp s3.1 r2 cr_1_8 (by decide)
  have hE_1_14_1 : ∀ j : Int, w_ei ws (w_ar ws (n_v vs 1) 14) j = w_ei w1 (w_ar ws (n_v vs 1) 14) j := fun j => s1.1 _ _
  have hE_1_14_2 : ∀ j : Int, w_ei w1 (w_ar ws (n_v vs 1) 14) j = w_ei w2 (w_ar ws (n_v vs 1) 14) j := el_kp s2.1 r2 cr_1_14 (by decide)
  have hE_1_14_3 : ∀ j : Int, w_ei w2 (w_ar ws (n_v vs 1) 14) j = w_ei w3 (w_ar ws (n_v vs 1) 14) j := el_kp s3.1 r2 cr_1_14 (by decide)
  have kz_0_3 := fdq_13 hD hth r0
  have kz_1_0 := fdq_21 hD hth r1
  have nf0 : fc_1 PRD (20, [1, 25], [60, 1, 0, 638, 0]) ws (vs) := ⟨nf_in hl rfl, sgq_1794 (vc_Pn_orderFromTo_0_0 (v_iv (n_v vs 21)) (v_iv (n_v vs 22)) (v_iv (n_v vs 23)) (v_iv (n_v vs 24)) (v_iv (n_v vs 25)) (w_fi ws (n_v vs 1) 0) (w_ei ws (w_ar ws (n_v vs 0) 2)) (w_ei ws (w_ar ws (n_v vs 1) 14)) (w_ei ws (w_ar ws (n_v vs 1) 7)) (w_ei ws (w_ar ws (n_v vs 1) 8)) (w_ei w1 (w_ar ws (n_v vs 1) 14)) (w_fi w1 (n_v vs 1) 0) (w_ei w1 (w_ar ws (n_v vs 1) 7)) (w_ei w1 (w_ar ws (n_v vs 1) 8)) (w_ei w2 (w_ar ws (n_v vs 1) 8)) (w_ei w2 (w_ar ws (n_v vs 1) 14)) (w_fi w2 (n_v vs 1) 0) (w_ei w2 (w_ar ws (n_v vs 1) 7)) (w_ei w3 (w_ar ws (n_v vs 1) 7)) (w_ei w3 (w_ar ws (n_v vs 1) 14)) (w_fi w3 (n_v vs 1) 0) (w_ei w3 (w_ar ws (n_v vs 1) 8)) (w_fi w1 (n_v vs 0) 3) (w_fi w2 (n_v vs 0) 3) (w_ei w1 (w_ar ws (n_v vs 0) 2)) k21 k22 k23 k24 k25 d0 (shm_14 f3) (shm_349 f4) g5 fe_1_0_1 fe_0_3_2 fe_1_0_2 fe_1_0_3 hE_0_2_1 hE_1_7_1 hE_1_7_2 hE_1_7_3 hE_1_8_1 hE_1_8_2 hE_1_8_3 hE_1_14_1 hE_1_14_2 hE_1_14_3 kz_1_0)⟩
  have nf1 : fc_1 PRD (24, [1, 1], []) ws (vs) := by
    refine ⟨nf_in hl rfl, sgq_1 ?_⟩
    · show n_v vs 1 = n_v vs 1
      first | rfl | simp only [true_and]
  have nf2 : fc_1 PRD (20, [1, 20], [60, 0, 2, 903, 7, 8]) ws (vs) := ⟨nf_in hl rfl, sgq_1795 (vc_Pn_orderFromTo_0_2 (v_iv (n_v vs 3)) (v_iv (n_v vs 5)) (v_iv (n_v vs 6)) (v_iv (n_v vs 7)) (v_iv (n_v vs 9)) (v_iv (n_v vs 10)) (v_iv (n_v vs 12)) (v_iv (n_v vs 13)) (v_iv (n_v vs 14)) (v_iv (n_v vs 15)) (v_iv (n_v vs 16)) (v_iv (n_v vs 17)) (v_iv (n_v vs 18)) (v_iv (n_v vs 19)) (v_iv (n_v vs 20)) (v_iv (n_v vs 21)) (v_iv (n_v vs 22)) (v_iv (n_v vs 23)) (v_iv (n_v vs 24)) (v_iv (n_v vs 25)) (w_fi ws (n_v vs 1) 0) (w_ei ws (w_ar ws (n_v vs 0) 2)) (w_ei ws (w_ar ws (n_v vs 1) 14)) (w_ei ws (w_ar ws (n_v vs 1) 7)) (w_ei ws (w_ar ws (n_v vs 1) 8)) (w_ei w1 (w_ar ws (n_v vs 1) 14)) (w_fi w1 (n_v vs 1) 0) (w_ei w1 (w_ar ws (n_v vs 1) 7)) (w_ei w1 (w_ar ws (n_v vs 1) 8)) (w_ei w2 (w_ar ws (n_v vs 1) 8)) (w_ei w2 (w_ar ws (n_v vs 1) 14)) (w_fi w2 (n_v vs 1) 0) (w_ei w2 (w_ar ws (n_v vs 1) 7)) (w_ei w3 (w_ar ws (n_v vs 1) 7)) (w_ei w3 (w_ar ws (n_v vs 1) 14)) (w_fi w3 (n_v vs 1) 0) (w_ei w3 (w_ar ws (n_v vs 1) 8)) (w_fi w1 (n_v vs 0) 3) (w_fi w2 (n_v vs 0) 3) (w_ei w1 (w_ar ws (n_v vs 0) 2)) (w_ei w2 (w_ar ws (n_v vs 0) 2)) (w_ei w3 (w_ar ws (n_v vs 0) 2)) k3 k5 k6 k7 k9 k10 k12 k13 k14 k15 k16 k17 k18 k19 k20 k21 k22 k23 k24 k25 d0 (shm_14 f3) (shm_349 f4) g5 (shm_354 f7) (shm_349 f8) h9 (shm_349 f11) h12 h19 h23 f25 fe_1_0_1 fe_0_3_2 fe_1_0_2 fe_1_0_3 hE_0_2_1 hE_0_2_2 hE_0_2_3 hE_1_7_1 hE_1_7_2 hE_1_7_3 hE_1_8_1 hE_1_8_2 hE_1_8_3 hE_1_14_1 hE_1_14_2 hE_1_14_3 kz_1_0)⟩
  have nf3 : fc_1 PRD (20, [1, 25], [60, 1, 0, 904, 0]) ws (vs) := ⟨nf_in hl rfl, sgq_1796 (vc_Pn_orderFromTo_0_3 (v_iv (n_v vs 21)) (v_iv (n_v vs 22)) (v_iv (n_v vs 23)) (v_iv (n_v vs 24)) (v_iv (n_v vs 25)) (w_fi ws (n_v vs 1) 0) (w_ei ws (w_ar ws (n_v vs 0) 2)) (w_ei ws (w_ar ws (n_v vs 1) 14)) (w_ei ws (w_ar ws (n_v vs 1) 7)) (w_ei ws (w_ar ws (n_v vs 1) 8)) (w_ei w1 (w_ar ws (n_v vs 1) 14)) (w_fi w1 (n_v vs 1) 0) (w_ei w1 (w_ar ws (n_v vs 1) 7)) (w_ei w1 (w_ar ws (n_v vs 1) 8)) (w_ei w2 (w_ar ws (n_v vs 1) 8)) (w_ei w2 (w_ar ws (n_v vs 1) 14)) (w_fi w2 (n_v vs 1) 0) (w_ei w2 (w_ar ws (n_v vs 1) 7)) (w_ei w3 (w_ar ws (n_v vs 1) 7)) (w_ei w3 (w_ar ws (n_v vs 1) 14)) (w_fi w3 (n_v vs 1) 0) (w_ei w3 (w_ar ws (n_v vs 1) 8)) (w_fi w1 (n_v vs 0) 3) (w_fi w2 (n_v vs 0) 3) (w_ei w1 (w_ar ws (n_v vs 0) 2)) k21 k22 k23 k24 k25 d0 (shm_14 f3) (shm_349 f4) g5 fe_1_0_1 fe_0_3_2 fe_1_0_2 fe_1_0_3 hE_0_2_1 hE_1_7_1 hE_1_7_2 hE_1_7_3 hE_1_8_1 hE_1_8_2 hE_1_8_3 hE_1_14_1 hE_1_14_2 hE_1_14_3 kz_1_0)⟩
  have nf4 : fc_1 PRD (20, [0, 25, 20], [60, 1, 1, 900, 3, 2]) ws (vs) := ⟨nf_in hl rfl, sgq_908 (vc_Pn_orderFromTo_0_4 (v_iv (n_v vs 3)) (v_iv (n_v vs 5)) (v_iv (n_v vs 6)) (v_iv (n_v vs 7)) (v_iv (n_v vs 9)) (v_iv (n_v vs 10)) (v_iv (n_v vs 11)) (v_iv (n_v vs 12)) (v_iv (n_v vs 13)) (v_iv (n_v vs 14)) (v_iv (n_v vs 15)) (v_iv (n_v vs 16)) (v_iv (n_v vs 17)) (v_iv (n_v vs 18)) (v_iv (n_v vs 19)) (v_iv (n_v vs 20)) (v_iv (n_v vs 21)) (v_iv (n_v vs 22)) (v_iv (n_v vs 23)) (v_iv (n_v vs 24)) (v_iv (n_v vs 25)) (w_fi ws (n_v vs 0) 3) (w_fi ws (n_v vs 1) 0) (w_ei ws (w_ar ws (n_v vs 0) 2)) (w_ei ws (w_ar ws (n_v vs 1) 14)) (w_ei ws (w_ar ws (n_v vs 1) 7)) (w_ei ws (w_ar ws (n_v vs 1) 8)) (w_ei w1 (w_ar ws (n_v vs 1) 14)) (w_fi w1 (n_v vs 1) 0) (w_ei w1 (w_ar ws (n_v vs 1) 7)) (w_ei w1 (w_ar ws (n_v vs 1) 8)) (w_ei w2 (w_ar ws (n_v vs 1) 8)) (w_ei w2 (w_ar ws (n_v vs 1) 14)) (w_fi w2 (n_v vs 1) 0) (w_ei w2 (w_ar ws (n_v vs 1) 7)) (w_ei w3 (w_ar ws (n_v vs 1) 7)) (w_ei w3 (w_ar ws (n_v vs 1) 14)) (w_fi w3 (n_v vs 1) 0) (w_ei w3 (w_ar ws (n_v vs 1) 8)) (w_fi w1 (n_v vs 0) 3) (w_fi w2 (n_v vs 0) 3) (w_ei w1 (w_ar ws (n_v vs 0) 2)) (w_ei w2 (w_ar ws (n_v vs 0) 2)) (w_ei w3 (w_ar ws (n_v vs 0) 2)) k3 k5 k6 k7 k9 k10 k11 k12 k13 k14 k15 k16 k17 k18 k19 k20 k21 k22 k23 k24 k25 d0 g0 (shm_14 f3) (shm_349 f4) g5 (shm_354 f7) (shm_349 f8) h9 (shm_349 f11) h12 h19 h23 f25 fe_1_0_1 fe_0_3_2 fe_1_0_2 fe_1_0_3 hE_0_2_1 hE_0_2_2 hE_0_2_3 hE_1_7_1 hE_1_7_2 hE_1_7_3 hE_1_8_1 hE_1_8_2 hE_1_8_3 hE_1_14_1 hE_1_14_2 hE_1_14_3 kz_0_3 kz_1_0)⟩
  have nf5 : fc_1 PRD (20, [26, 0], [50, 1, 0, 1003, 0, 6, 4, 2, 1, 0, 0, 2, 2, 1, 3]) ws (vs) := ⟨nf_in hl rfl, sgq_911 (vc_Pn_orderFromTo_0_5 (v_iv (n_v vs 11)) (v_iv (n_v vs 26)) (w_fi ws (n_v vs 0) 3) (w_fi ws (n_v vs 1) 0) (w_ei ws (w_ar ws (n_v vs 0) 2)) (w_ei ws (w_ar ws (n_v vs 1) 14)) (w_ei ws (w_ar ws (n_v vs 1) 7)) (w_ei ws (w_ar ws (n_v vs 1) 8)) (w_ei w1 (w_ar ws (n_v vs 1) 14)) (w_fi w1 (n_v vs 1) 0) (w_ei w1 (w_ar ws (n_v vs 1) 7)) (w_ei w1 (w_ar ws (n_v vs 1) 8)) (w_ei w2 (w_ar ws (n_v vs 1) 8)) (w_ei w2 (w_ar ws (n_v vs 1) 14)) (w_fi w2 (n_v vs 1) 0) (w_ei w2 (w_ar ws (n_v vs 1) 7)) (w_ei w3 (w_ar ws (n_v vs 1) 7)) (w_ei w3 (w_ar ws (n_v vs 1) 14)) (w_fi w3 (n_v vs 1) 0) (w_ei w3 (w_ar ws (n_v vs 1) 8)) (w_fi w1 (n_v vs 0) 3) (w_fi w2 (n_v vs 0) 3) (w_ei w1 (w_ar ws (n_v vs 0) 2)) k11 k26 g0 fe_1_0_1 fe_0_3_2 fe_1_0_2 fe_1_0_3 hE_0_2_1 hE_1_7_1 hE_1_7_2 hE_1_7_3 hE_1_8_1 hE_1_8_2 hE_1_8_3 hE_1_14_1 hE_1_14_2 hE_1_14_3 kz_0_3 kz_1_0)⟩
  have nf6 : fc_1 PRD (24, [0, 0], []) ws (vs) := by
    refine ⟨nf_in hl rfl, sgq_1 ?_⟩
    · show n_v vs 0 = n_v vs 0
      first | rfl | simp only [true_and]
  have nf7 : fc_1 PRD (24, [1, 1], []) ws (vs) := by
    refine ⟨nf_in hl rfl, sgq_1 ?_⟩
    · show n_v vs 1 = n_v vs 1
      first | rfl | simp only [true_and]
  refine ⟨(fun _ h => (by cases h)), [], trivial, ?_, (fun _ h => (by cases h))⟩
  rw [List.append_nil]
  exact List.forall_mem_cons.mpr ⟨⟨show (20 : Nat) < 100 from by decide, nf0⟩, List.forall_mem_cons.mpr ⟨⟨show (24 : Nat) < 100 from by decide, nf1⟩, List.forall_mem_cons.mpr ⟨⟨show (20 : Nat) < 100 from by decide, nf2⟩, List.forall_mem_cons.mpr ⟨⟨show (20 : Nat) < 100 from by decide, nf3⟩, List.forall_mem_cons.mpr ⟨⟨show (20 : Nat) < 100 from by decide, nf4⟩, List.forall_mem_cons.mpr ⟨⟨show (20 : Nat) < 100 from by decide, nf5⟩, List.forall_mem_cons.mpr ⟨⟨show (24 : Nat) < 100 from by decide, nf6⟩, List.forall_mem_cons.mpr ⟨⟨show (24 : Nat) < 100 from by decide, nf7⟩, (fun _ h => (by cases h))⟩⟩⟩⟩⟩⟩⟩⟩
set_option maxHeartbeats 4000000 in
theorem vc_Pn_orderFromTo_1_0 (near_0o1 : Int → Int) (nodes_0o1 : Int) (f1 : SYG (nodes_0o1) (near_0o1)) (kz_1_0 : 0 ≤ nodes_0o1 ∧ nodes_0o1 ≤ 24) : SYG (nodes_0o1) (near_0o1) := by
  first
    | assumption
  
set_option maxHeartbeats 4000000 in
theorem vc_Pn_orderFromTo_1_1 (x4 : Int) (x5 : Int) (x6 : Int) (nodes_0o1 : Int) (line_0 : Int → Int) (lineLength_0 : Int) (k4 : 0 ≤ x4 ∧ x4 ≤ 16777215) (k5 : 0 ≤ x5 ∧ x5 ≤ 16777215) (k6 : 24 ≤ x6 ∧ x6 ≤ 24) (f7 : OFL (lineLength_0) (line_0) (x5) (x4)) (f8 : (x6 + 2) ≤ lineLength_0) (kz_0_3 : 0 ≤ lineLength_0 ∧ lineLength_0 ≤ 24) (kz_1_0 : 0 ≤ nodes_0o1 ∧ nodes_0o1 ≤ 24) : LCV (nodes_0o1) (line_0) := by
  first
    | (exfalso; have := (‹OFL _ _ _ _›).1; omega)
    | exact lcv_of ‹OFL _ _ _ _› ‹ALC _ _› (by omega) (by omega)
  
def o_Pn_orderFromTo_1 : or_T := (188, 8, [(0, (2, 0, 0, [7])), (1, (2, 0, 0, [3])), (2, (2, 0, 0, [7])), (3, (2, 0, 0, [3])), (4, (0, 0, 16777215, [])), (5, (0, 0, 16777215, [])), (6, (0, 24, 24, [])), (7, (0, 24, 24, []))], [(7, [6, 7], [3]), (20, [3], [60, 1, 1, 637, 0, 14]), (20, [3, 5], [60, 1, 0, 638, 0]), (24, [1, 3], []), (20, [3, 4], [60, 0, 2, 903, 7, 8]), (20, [3, 5], [60, 1, 0, 904, 0]), (20, [3], [60, 1, 3, 905, 0, 14, 7, 8]), (20, [2, 5, 4], [60, 1, 1, 900, 3, 2]), (20, [6, 2], [50, 1, 0, 1003, 0, 6, 4, 2, 1, 0, 0, 2, 2, 1, 3]), (24, [0, 2], [])], [], [], [(20, [1], [60, 1, 1, 637, 0, 14]), (20, [0, 1], [60, 1, 1, 911, 1000, 2])], [], [])
theorem oo_Pn_orderFromTo_1 {kA : Nat → ClassId} : or_ok PRD kA GG o_Pn_orderFromTo_1 := by
  refine or_mk fun A ta ws vs hD hth hl => ?_
  intro t0 r0 t1 r1 t2 r2 t3 r3 t4 k4 t5 k5 t6 k6 t7 k7 f0 f1 f2 f3 f4 f5 f6 f7 f8 f9
  replace f1 := shm_1792 f1
  replace f3 := shm_5 f3
  replace f7 := shm_908 f7
  replace f8 := shm_911 f8
  replace f9 := shm_5 f9
  have q3 : n_v vs 3 = n_v vs 1 := f3.symm
  have q2 : n_v vs 2 = n_v vs 0 := f9.symm
  simp only [q3, q2] at f1 f7 f8
  have kz_0_3 := fdq_13 hD hth r0
  have kz_1_0 := fdq_21 hD hth r1
  have nf0 : fc_1 PRD (20, [1], [60, 1, 1, 637, 0, 14]) ws (vs) := ⟨nf_in hl rfl, sgq_1792 (vc_Pn_orderFromTo_1_0 (w_ei ws (w_ar ws (n_v vs 1) 14)) (w_fi ws (n_v vs 1) 0) f1 kz_1_0)⟩
  have nf1 : fc_1 PRD (20, [0, 1], [60, 1, 1, 911, 1000, 2]) ws (vs) := ⟨nf_in hl rfl, sgq_894 (vc_Pn_orderFromTo_1_1 (v_iv (n_v vs 4)) (v_iv (n_v vs 5)) (v_iv (n_v vs 6)) (w_fi ws (n_v vs 1) 0) (w_ei ws (w_ar ws (n_v vs 0) 2)) (w_fi ws (n_v vs 0) 3) k4 k5 k6 f7 f8 kz_0_3 kz_1_0)⟩
  refine ⟨(fun _ h => (by cases h)), [], trivial, ?_, (fun _ h => (by cases h))⟩
  rw [List.append_nil]
  exact List.forall_mem_cons.mpr ⟨⟨show (20 : Nat) < 100 from by decide, nf0⟩, List.forall_mem_cons.mpr ⟨⟨show (20 : Nat) < 100 from by decide, nf1⟩, (fun _ h => (by cases h))⟩⟩
set_option maxHeartbeats 4000000 in
theorem vc_Pn_orderFromTo_2_0 (near_0o1 : Int → Int) (nodes_0o1 : Int) (f2 : SYG (nodes_0o1) (near_0o1)) (kz_1_0 : 0 ≤ nodes_0o1 ∧ nodes_0o1 ≤ 24) : SYG (nodes_0o1) (near_0o1) := by
  first
    | assumption
  
set_option maxHeartbeats 4000000 in
theorem vc_Pn_orderFromTo_2_1 (x4 : Int) (x5 : Int) (nodes_0o1 : Int) (line_0 : Int → Int) (lineLength_0 : Int) (k4 : 0 ≤ x4 ∧ x4 ≤ 16777215) (k5 : 0 ≤ x5 ∧ x5 ≤ 16777215) (f0 : x4 = x5) (f6 : ALC (nodes_0o1) (x5)) (f8 : OFL (lineLength_0) (line_0) (x5) (x4)) (kz_0_3 : 0 ≤ lineLength_0 ∧ lineLength_0 ≤ 24) (kz_1_0 : 0 ≤ nodes_0o1 ∧ nodes_0o1 ≤ 24) : LCV (nodes_0o1) (line_0) := by
  first
    | (exfalso; have := (‹OFL _ _ _ _›).1; omega)
    | exact lcv_of ‹OFL _ _ _ _› ‹ALC _ _› (by omega) (by omega)
  
def o_Pn_orderFromTo_2 : or_T := (188, 8, [(0, (2, 0, 0, [7])), (1, (2, 0, 0, [3])), (2, (2, 0, 0, [7])), (3, (2, 0, 0, [3])), (4, (0, 0, 16777215, [])), (5, (0, 0, 16777215, [])), (6, (0, 0, 23, [])), (7, (0, 24, 24, []))], [(7, [4, 5], [0]), (7, [6, 7], [2]), (20, [3], [60, 1, 1, 637, 0, 14]), (20, [3, 5], [60, 1, 0, 638, 0]), (24, [1, 3], []), (20, [3, 4], [60, 0, 2, 903, 7, 8]), (20, [3, 5], [60, 1, 0, 904, 0]), (20, [3], [60, 1, 3, 905, 0, 14, 7, 8]), (20, [2, 5, 4], [60, 1, 1, 900, 3, 2]), (20, [6, 2], [50, 1, 0, 1003, 0, 6, 4, 2, 1, 0, 0, 2, 2, 1, 3]), (24, [0, 2], [])], [], [], [(20, [1], [60, 1, 1, 637, 0, 14]), (20, [0, 1], [60, 1, 1, 911, 1000, 2])], [], [(4, 5, 0, 0)])
theorem oo_Pn_orderFromTo_2 {kA : Nat → ClassId} : or_ok PRD kA GG o_Pn_orderFromTo_2 := by
  refine or_mk fun A ta ws vs hD hth hl => ?_
  intro t0 r0 t1 r1 t2 r2 t3 r3 t4 k4 t5 k5 t6 k6 t7 k7 d0 f0 f1 f2 f3 f4 f5 f6 f7 f8 f9 f10
  replace f2 := shm_1792 f2
  replace f4 := shm_5 f4
  replace f6 := shm_1796 f6
  replace f8 := shm_908 f8
  replace f10 := shm_5 f10
  have q3 : n_v vs 3 = n_v vs 1 := f4.symm
  have q2 : n_v vs 2 = n_v vs 0 := f10.symm
  simp only [q3, q2] at f2 f6 f8
  have kz_0_3 := fdq_13 hD hth r0
  have kz_1_0 := fdq_21 hD hth r1
  have nf0 : fc_1 PRD (20, [1], [60, 1, 1, 637, 0, 14]) ws (vs) := ⟨nf_in hl rfl, sgq_1792 (vc_Pn_orderFromTo_2_0 (w_ei ws (w_ar ws (n_v vs 1) 14)) (w_fi ws (n_v vs 1) 0) f2 kz_1_0)⟩
  have nf1 : fc_1 PRD (20, [0, 1], [60, 1, 1, 911, 1000, 2]) ws (vs) := ⟨nf_in hl rfl, sgq_894 (vc_Pn_orderFromTo_2_1 (v_iv (n_v vs 4)) (v_iv (n_v vs 5)) (w_fi ws (n_v vs 1) 0) (w_ei ws (w_ar ws (n_v vs 0) 2)) (w_fi ws (n_v vs 0) 3) k4 k5 (shm_37 f0) f6 f8 kz_0_3 kz_1_0)⟩
  refine ⟨(fun _ h => (by cases h)), [], trivial, ?_, (fun _ h => (by cases h))⟩
  rw [List.append_nil]
  exact List.forall_mem_cons.mpr ⟨⟨show (20 : Nat) < 100 from by decide, nf0⟩, List.forall_mem_cons.mpr ⟨⟨show (20 : Nat) < 100 from by decide, nf1⟩, (fun _ h => (by cases h))⟩⟩
set_option maxHeartbeats 4000000 in
theorem vc_Pn_orderFromTo_3_0 (x4 : Int) (x5 : Int) (nodes_0o1 : Int) (line_0 : Int → Int) (lineLength_0 : Int) (k4 : 0 ≤ x4 ∧ x4 ≤ 16777215) (k5 : 0 ≤ x5 ∧ x5 ≤ 16777215) (f0 : x4 ≠ x5) (f6 : ALC (nodes_0o1) (x5)) (f8 : OFL (lineLength_0) (line_0) (x5) (x4)) (kz_0_3 : 0 ≤ lineLength_0 ∧ lineLength_0 ≤ 24) (kz_1_0 : 0 ≤ nodes_0o1 ∧ nodes_0o1 ≤ 24) : OFN (nodes_0o1) (x4) := by
  first
    | assumption
    | exact ofn_of ‹OFL _ _ _ _› ‹ALC _ _› (by omega) (by omega) (by omega) (by omega) (by omega)
  
set_option maxHeartbeats 4000000 in
theorem vc_Pn_orderFromTo_3_1 (x4 : Int) (x5 : Int) (x8 : Int) (x9 : Int) (near_0o1 : Int → Int) (nodes_0o1 : Int) (k4 : 0 ≤ x4 ∧ x4 ≤ 16777215) (k8 : 0 ≤ x8 ∧ x8 ≤ 0) (k9 : 0 ≤ x9 ∧ x9 ≤ 0) (kz_1_0 : 0 ≤ nodes_0o1 ∧ nodes_0o1 ≤ 24) : NWA (nodes_0o1) (near_0o1) (x4) (x9) (x8) := by
  first
    | exact nwa_start (by omega)
    | (have q := bit_one (s := x4) (t := x10) (c := x12) (v := x8) (one := x11) (by assumption) (by assumption) (by omega) (by omega) (by omega) (by omega)
       exact nwa_skip ‹NWA _ _ _ _ _› (fun z => by have := q.mp z; omega) (by omega))
    | exact nwa_step2 (al := x5) ‹NWA _ _ _ _ _› (by omega) ‹SHZ _ _ _ _ _ _› (by omega) ‹ALC _ _› (by omega) (by omega) (by omega) ‹NWI _ _› ‹NWXe _ _ _› ‹NWF _ _ _› (by omega)
  
set_option maxHeartbeats 4000000 in
theorem vc_Pn_orderFromTo_3_2 (x4 : Int) (x5 : Int) (x8 : Int) (way_0 : Int → Int) (k4 : 0 ≤ x4 ∧ x4 ≤ 16777215) (k5 : 0 ≤ x5 ∧ x5 ≤ 16777215) (k8 : 0 ≤ x8 ∧ x8 ≤ 0) : EWY (way_0) (x5) (x4) (x8) := by
  first
    | assumption
    | exact Or.inl (by omega)
    | (rw [show gx = x5 by omega, show gy = x4 by omega]; assumption)
    | exact ewy_of2 ‹SHW _ _ _ _ _› ‹ALC _ _› (by omega) ‹NWF _ _ _›
  
def o_Pn_orderFromTo_3 : or_T := (77, 10, [(0, (2, 0, 0, [7])), (1, (2, 0, 0, [3])), (4, (0, 0, 16777215, [])), (5, (0, 0, 16777215, [])), (8, (0, 0, 0, [])), (9, (0, 0, 0, []))], [(7, [4, 5], [1]), (24, [1, 3], []), (20, [3, 5], [60, 1, 0, 904, 0]), (20, [2, 5, 4], [60, 1, 1, 900, 3, 2]), (24, [0, 2], [])], [], [], [(20, [3, 4], [60, 1, 0, 906, 0]), (20, [3, 4, 9, 8], [60, 1, 1, 907, 0, 14]), (20, [2, 5, 4, 8], [60, 0, 1, 908, 6])], [], [])
theorem oo_Pn_orderFromTo_3 {kA : Nat → ClassId} : or_ok PRD kA GG o_Pn_orderFromTo_3 := by
  refine or_mk fun A ta ws vs hD hth hl => ?_
  intro t0 r0 t1 r1 t4 k4 t5 k5 t8 k8 t9 k9 f0 f4 f6 f8 f10
  replace f0 := shm_40 f0
  replace f4 := shm_5 f4
  replace f6 := shm_1796 f6
  replace f8 := shm_908 f8
  replace f10 := shm_5 f10
  have q3 : n_v vs 3 = n_v vs 1 := f4.symm
  have q2 : n_v vs 2 = n_v vs 0 := f10.symm
  simp only [q3, q2] at f6 f8
  have kz_0_3 := fdq_13 hD hth r0
  have kz_1_0 := fdq_21 hD hth r1
  have nf0 : fc_1 PRD (20, [3, 4], [60, 1, 0, 906, 0]) ws (vs) := by
    refine ⟨nf_in hl rfl, sgq_1797 ?_⟩
    · show OFN (w_fi ws (n_v vs 3) 0) (v_iv (n_v vs 4))
      rw [q3]
      exact vc_Pn_orderFromTo_3_0 (v_iv (n_v vs 4)) (v_iv (n_v vs 5)) (w_fi ws (n_v vs 1) 0) (w_ei ws (w_ar ws (n_v vs 0) 2)) (w_fi ws (n_v vs 0) 3) k4 k5 f0 f6 f8 kz_0_3 kz_1_0
  have nf1 : fc_1 PRD (20, [3, 4, 9, 8], [60, 1, 1, 907, 0, 14]) ws (vs) := by
    refine ⟨nf_in hl rfl, sgq_1798 ?_⟩
    · show NWA (w_fi ws (n_v vs 3) 0) (w_ei ws (w_ar ws (n_v vs 3) 14)) (v_iv (n_v vs 4)) (v_iv (n_v vs 9)) (v_iv (n_v vs 8))
      rw [q3]
      exact vc_Pn_orderFromTo_3_1 (v_iv (n_v vs 4)) (v_iv (n_v vs 5)) (v_iv (n_v vs 8)) (v_iv (n_v vs 9)) (w_ei ws (w_ar ws (n_v vs 1) 14)) (w_fi ws (n_v vs 1) 0) k4 k8 k9 kz_1_0
  have nf2 : fc_1 PRD (20, [2, 5, 4, 8], [60, 0, 1, 908, 6]) ws (vs) := by
    refine ⟨nf_in hl rfl, sgq_1206 ?_⟩
    · show EWY (w_ei ws (w_ar ws (n_v vs 2) 6)) (v_iv (n_v vs 5)) (v_iv (n_v vs 4)) (v_iv (n_v vs 8))
      rw [q2]
      exact vc_Pn_orderFromTo_3_2 (v_iv (n_v vs 4)) (v_iv (n_v vs 5)) (v_iv (n_v vs 8)) (w_ei ws (w_ar ws (n_v vs 0) 6)) k4 k5 k8
  refine ⟨(fun _ h => (by cases h)), [], trivial, ?_, (fun _ h => (by cases h))⟩
  rw [List.append_nil]
  exact List.forall_mem_cons.mpr ⟨⟨show (20 : Nat) < 100 from by decide, nf0⟩, List.forall_mem_cons.mpr ⟨⟨show (20 : Nat) < 100 from by decide, nf1⟩, List.forall_mem_cons.mpr ⟨⟨show (20 : Nat) < 100 from by decide, nf2⟩, (fun _ h => (by cases h))⟩⟩⟩
set_option maxHeartbeats 4000000 in
theorem vc_Pn_orderFromTo_4_0 (x5 : Int) (gx : Int) (k5 : 0 ≤ x5 ∧ x5 ≤ 16777215) (ex2 : gx = x5) : 1 * gx + ((-1) * x5 + 0) ≤ 0 := by
  first
    | omega
    | exact ear_use (len := 0) (ln_zq := fun z => z) ‹EAR _ _ _ _› ‹OFT _ _ _› ‹OFN _ _› ‹NWA _ _ _ _ _› ‹EWY _ _ _ _› (by first | exact Or.inl (by omega) | exact Or.inr (by omega)) rfl rfl
  
set_option maxHeartbeats 4000000 in
theorem vc_Pn_orderFromTo_4_1 (x5 : Int) (gx : Int) (k5 : 0 ≤ x5 ∧ x5 ≤ 16777215) (ex2 : gx = x5) : (-1) * gx + (1 * x5 + 0) ≤ 0 := by
  first
    | omega
    | exact ear_use (len := 0) (ln_zq := fun z => z) ‹EAR _ _ _ _› ‹OFT _ _ _› ‹OFN _ _› ‹NWA _ _ _ _ _› ‹EWY _ _ _ _› (by first | exact Or.inl (by omega) | exact Or.inr (by omega)) rfl rfl
  
set_option maxHeartbeats 4000000 in
theorem vc_Pn_orderFromTo_4_2 (x4 : Int) (gy : Int) (k4 : 0 ≤ x4 ∧ x4 ≤ 16777215) (ey2 : gy = x4) : 1 * gy + ((-1) * x4 + 0) ≤ 0 := by
  first
    | omega
    | exact ear_use (len := 0) (ln_zq := fun z => z) ‹EAR _ _ _ _› ‹OFT _ _ _› ‹OFN _ _› ‹NWA _ _ _ _ _› ‹EWY _ _ _ _› (by first | exact Or.inl (by omega) | exact Or.inr (by omega)) rfl rfl
  
set_option maxHeartbeats 4000000 in
theorem vc_Pn_orderFromTo_4_3 (x4 : Int) (gy : Int) (k4 : 0 ≤ x4 ∧ x4 ≤ 16777215) (ey2 : gy = x4) : (-1) * gy + (1 * x4 + 0) ≤ 0 := by
  first
    | omega
    | exact ear_use (len := 0) (ln_zq := fun z => z) ‹EAR _ _ _ _› ‹OFT _ _ _› ‹OFN _ _› ‹NWA _ _ _ _ _› ‹EWY _ _ _ _› (by first | exact Or.inl (by omega) | exact Or.inr (by omega)) rfl rfl
  
set_option maxHeartbeats 4000000 in
theorem vc_Pn_orderFromTo_4_4 (x6 : Int) (gu : Int) (k6 : 0 ≤ x6 ∧ x6 ≤ 23) (eu2 : gu = x6) : 1 * gu + ((-1) * x6 + 0) ≤ 0 := by
  first
    | omega
    | exact ear_use (len := 0) (ln_zq := fun z => z) ‹EAR _ _ _ _› ‹OFT _ _ _› ‹OFN _ _› ‹NWA _ _ _ _ _› ‹EWY _ _ _ _› (by first | exact Or.inl (by omega) | exact Or.inr (by omega)) rfl rfl
  
set_option maxHeartbeats 4000000 in
theorem vc_Pn_orderFromTo_4_5 (x6 : Int) (gu : Int) (k6 : 0 ≤ x6 ∧ x6 ≤ 23) (eu2 : gu = x6) : (-1) * gu + (1 * x6 + 0) ≤ 0 := by
  first
    | omega
    | exact ear_use (len := 0) (ln_zq := fun z => z) ‹EAR _ _ _ _› ‹OFT _ _ _› ‹OFN _ _› ‹NWA _ _ _ _ _› ‹EWY _ _ _ _› (by first | exact Or.inl (by omega) | exact Or.inr (by omega)) rfl rfl
  
set_option maxHeartbeats 4000000 in
theorem vc_Pn_orderFromTo_4_6 (x4 : Int) (x5 : Int) (x6 : Int) (x9 : Int) (nodes_0o1 : Int) (tail_0o1 : Int → Int) (head_0o1 : Int → Int) (line_0 : Int → Int) (lineLength_0 : Int) (gx : Int) (gy : Int) (k4 : 0 ≤ x4 ∧ x4 ≤ 16777215) (k5 : 0 ≤ x5 ∧ x5 ≤ 16777215) (f8 : OFL (lineLength_0) (line_0) (x5) (x4)) (kz_0_3 : 0 ≤ lineLength_0 ∧ lineLength_0 ≤ 24) (ex2 : gx = x5) (ey2 : gy = x4) : OFL (lineLength_0) (line_0) (gx) (gy) := by
  first
    | assumption
    | (rw [show gx = x5 by omega, show gy = x4 by omega]; assumption)
    | exact ofl_of ‹OFQ _ _ _ _ _› (by omega)
    | (have ha : ALC nodes_0o1 x25 := by rw [← ‹x22 = nodes_0o1›]; exact alc_of (p := x23) ‹bvp x23 = _› (by omega) (by assumption) (by omega) (by omega) (by omega) (by omega) (by omega)
       have e1 : line_0 0 = tail_0o1 0 := by rw [(hE_0_2_2 0 (by omega)).2 (by omega), (hE_0_2_3 0 (by omega)).1 (by omega), (by assumption : x6 = tail_0o1 x5), show x5 = 0 by omega]
       have e2 : line_0 1 = head_0o1 0 := by rw [(hE_0_2_2 1 (by omega)).1 (by omega), (by assumption : x10 = head_0o1 x9), show x9 = 0 by omega]
       exact (ofs_both (a := x14) (b := x18) (o1 := x12) (o2 := x16) (p := x15) (q := x19) ‹EAR _ _ _ _› (by omega) ha e1 e2 (by rw [show (0 : Int) = x13 by omega]; assumption) (by rw [show (1 : Int) = x17 by omega]; assumption) (by omega) (by omega) (by assumption) (by assumption) (by assumption) (by omega)).1)
  
set_option maxHeartbeats 4000000 in
theorem vc_Pn_orderFromTo_4_7 (x4 : Int) (x5 : Int) (x7 : Int) (way_0 : Int → Int) (gx : Int) (gy : Int) (k4 : 0 ≤ x4 ∧ x4 ≤ 16777215) (k5 : 0 ≤ x5 ∧ x5 ≤ 16777215) (k7 : 0 ≤ x7 ∧ x7 ≤ 25) (f12 : EWY (way_0) (x5) (x4) (x7)) (ex2 : gx = x5) (ey2 : gy = x4) : EWY (way_0) (gx) (gy) (x7) := by
  first
    | assumption
    | exact Or.inl (by omega)
    | (rw [show gx = x5 by omega, show gy = x4 by omega]; assumption)
    | exact ewy_of2 ‹SHW _ _ _ _ _› ‹ALC _ _› (by omega) ‹NWF _ _ _›
  
set_option maxHeartbeats 4000000 in
theorem vc_Pn_orderFromTo_4_8 (x4 : Int) (x5 : Int) (x7 : Int) (x8 : Int) (x9 : Int) (nodes_0o1 : Int) (near_0o1 : Int → Int) (tail_0o1 : Int → Int) (head_0o1 : Int → Int) (way_0 : Int → Int) (k4 : 0 ≤ x4 ∧ x4 ≤ 16777215) (k5 : 0 ≤ x5 ∧ x5 ≤ 16777215) (k7 : 0 ≤ x7 ∧ x7 ≤ 25) (k8 : 0 ≤ x8 ∧ x8 ≤ 24) (k9 : 0 ≤ x9 ∧ x9 ≤ 24) (d0 : x9 + 0 ≤ x8 ∧ x8 ≤ x9 + 4294967296) (g1 : x9 = nodes_0o1) (f5 : OFT (tail_0o1) (head_0o1) (x4)) (f7 : EAR (nodes_0o1) (near_0o1) (tail_0o1) (head_0o1)) (f10 : OFN (nodes_0o1) (x4)) (f11 : NWA (nodes_0o1) (near_0o1) (x4) (x8) (x7)) (f12 : EWY (way_0) (x5) (x4) (x7)) (kz_1_0 : 0 ≤ nodes_0o1 ∧ nodes_0o1 ≤ 24) : 3 ≤ x7 := by
  first
    | omega
    | exact ear_use (len := 0) (ln_zq := fun z => z) ‹EAR _ _ _ _› ‹OFT _ _ _› ‹OFN _ _› ‹NWA _ _ _ _ _› ‹EWY _ _ _ _› (by first | exact Or.inl (by omega) | exact Or.inr (by omega)) rfl rfl
  
set_option maxHeartbeats 4000000 in
theorem vc_Pn_orderFromTo_4_9 (x6 : Int) (lineLength_0 : Int) (gu : Int) (k6 : 0 ≤ x6 ∧ x6 ≤ 23) (f9 : (x6 + 2) ≤ lineLength_0) (kz_0_3 : 0 ≤ lineLength_0 ∧ lineLength_0 ≤ 24) (eu2 : gu = x6) : (gu + 2) ≤ lineLength_0 := by
  first
    | omega
    | exact ear_use (len := 0) (ln_zq := fun z => z) ‹EAR _ _ _ _› ‹OFT _ _ _› ‹OFN _ _› ‹NWA _ _ _ _ _› ‹EWY _ _ _ _› (by first | exact Or.inl (by omega) | exact Or.inr (by omega)) rfl rfl
  
def o_Pn_orderFromTo_4 : or_T := (149, 10, [(0, (2, 0, 0, [7])), (1, (2, 0, 0, [3])), (2, (2, 0, 0, [7])), (3, (2, 0, 0, [3])), (4, (0, 0, 16777215, [])), (5, (0, 0, 16777215, [])), (6, (0, 0, 23, [])), (7, (0, 0, 25, [])), (8, (0, 0, 24, [])), (9, (0, 0, 24, []))], [(7, [8, 9], [3]), (9, [9, 3], [0]), (20, [3], [60, 1, 1, 637, 0, 14]), (20, [3, 5], [60, 1, 0, 638, 0]), (24, [1, 3], []), (20, [3, 4], [60, 0, 2, 903, 7, 8]), (20, [3, 5], [60, 1, 0, 904, 0]), (20, [3], [60, 1, 3, 905, 0, 14, 7, 8]), (20, [2, 5, 4], [60, 1, 1, 900, 3, 2]), (20, [6, 2], [50, 1, 0, 1003, 0, 6, 4, 2, 1, 0, 0, 2, 2, 1, 3]), (20, [3, 4], [60, 1, 0, 906, 0]), (20, [3, 4, 8, 7], [60, 1, 1, 907, 0, 14]), (20, [2, 5, 4, 7], [60, 0, 1, 908, 6]), (24, [0, 2], [])], [], [(0, -2147483648, 2147483647, []), (0, -2147483648, 2147483647, []), (0, 0, 24, [])], [(23, [10, 5], [0, 1, -1]), (23, [10, 5], [0, -1, 1]), (23, [11, 4], [0, 1, -1]), (23, [11, 4], [0, -1, 1]), (23, [12, 6], [0, 1, -1]), (23, [12, 6], [0, -1, 1]), (20, [2, 10, 11], [60, 1, 1, 900, 3, 2]), (20, [2, 10, 11, 7], [60, 0, 1, 908, 6]), (20, [7], [50, 0, 0, 0, 2, 0, 3, 1, 0]), (20, [12, 2], [50, 1, 0, 1003, 0, 6, 4, 2, 1, 0, 0, 2, 2, 1, 3])], [], [(8, 9, 0, 4294967296), (7, 8, -4294967296, 24)])
theorem oo_Pn_orderFromTo_4 {kA : Nat → ClassId} : or_ok PRD kA GG o_Pn_orderFromTo_4 := by
  refine or_mk fun A ta ws vs hD hth hl => ?_
  intro t0 r0 t1 r1 t2 r2 t3 r3 t4 k4 t5 k5 t6 k6 t7 k7 t8 k8 t9 k9 d0 d1 f0 f1 f2 f3 f4 f5 f6 f7 f8 f9 f10 f11 f12 f13
  replace f1 := shm_163 f1
  replace f4 := shm_5 f4
  replace f5 := shm_1795 f5
  replace f7 := shm_1793 f7
  replace f8 := shm_908 f8
  replace f9 := shm_911 f9
  replace f10 := shm_1797 f10
  replace f11 := shm_1798 f11
  replace f12 := shm_1206 f12
  replace f13 := shm_5 f13
  have q3 : n_v vs 3 = n_v vs 1 := f4.symm
  have q2 : n_v vs 2 = n_v vs 0 := f13.symm
  simp only [q3, q2] at f1 f5 f7 f8 f9 f10 f11 f12
  have g1 : v_iv (n_v vs 9) = w_fi ws (n_v vs 1) 0 := congrArg v_iv f1
  have kz_0_3 := fdq_13 hD hth r0
  have kz_1_0 := fdq_21 hD hth r1
  obtain ⟨x, ex, hx⟩ := iv_ex (ta := ta) (lo := (-2147483648)) (hi := 2147483647) (z := v_iv (n_v vs 5)) (by omega) (by omega) (by omega) (by omega)
  have ex2 : v_iv (Value.int x) = v_iv (n_v vs 5) := ex
  have ex3 : (-2147483648) ≤ v_iv (Value.int x) ∧ v_iv (Value.int x) ≤ 2147483647 := tv_rng hx
  obtain ⟨y, ey, hy⟩ := iv_ex (ta := ta) (lo := (-2147483648)) (hi := 2147483647) (z := v_iv (n_v vs 4)) (by omega) (by omega) (by omega) (by omega)
  have ey2 : v_iv (Value.int y) = v_iv (n_v vs 4) := ey
  have ey3 : (-2147483648) ≤ v_iv (Value.int y) ∧ v_iv (Value.int y) ≤ 2147483647 := tv_rng hy
  obtain ⟨u, eu, hu⟩ := iv_ex (ta := ta) (lo := 0) (hi := 24) (z := v_iv (n_v vs 6)) (by omega) (by omega) (by omega) (by omega)
  have eu2 : v_iv (Value.int u) = v_iv (n_v vs 6) := eu
  have eu3 : 0 ≤ v_iv (Value.int u) ∧ v_iv (Value.int u) ≤ 24 := tv_rng hu
  have e_2 : n_v (vs ++ [Value.int x, Value.int y, Value.int u]) 2 = n_v vs 2 := n_v_old (by rw [hl]; decide)
  have e_4 : n_v (vs ++ [Value.int x, Value.int y, Value.int u]) 4 = n_v vs 4 := n_v_old (by rw [hl]; decide)
  have e_5 : n_v (vs ++ [Value.int x, Value.int y, Value.int u]) 5 = n_v vs 5 := n_v_old (by rw [hl]; decide)
  have e_6 : n_v (vs ++ [Value.int x, Value.int y, Value.int u]) 6 = n_v vs 6 := n_v_old (by rw [hl]; decide)
  have e_7 : n_v (vs ++ [Value.int x, Value.int y, Value.int u]) 7 = n_v vs 7 := n_v_old (by rw [hl]; decide)
  have e_10 : n_v (vs ++ [Value.int x, Value.int y, Value.int u]) 10 = Value.int x := n_v_newk (k := 0) hl rfl
  have e_11 : n_v (vs ++ [Value.int x, Value.int y, Value.int u]) 11 = Value.int y := n_v_newk (k := 1) hl rfl
  have e_12 : n_v (vs ++ [Value.int x, Value.int y, Value.int u]) 12 = Value.int u := n_v_newk (k := 2) hl rfl
  have nf0 : fc_1 PRD (23, [10, 5], [0, 1, -1]) ws (vs ++ [Value.int x, Value.int y, Value.int u]) := by
    refine ⟨nf_inA hl rfl, sgq_7 ?_⟩
    · show 1 * v_iv (n_v (vs ++ [Value.int x, Value.int y, Value.int u]) 10) + ((-1) * v_iv (n_v (vs ++ [Value.int x, Value.int y, Value.int u]) 5) + 0) ≤ 0
      simp only [e_5, e_10]
      exact vc_Pn_orderFromTo_4_0 (v_iv (n_v vs 5)) (v_iv (Value.int x)) k5 ex2
  have nf1 : fc_1 PRD (23, [10, 5], [0, -1, 1]) ws (vs ++ [Value.int x, Value.int y, Value.int u]) := by
    refine ⟨nf_inA hl rfl, sgq_22 ?_⟩
    · show (-1) * v_iv (n_v (vs ++ [Value.int x, Value.int y, Value.int u]) 10) + (1 * v_iv (n_v (vs ++ [Value.int x, Value.int y, Value.int u]) 5) + 0) ≤ 0
      simp only [e_5, e_10]
      exact vc_Pn_orderFromTo_4_1 (v_iv (n_v vs 5)) (v_iv (Value.int x)) k5 ex2
  have nf2 : fc_1 PRD (23, [11, 4], [0, 1, -1]) ws (vs ++ [Value.int x, Value.int y, Value.int u]) := by
    refine ⟨nf_inA hl rfl, sgq_7 ?_⟩
    · show 1 * v_iv (n_v (vs ++ [Value.int x, Value.int y, Value.int u]) 11) + ((-1) * v_iv (n_v (vs ++ [Value.int x, Value.int y, Value.int u]) 4) + 0) ≤ 0
      simp only [e_4, e_11]
      exact vc_Pn_orderFromTo_4_2 (v_iv (n_v vs 4)) (v_iv (Value.int y)) k4 ey2
  have nf3 : fc_1 PRD (23, [11, 4], [0, -1, 1]) ws (vs ++ [Value.int x, Value.int y, Value.int u]) := by
    refine ⟨nf_inA hl rfl, sgq_22 ?_⟩
    · show (-1) * v_iv (n_v (vs ++ [Value.int x, Value.int y, Value.int u]) 11) + (1 * v_iv (n_v (vs ++ [Value.int x, Value.int y, Value.int u]) 4) + 0) ≤ 0
      simp only [e_4, e_11]
      exact vc_Pn_orderFromTo_4_3 (v_iv (n_v vs 4)) (v_iv (Value.int y)) k4 ey2
  have nf4 : fc_1 PRD (23, [12, 6], [0, 1, -1]) ws (vs ++ [Value.int x, Value.int y, Value.int u]) := by
    refine ⟨nf_inA hl rfl, sgq_7 ?_⟩
    · show 1 * v_iv (n_v (vs ++ [Value.int x, Value.int y, Value.int u]) 12) + ((-1) * v_iv (n_v (vs ++ [Value.int x, Value.int y, Value.int u]) 6) + 0) ≤ 0
      simp only [e_6, e_12]
      exact vc_Pn_orderFromTo_4_4 (v_iv (n_v vs 6)) (v_iv (Value.int u)) k6 eu2
  have nf5 : fc_1 PRD (23, [12, 6], [0, -1, 1]) ws (vs ++ [Value.int x, Value.int y, Value.int u]) := by
    refine ⟨nf_inA hl rfl, sgq_22 ?_⟩
    · show (-1) * v_iv (n_v (vs ++ [Value.int x, Value.int y, Value.int u]) 12) + (1 * v_iv (n_v (vs ++ [Value.int x, Value.int y, Value.int u]) 6) + 0) ≤ 0
      simp only [e_6, e_12]
      exact vc_Pn_orderFromTo_4_5 (v_iv (n_v vs 6)) (v_iv (Value.int u)) k6 eu2
  have nf6 : fc_1 PRD (20, [2, 10, 11], [60, 1, 1, 900, 3, 2]) ws (vs ++ [Value.int x, Value.int y, Value.int u]) := by
    refine ⟨nf_inA hl rfl, sgq_908 ?_⟩
    · show OFL (w_fi ws (n_v (vs ++ [Value.int x, Value.int y, Value.int u]) 2) 3) (w_ei ws (w_ar ws (n_v (vs ++ [Value.int x, Value.int y, Value.int u]) 2) 2)) (v_iv (n_v (vs ++ [Value.int x, Value.int y, Value.int u]) 10)) (v_iv (n_v (vs ++ [Value.int x, Value.int y, Value.int u]) 11))
      simp only [e_2, e_10, e_11, q2]
      exact vc_Pn_orderFromTo_4_6 (v_iv (n_v vs 4)) (v_iv (n_v vs 5)) (v_iv (n_v vs 6)) (v_iv (n_v vs 9)) (w_fi ws (n_v vs 1) 0) (w_ei ws (w_ar ws (n_v vs 1) 7)) (w_ei ws (w_ar ws (n_v vs 1) 8)) (w_ei ws (w_ar ws (n_v vs 0) 2)) (w_fi ws (n_v vs 0) 3) (v_iv (Value.int x)) (v_iv (Value.int y)) k4 k5 f8 kz_0_3 ex2 ey2
  have nf7 : fc_1 PRD (20, [2, 10, 11, 7], [60, 0, 1, 908, 6]) ws (vs ++ [Value.int x, Value.int y, Value.int u]) := by
    refine ⟨nf_inA hl rfl, sgq_1206 ?_⟩
    · show EWY (w_ei ws (w_ar ws (n_v (vs ++ [Value.int x, Value.int y, Value.int u]) 2) 6)) (v_iv (n_v (vs ++ [Value.int x, Value.int y, Value.int u]) 10)) (v_iv (n_v (vs ++ [Value.int x, Value.int y, Value.int u]) 11)) (v_iv (n_v (vs ++ [Value.int x, Value.int y, Value.int u]) 7))
      simp only [e_2, e_7, e_10, e_11, q2]
      exact vc_Pn_orderFromTo_4_7 (v_iv (n_v vs 4)) (v_iv (n_v vs 5)) (v_iv (n_v vs 7)) (w_ei ws (w_ar ws (n_v vs 0) 6)) (v_iv (Value.int x)) (v_iv (Value.int y)) k4 k5 k7 f12 ex2 ey2
  have nf8 : fc_1 PRD (20, [7], [50, 0, 0, 0, 2, 0, 3, 1, 0]) ws (vs ++ [Value.int x, Value.int y, Value.int u]) := by
    refine ⟨nf_inA hl rfl, sgq_1207 ?_⟩
    · show 3 ≤ v_iv (n_v (vs ++ [Value.int x, Value.int y, Value.int u]) 7)
      rw [e_7]
      exact vc_Pn_orderFromTo_4_8 (v_iv (n_v vs 4)) (v_iv (n_v vs 5)) (v_iv (n_v vs 7)) (v_iv (n_v vs 8)) (v_iv (n_v vs 9)) (w_fi ws (n_v vs 1) 0) (w_ei ws (w_ar ws (n_v vs 1) 14)) (w_ei ws (w_ar ws (n_v vs 1) 7)) (w_ei ws (w_ar ws (n_v vs 1) 8)) (w_ei ws (w_ar ws (n_v vs 0) 6)) k4 k5 k7 k8 k9 d0 g1 f5 f7 f10 f11 f12 kz_1_0
  have nf9 : fc_1 PRD (20, [12, 2], [50, 1, 0, 1003, 0, 6, 4, 2, 1, 0, 0, 2, 2, 1, 3]) ws (vs ++ [Value.int x, Value.int y, Value.int u]) := by
    refine ⟨nf_inA hl rfl, sgq_911 ?_⟩
    · show (v_iv (n_v (vs ++ [Value.int x, Value.int y, Value.int u]) 12) + 2) ≤ w_fi ws (n_v (vs ++ [Value.int x, Value.int y, Value.int u]) 2) 3
      simp only [e_2, e_12, q2]
      exact vc_Pn_orderFromTo_4_9 (v_iv (n_v vs 6)) (w_fi ws (n_v vs 0) 3) (v_iv (Value.int u)) k6 f9 kz_0_3 eu2
  exact ⟨(fun _ h => (by cases h)), [Value.int x, Value.int y, Value.int u], ag_three hx hy hu, List.forall_mem_cons.mpr ⟨⟨show (23 : Nat) < 100 from by decide, nf0⟩, List.forall_mem_cons.mpr ⟨⟨show (23 : Nat) < 100 from by decide, nf1⟩, List.forall_mem_cons.mpr ⟨⟨show (23 : Nat) < 100 from by decide, nf2⟩, List.forall_mem_cons.mpr ⟨⟨show (23 : Nat) < 100 from by decide, nf3⟩, List.forall_mem_cons.mpr ⟨⟨show (23 : Nat) < 100 from by decide, nf4⟩, List.forall_mem_cons.mpr ⟨⟨show (23 : Nat) < 100 from by decide, nf5⟩, List.forall_mem_cons.mpr ⟨⟨show (20 : Nat) < 100 from by decide, nf6⟩, List.forall_mem_cons.mpr ⟨⟨show (20 : Nat) < 100 from by decide, nf7⟩, List.forall_mem_cons.mpr ⟨⟨show (20 : Nat) < 100 from by decide, nf8⟩, List.forall_mem_cons.mpr ⟨⟨show (20 : Nat) < 100 from by decide, nf9⟩, (fun _ h => (by cases h))⟩⟩⟩⟩⟩⟩⟩⟩⟩⟩, (fun _ h => (by cases h))⟩
set_option maxHeartbeats 4000000 in
theorem vc_Pn_orderFromTo_5_0 (x4 : Int) (x5 : Int) (x10 : Int) (x11 : Int) (x12 : Int) (x13 : Int) (line_0 : Int → Int) (lineLength_0 : Int) (k4 : 0 ≤ x4 ∧ x4 ≤ 16777215) (k5 : 0 ≤ x5 ∧ x5 ≤ 16777215) (k10 : (-2147483648) ≤ x10 ∧ x10 ≤ 2147483647) (k11 : (-2147483648) ≤ x11 ∧ x11 ≤ 2147483647) (k13 : 0 ≤ x13 ∧ x13 ≤ 0) (f1 : 1 * x10 + ((-1) * x5 + 0) ≤ 0) (f2 : (-1) * x10 + (1 * x5 + 0) ≤ 0) (f3 : 1 * x11 + ((-1) * x4 + 0) ≤ 0) (f4 : (-1) * x11 + (1 * x4 + 0) ≤ 0) (f17 : OFP (lineLength_0) (line_0) (x10) (x11)) (kz_0_3 : 0 ≤ lineLength_0 ∧ lineLength_0 ≤ 24) : OFQ (lineLength_0) (line_0) (x5) (x4) (x13) := by
  first
    | (have h := (‹OFP _ _ _ _›); rw [show x10 = x5 by omega, show x11 = x4 by omega] at h; exact ofq_start h (by omega))
    | exact ofq_step (v := x12) (one := x10) (q := x13) ‹OFQ _ _ _ _ _› (by omega) (by assumption) (by omega) (by assumption) (by assumption) (by omega)
  
set_option maxHeartbeats 4000000 in
theorem vc_Pn_orderFromTo_5_1 (x6 : Int) (x12 : Int) (lineLength_0 : Int) (k6 : 0 ≤ x6 ∧ x6 ≤ 23) (k12 : 0 ≤ x12 ∧ x12 ≤ 24) (f5 : 1 * x12 + ((-1) * x6 + 0) ≤ 0) (f6 : (-1) * x12 + (1 * x6 + 0) ≤ 0) (f18 : (x12 + 3) ≤ lineLength_0) (kz_0_3 : 0 ≤ lineLength_0 ∧ lineLength_0 ≤ 24) : (x6 + 3) ≤ lineLength_0 := by
  first
    | omega
    | exact ear_use (len := 0) (ln_zq := fun z => z) ‹EAR _ _ _ _› ‹OFT _ _ _› ‹OFN _ _› ‹NWA _ _ _ _ _› ‹EWY _ _ _ _› (by first | exact Or.inl (by omega) | exact Or.inr (by omega)) rfl rfl
  
def o_Pn_orderFromTo_5 : or_T := (155, 14, [(0, (2, 0, 0, [7])), (1, (2, 0, 0, [3])), (2, (2, 0, 0, [7])), (3, (2, 0, 0, [3])), (4, (0, 0, 16777215, [])), (5, (0, 0, 16777215, [])), (6, (0, 0, 23, [])), (7, (0, 0, 25, [])), (8, (0, 0, 24, [])), (9, (0, 0, 24, [])), (10, (0, -2147483648, 2147483647, [])), (11, (0, -2147483648, 2147483647, [])), (12, (0, 0, 24, [])), (13, (0, 0, 0, []))], [(9, [9, 3], [0]), (23, [10, 5], [0, 1, -1]), (23, [10, 5], [0, -1, 1]), (23, [11, 4], [0, 1, -1]), (23, [11, 4], [0, -1, 1]), (23, [12, 6], [0, 1, -1]), (23, [12, 6], [0, -1, 1]), (20, [7], [50, 0, 0, 0, 2, 0, 3, 1, 0]), (20, [3], [60, 1, 1, 637, 0, 14]), (20, [3, 5], [60, 1, 0, 638, 0]), (24, [1, 3], []), (20, [3, 4], [60, 0, 2, 903, 7, 8]), (20, [3, 5], [60, 1, 0, 904, 0]), (20, [3], [60, 1, 3, 905, 0, 14, 7, 8]), (20, [3, 4], [60, 1, 0, 906, 0]), (20, [3, 4, 8, 7], [60, 1, 1, 907, 0, 14]), (24, [0, 2], []), (20, [2, 10, 11], [60, 1, 1, 901, 3, 2]), (20, [12, 2], [50, 1, 0, 1003, 0, 6, 4, 2, 1, 0, 0, 3, 2, 1, 3]), (102, [12], [131835662423735857755657133359104, 7003]), (23, [10, 5], [0, 1, -1]), (23, [10, 5], [0, -1, 1]), (23, [11, 4], [0, 1, -1]), (23, [11, 4], [0, -1, 1]), (23, [12, 6], [0, 1, -1]), (23, [12, 6], [0, -1, 1]), (7, [8, 9], [3])], [], [], [(20, [2, 5, 4, 13], [60, 1, 1, 902, 3, 2]), (20, [6, 2], [50, 1, 0, 1003, 0, 6, 4, 2, 1, 0, 0, 3, 2, 1, 3])], [], [(8, 9, 0, 4294967296), (7, 8, -4294967296, 24)])
theorem oo_Pn_orderFromTo_5 {kA : Nat → ClassId} : or_ok PRD kA GG o_Pn_orderFromTo_5 := by
  refine or_mk fun A ta ws vs hD hth hl => ?_
  intro t0 r0 t1 r1 t2 r2 t3 r3 t4 k4 t5 k5 t6 k6 t7 k7 t8 k8 t9 k9 t10 k10 t11 k11 t12 k12 t13 k13 d0 d1 f0 f1 f2 f3 f4 f5 f6 f7 f8 f9 f10 f11 f12 f13 f14 f15 f16 f17 f18 ta1 w1 le1 s1 f20 f21 f22 f23 f24 f25 f26
  replace f1 := shm_7 f1
  replace f2 := shm_22 f2
  replace f3 := shm_7 f3
  replace f4 := shm_22 f4
  replace f5 := shm_7 f5
  replace f6 := shm_22 f6
  replace f16 := shm_5 f16
  replace f17 := shm_912 f17
  replace f18 := shm_913 f18
  have q2 : n_v vs 2 = n_v vs 0 := f16.symm
  simp only [q2] at f17 f18
  have kz_0_3 := fdq_13 hD hth r0
  have nf0 : fc_1 PRD (20, [2, 5, 4, 13], [60, 1, 1, 902, 3, 2]) ws (vs) := by
    refine ⟨nf_in hl rfl, sgq_1799 ?_⟩
    · show OFQ (w_fi ws (n_v vs 2) 3) (w_ei ws (w_ar ws (n_v vs 2) 2)) (v_iv (n_v vs 5)) (v_iv (n_v vs 4)) (v_iv (n_v vs 13))
      rw [q2]
      exact vc_Pn_orderFromTo_5_0 (v_iv (n_v vs 4)) (v_iv (n_v vs 5)) (v_iv (n_v vs 10)) (v_iv (n_v vs 11)) (v_iv (n_v vs 12)) (v_iv (n_v vs 13)) (w_ei ws (w_ar ws (n_v vs 0) 2)) (w_fi ws (n_v vs 0) 3) k4 k5 k10 k11 k13 f1 f2 f3 f4 f17 kz_0_3
  have nf1 : fc_1 PRD (20, [6, 2], [50, 1, 0, 1003, 0, 6, 4, 2, 1, 0, 0, 3, 2, 1, 3]) ws (vs) := by
    refine ⟨nf_in hl rfl, sgq_913 ?_⟩
    · show (v_iv (n_v vs 6) + 3) ≤ w_fi ws (n_v vs 2) 3
      rw [q2]
      exact vc_Pn_orderFromTo_5_1 (v_iv (n_v vs 6)) (v_iv (n_v vs 12)) (w_fi ws (n_v vs 0) 3) k6 k12 f5 f6 f18 kz_0_3
  refine ⟨(fun _ h => (by cases h)), [], trivial, ?_, (fun _ h => (by cases h))⟩
  rw [List.append_nil]
  exact List.forall_mem_cons.mpr ⟨⟨show (20 : Nat) < 100 from by decide, nf0⟩, List.forall_mem_cons.mpr ⟨⟨show (20 : Nat) < 100 from by decide, nf1⟩, (fun _ h => (by cases h))⟩⟩
set_option maxHeartbeats 4000000 in
theorem vc_Pn_orderFromTo_6_0 (x5 : Int) (gx : Int) (k5 : 0 ≤ x5 ∧ x5 ≤ 16777215) (ex2 : gx = x5) : 1 * gx + ((-1) * x5 + 0) ≤ 0 := by
  first
    | omega
    | exact ear_use (len := 0) (ln_zq := fun z => z) ‹EAR _ _ _ _› ‹OFT _ _ _› ‹OFN _ _› ‹NWA _ _ _ _ _› ‹EWY _ _ _ _› (by first | exact Or.inl (by omega) | exact Or.inr (by omega)) rfl rfl
  
set_option maxHeartbeats 4000000 in
theorem vc_Pn_orderFromTo_6_1 (x5 : Int) (gx : Int) (k5 : 0 ≤ x5 ∧ x5 ≤ 16777215) (ex2 : gx = x5) : (-1) * gx + (1 * x5 + 0) ≤ 0 := by
  first
    | omega
    | exact ear_use (len := 0) (ln_zq := fun z => z) ‹EAR _ _ _ _› ‹OFT _ _ _› ‹OFN _ _› ‹NWA _ _ _ _ _› ‹EWY _ _ _ _› (by first | exact Or.inl (by omega) | exact Or.inr (by omega)) rfl rfl
  
set_option maxHeartbeats 4000000 in
theorem vc_Pn_orderFromTo_6_2 (x4 : Int) (gy : Int) (k4 : 0 ≤ x4 ∧ x4 ≤ 16777215) (ey2 : gy = x4) : 1 * gy + ((-1) * x4 + 0) ≤ 0 := by
  first
    | omega
    | exact ear_use (len := 0) (ln_zq := fun z => z) ‹EAR _ _ _ _› ‹OFT _ _ _› ‹OFN _ _› ‹NWA _ _ _ _ _› ‹EWY _ _ _ _› (by first | exact Or.inl (by omega) | exact Or.inr (by omega)) rfl rfl
  
set_option maxHeartbeats 4000000 in
theorem vc_Pn_orderFromTo_6_3 (x4 : Int) (gy : Int) (k4 : 0 ≤ x4 ∧ x4 ≤ 16777215) (ey2 : gy = x4) : (-1) * gy + (1 * x4 + 0) ≤ 0 := by
  first
    | omega
    | exact ear_use (len := 0) (ln_zq := fun z => z) ‹EAR _ _ _ _› ‹OFT _ _ _› ‹OFN _ _› ‹NWA _ _ _ _ _› ‹EWY _ _ _ _› (by first | exact Or.inl (by omega) | exact Or.inr (by omega)) rfl rfl
  
set_option maxHeartbeats 4000000 in
theorem vc_Pn_orderFromTo_6_4 (x6 : Int) (gu : Int) (k6 : 0 ≤ x6 ∧ x6 ≤ 23) (eu2 : gu = x6) : 1 * gu + ((-1) * x6 + 0) ≤ 0 := by
  first
    | omega
    | exact ear_use (len := 0) (ln_zq := fun z => z) ‹EAR _ _ _ _› ‹OFT _ _ _› ‹OFN _ _› ‹NWA _ _ _ _ _› ‹EWY _ _ _ _› (by first | exact Or.inl (by omega) | exact Or.inr (by omega)) rfl rfl
  
set_option maxHeartbeats 4000000 in
theorem vc_Pn_orderFromTo_6_5 (x6 : Int) (gu : Int) (k6 : 0 ≤ x6 ∧ x6 ≤ 23) (eu2 : gu = x6) : (-1) * gu + (1 * x6 + 0) ≤ 0 := by
  first
    | omega
    | exact ear_use (len := 0) (ln_zq := fun z => z) ‹EAR _ _ _ _› ‹OFT _ _ _› ‹OFN _ _› ‹NWA _ _ _ _ _› ‹EWY _ _ _ _› (by first | exact Or.inl (by omega) | exact Or.inr (by omega)) rfl rfl
  
set_option maxHeartbeats 4000000 in
theorem vc_Pn_orderFromTo_6_6 (x4 : Int) (x5 : Int) (x6 : Int) (x9 : Int) (nodes_0o1 : Int) (tail_0o1 : Int → Int) (head_0o1 : Int → Int) (line_0 : Int → Int) (lineLength_0 : Int) (gx : Int) (gy : Int) (k4 : 0 ≤ x4 ∧ x4 ≤ 16777215) (k5 : 0 ≤ x5 ∧ x5 ≤ 16777215) (f9 : OFL (lineLength_0) (line_0) (x5) (x4)) (kz_0_3 : 0 ≤ lineLength_0 ∧ lineLength_0 ≤ 24) (ex2 : gx = x5) (ey2 : gy = x4) : OFL (lineLength_0) (line_0) (gx) (gy) := by
  first
    | assumption
    | (rw [show gx = x5 by omega, show gy = x4 by omega]; assumption)
    | exact ofl_of ‹OFQ _ _ _ _ _› (by omega)
    | (have ha : ALC nodes_0o1 x25 := by rw [← ‹x22 = nodes_0o1›]; exact alc_of (p := x23) ‹bvp x23 = _› (by omega) (by assumption) (by omega) (by omega) (by omega) (by omega) (by omega)
       have e1 : line_0 0 = tail_0o1 0 := by rw [(hE_0_2_2 0 (by omega)).2 (by omega), (hE_0_2_3 0 (by omega)).1 (by omega), (by assumption : x6 = tail_0o1 x5), show x5 = 0 by omega]
       have e2 : line_0 1 = head_0o1 0 := by rw [(hE_0_2_2 1 (by omega)).1 (by omega), (by assumption : x10 = head_0o1 x9), show x9 = 0 by omega]
       exact (ofs_both (a := x14) (b := x18) (o1 := x12) (o2 := x16) (p := x15) (q := x19) ‹EAR _ _ _ _› (by omega) ha e1 e2 (by rw [show (0 : Int) = x13 by omega]; assumption) (by rw [show (1 : Int) = x17 by omega]; assumption) (by omega) (by omega) (by assumption) (by assumption) (by assumption) (by omega)).1)
  
set_option maxHeartbeats 4000000 in
theorem vc_Pn_orderFromTo_6_7 (x4 : Int) (x5 : Int) (x7 : Int) (way_0 : Int → Int) (gx : Int) (gy : Int) (k4 : 0 ≤ x4 ∧ x4 ≤ 16777215) (k5 : 0 ≤ x5 ∧ x5 ≤ 16777215) (k7 : 1 ≤ x7 ∧ x7 ≤ 25) (f13 : EWY (way_0) (x5) (x4) (x7)) (ex2 : gx = x5) (ey2 : gy = x4) : EWY (way_0) (gx) (gy) (x7) := by
  first
    | assumption
    | exact Or.inl (by omega)
    | (rw [show gx = x5 by omega, show gy = x4 by omega]; assumption)
    | exact ewy_of2 ‹SHW _ _ _ _ _› ‹ALC _ _› (by omega) ‹NWF _ _ _›
  
set_option maxHeartbeats 4000000 in
theorem vc_Pn_orderFromTo_6_8 (x4 : Int) (x5 : Int) (x7 : Int) (x8 : Int) (nodes_0o1 : Int) (near_0o1 : Int → Int) (tail_0o1 : Int → Int) (head_0o1 : Int → Int) (way_0 : Int → Int) (k4 : 0 ≤ x4 ∧ x4 ≤ 16777215) (k5 : 0 ≤ x5 ∧ x5 ≤ 16777215) (k7 : 1 ≤ x7 ∧ x7 ≤ 25) (k8 : 0 ≤ x8 ∧ x8 ≤ 23) (f0 : x7 ≠ 0) (f6 : OFT (tail_0o1) (head_0o1) (x4)) (f8 : EAR (nodes_0o1) (near_0o1) (tail_0o1) (head_0o1)) (f11 : OFN (nodes_0o1) (x4)) (f12 : NWA (nodes_0o1) (near_0o1) (x4) (x8) (x7)) (f13 : EWY (way_0) (x5) (x4) (x7)) (kz_1_0 : 0 ≤ nodes_0o1 ∧ nodes_0o1 ≤ 24) : 3 ≤ x7 := by
  first
    | omega
    | exact ear_use (len := 0) (ln_zq := fun z => z) ‹EAR _ _ _ _› ‹OFT _ _ _› ‹OFN _ _› ‹NWA _ _ _ _ _› ‹EWY _ _ _ _› (by first | exact Or.inl (by omega) | exact Or.inr (by omega)) rfl rfl
  
set_option maxHeartbeats 4000000 in
theorem vc_Pn_orderFromTo_6_9 (x6 : Int) (lineLength_0 : Int) (gu : Int) (k6 : 0 ≤ x6 ∧ x6 ≤ 23) (f10 : (x6 + 2) ≤ lineLength_0) (kz_0_3 : 0 ≤ lineLength_0 ∧ lineLength_0 ≤ 24) (eu2 : gu = x6) : (gu + 2) ≤ lineLength_0 := by
  first
    | omega
    | exact ear_use (len := 0) (ln_zq := fun z => z) ‹EAR _ _ _ _› ‹OFT _ _ _› ‹OFN _ _› ‹NWA _ _ _ _ _› ‹EWY _ _ _ _› (by first | exact Or.inl (by omega) | exact Or.inr (by omega)) rfl rfl
  
def o_Pn_orderFromTo_6 : or_T := (149, 10, [(0, (2, 0, 0, [7])), (1, (2, 0, 0, [3])), (2, (2, 0, 0, [7])), (3, (2, 0, 0, [3])), (4, (0, 0, 16777215, [])), (5, (0, 0, 16777215, [])), (6, (0, 0, 23, [])), (7, (0, 1, 25, [])), (8, (0, 0, 23, [])), (9, (0, 1, 24, []))], [(8, [7], [1]), (7, [8, 9], [2]), (9, [9, 3], [0]), (20, [3], [60, 1, 1, 637, 0, 14]), (20, [3, 5], [60, 1, 0, 638, 0]), (24, [1, 3], []), (20, [3, 4], [60, 0, 2, 903, 7, 8]), (20, [3, 5], [60, 1, 0, 904, 0]), (20, [3], [60, 1, 3, 905, 0, 14, 7, 8]), (20, [2, 5, 4], [60, 1, 1, 900, 3, 2]), (20, [6, 2], [50, 1, 0, 1003, 0, 6, 4, 2, 1, 0, 0, 2, 2, 1, 3]), (20, [3, 4], [60, 1, 0, 906, 0]), (20, [3, 4, 8, 7], [60, 1, 1, 907, 0, 14]), (20, [2, 5, 4, 7], [60, 0, 1, 908, 6]), (24, [0, 2], [])], [], [(0, -2147483648, 2147483647, []), (0, -2147483648, 2147483647, []), (0, 0, 24, [])], [(23, [10, 5], [0, 1, -1]), (23, [10, 5], [0, -1, 1]), (23, [11, 4], [0, 1, -1]), (23, [11, 4], [0, -1, 1]), (23, [12, 6], [0, 1, -1]), (23, [12, 6], [0, -1, 1]), (20, [2, 10, 11], [60, 1, 1, 900, 3, 2]), (20, [2, 10, 11, 7], [60, 0, 1, 908, 6]), (20, [7], [50, 0, 0, 0, 2, 0, 3, 1, 0]), (20, [12, 2], [50, 1, 0, 1003, 0, 6, 4, 2, 1, 0, 0, 2, 2, 1, 3])], [], [(8, 9, -4294967296, -1), (7, 8, -4294967296, 24)])
theorem oo_Pn_orderFromTo_6 {kA : Nat → ClassId} : or_ok PRD kA GG o_Pn_orderFromTo_6 := by
  refine or_mk fun A ta ws vs hD hth hl => ?_
  intro t0 r0 t1 r1 t2 r2 t3 r3 t4 k4 t5 k5 t6 k6 t7 k7 t8 k8 t9 k9 d0 d1 f0 f1 f2 f3 f4 f5 f6 f7 f8 f9 f10 f11 f12 f13 f14
  replace f0 := shm_142 f0
  replace f5 := shm_5 f5
  replace f6 := shm_1795 f6
  replace f8 := shm_1793 f8
  replace f9 := shm_908 f9
  replace f10 := shm_911 f10
  replace f11 := shm_1797 f11
  replace f12 := shm_1798 f12
  replace f13 := shm_1206 f13
  replace f14 := shm_5 f14
  have q3 : n_v vs 3 = n_v vs 1 := f5.symm
  have q2 : n_v vs 2 = n_v vs 0 := f14.symm
  simp only [q3, q2] at f6 f8 f9 f10 f11 f12 f13
  have kz_0_3 := fdq_13 hD hth r0
  have kz_1_0 := fdq_21 hD hth r1
  obtain ⟨x, ex, hx⟩ := iv_ex (ta := ta) (lo := (-2147483648)) (hi := 2147483647) (z := v_iv (n_v vs 5)) (by omega) (by omega) (by omega) (by omega)
  have ex2 : v_iv (Value.int x) = v_iv (n_v vs 5) := ex
  have ex3 : (-2147483648) ≤ v_iv (Value.int x) ∧ v_iv (Value.int x) ≤ 2147483647 := tv_rng hx
  obtain ⟨y, ey, hy⟩ := iv_ex (ta := ta) (lo := (-2147483648)) (hi := 2147483647) (z := v_iv (n_v vs 4)) (by omega) (by omega) (by omega) (by omega)
  have ey2 : v_iv (Value.int y) = v_iv (n_v vs 4) := ey
  have ey3 : (-2147483648) ≤ v_iv (Value.int y) ∧ v_iv (Value.int y) ≤ 2147483647 := tv_rng hy
  obtain ⟨u, eu, hu⟩ := iv_ex (ta := ta) (lo := 0) (hi := 24) (z := v_iv (n_v vs 6)) (by omega) (by omega) (by omega) (by omega)
  have eu2 : v_iv (Value.int u) = v_iv (n_v vs 6) := eu
  have eu3 : 0 ≤ v_iv (Value.int u) ∧ v_iv (Value.int u) ≤ 24 := tv_rng hu
  have e_2 : n_v (vs ++ [Value.int x, Value.int y, Value.int u]) 2 = n_v vs 2 := n_v_old (by rw [hl]; decide)
  have e_4 : n_v (vs ++ [Value.int x, Value.int y, Value.int u]) 4 = n_v vs 4 := n_v_old (by rw [hl]; decide)
  have e_5 : n_v (vs ++ [Value.int x, Value.int y, Value.int u]) 5 = n_v vs 5 := n_v_old (by rw [hl]; decide)
  have e_6 : n_v (vs ++ [Value.int x, Value.int y, Value.int u]) 6 = n_v vs 6 := n_v_old (by rw [hl]; decide)
  have e_7 : n_v (vs ++ [Value.int x, Value.int y, Value.int u]) 7 = n_v vs 7 := n_v_old (by rw [hl]; decide)
  have e_10 : n_v (vs ++ [Value.int x, Value.int y, Value.int u]) 10 = Value.int x := n_v_newk (k := 0) hl rfl
  have e_11 : n_v (vs ++ [Value.int x, Value.int y, Value.int u]) 11 = Value.int y := n_v_newk (k := 1) hl rfl
  have e_12 : n_v (vs ++ [Value.int x, Value.int y, Value.int u]) 12 = Value.int u := n_v_newk (k := 2) hl rfl
  have nf0 : fc_1 PRD (23, [10, 5], [0, 1, -1]) ws (vs ++ [Value.int x, Value.int y, Value.int u]) := by
    refine ⟨nf_inA hl rfl, sgq_7 ?_⟩
    · show 1 * v_iv (n_v (vs ++ [Value.int x, Value.int y, Value.int u]) 10) + ((-1) * v_iv (n_v (vs ++ [Value.int x, Value.int y, Value.int u]) 5) + 0) ≤ 0
      simp only [e_5, e_10]
      exact vc_Pn_orderFromTo_6_0 (v_iv (n_v vs 5)) (v_iv (Value.int x)) k5 ex2
  have nf1 : fc_1 PRD (23, [10, 5], [0, -1, 1]) ws (vs ++ [Value.int x, Value.int y, Value.int u]) := by
    refine ⟨nf_inA hl rfl, sgq_22 ?_⟩
    · show (-1) * v_iv (n_v (vs ++ [Value.int x, Value.int y, Value.int u]) 10) + (1 * v_iv (n_v (vs ++ [Value.int x, Value.int y, Value.int u]) 5) + 0) ≤ 0
      simp only [e_5, e_10]
      exact vc_Pn_orderFromTo_6_1 (v_iv (n_v vs 5)) (v_iv (Value.int x)) k5 ex2
  have nf2 : fc_1 PRD (23, [11, 4], [0, 1, -1]) ws (vs ++ [Value.int x, Value.int y, Value.int u]) := by
    refine ⟨nf_inA hl rfl, sgq_7 ?_⟩
    · show 1 * v_iv (n_v (vs ++ [Value.int x, Value.int y, Value.int u]) 11) + ((-1) * v_iv (n_v (vs ++ [Value.int x, Value.int y, Value.int u]) 4) + 0) ≤ 0
      simp only [e_4, e_11]
      exact vc_Pn_orderFromTo_6_2 (v_iv (n_v vs 4)) (v_iv (Value.int y)) k4 ey2
  have nf3 : fc_1 PRD (23, [11, 4], [0, -1, 1]) ws (vs ++ [Value.int x, Value.int y, Value.int u]) := by
    refine ⟨nf_inA hl rfl, sgq_22 ?_⟩
    · show (-1) * v_iv (n_v (vs ++ [Value.int x, Value.int y, Value.int u]) 11) + (1 * v_iv (n_v (vs ++ [Value.int x, Value.int y, Value.int u]) 4) + 0) ≤ 0
      simp only [e_4, e_11]
      exact vc_Pn_orderFromTo_6_3 (v_iv (n_v vs 4)) (v_iv (Value.int y)) k4 ey2
  have nf4 : fc_1 PRD (23, [12, 6], [0, 1, -1]) ws (vs ++ [Value.int x, Value.int y, Value.int u]) := by
    refine ⟨nf_inA hl rfl, sgq_7 ?_⟩
    · show 1 * v_iv (n_v (vs ++ [Value.int x, Value.int y, Value.int u]) 12) + ((-1) * v_iv (n_v (vs ++ [Value.int x, Value.int y, Value.int u]) 6) + 0) ≤ 0
      simp only [e_6, e_12]
      exact vc_Pn_orderFromTo_6_4 (v_iv (n_v vs 6)) (v_iv (Value.int u)) k6 eu2
  have nf5 : fc_1 PRD (23, [12, 6], [0, -1, 1]) ws (vs ++ [Value.int x, Value.int y, Value.int u]) := by
    refine ⟨nf_inA hl rfl, sgq_22 ?_⟩
    · show (-1) * v_iv (n_v (vs ++ [Value.int x, Value.int y, Value.int u]) 12) + (1 * v_iv (n_v (vs ++ [Value.int x, Value.int y, Value.int u]) 6) + 0) ≤ 0
      simp only [e_6, e_12]
      exact vc_Pn_orderFromTo_6_5 (v_iv (n_v vs 6)) (v_iv (Value.int u)) k6 eu2
  have nf6 : fc_1 PRD (20, [2, 10, 11], [60, 1, 1, 900, 3, 2]) ws (vs ++ [Value.int x, Value.int y, Value.int u]) := by
    refine ⟨nf_inA hl rfl, sgq_908 ?_⟩
    · show OFL (w_fi ws (n_v (vs ++ [Value.int x, Value.int y, Value.int u]) 2) 3) (w_ei ws (w_ar ws (n_v (vs ++ [Value.int x, Value.int y, Value.int u]) 2) 2)) (v_iv (n_v (vs ++ [Value.int x, Value.int y, Value.int u]) 10)) (v_iv (n_v (vs ++ [Value.int x, Value.int y, Value.int u]) 11))
      simp only [e_2, e_10, e_11, q2]
      exact vc_Pn_orderFromTo_6_6 (v_iv (n_v vs 4)) (v_iv (n_v vs 5)) (v_iv (n_v vs 6)) (v_iv (n_v vs 9)) (w_fi ws (n_v vs 1) 0) (w_ei ws (w_ar ws (n_v vs 1) 7)) (w_ei ws (w_ar ws (n_v vs 1) 8)) (w_ei ws (w_ar ws (n_v vs 0) 2)) (w_fi ws (n_v vs 0) 3) (v_iv (Value.int x)) (v_iv (Value.int y)) k4 k5 f9 kz_0_3 ex2 ey2
  have nf7 : fc_1 PRD (20, [2, 10, 11, 7], [60, 0, 1, 908, 6]) ws (vs ++ [Value.int x, Value.int y, Value.int u]) := by
    refine ⟨nf_inA hl rfl, sgq_1206 ?_⟩
    · show EWY (w_ei ws (w_ar ws (n_v (vs ++ [Value.int x, Value.int y, Value.int u]) 2) 6)) (v_iv (n_v (vs ++ [Value.int x, Value.int y, Value.int u]) 10)) (v_iv (n_v (vs ++ [Value.int x, Value.int y, Value.int u]) 11)) (v_iv (n_v (vs ++ [Value.int x, Value.int y, Value.int u]) 7))
      simp only [e_2, e_7, e_10, e_11, q2]
      exact vc_Pn_orderFromTo_6_7 (v_iv (n_v vs 4)) (v_iv (n_v vs 5)) (v_iv (n_v vs 7)) (w_ei ws (w_ar ws (n_v vs 0) 6)) (v_iv (Value.int x)) (v_iv (Value.int y)) k4 k5 k7 f13 ex2 ey2
  have nf8 : fc_1 PRD (20, [7], [50, 0, 0, 0, 2, 0, 3, 1, 0]) ws (vs ++ [Value.int x, Value.int y, Value.int u]) := by
    refine ⟨nf_inA hl rfl, sgq_1207 ?_⟩
    · show 3 ≤ v_iv (n_v (vs ++ [Value.int x, Value.int y, Value.int u]) 7)
      rw [e_7]
      exact vc_Pn_orderFromTo_6_8 (v_iv (n_v vs 4)) (v_iv (n_v vs 5)) (v_iv (n_v vs 7)) (v_iv (n_v vs 8)) (w_fi ws (n_v vs 1) 0) (w_ei ws (w_ar ws (n_v vs 1) 14)) (w_ei ws (w_ar ws (n_v vs 1) 7)) (w_ei ws (w_ar ws (n_v vs 1) 8)) (w_ei ws (w_ar ws (n_v vs 0) 6)) k4 k5 k7 k8 f0 f6 f8 f11 f12 f13 kz_1_0
  have nf9 : fc_1 PRD (20, [12, 2], [50, 1, 0, 1003, 0, 6, 4, 2, 1, 0, 0, 2, 2, 1, 3]) ws (vs ++ [Value.int x, Value.int y, Value.int u]) := by
    refine ⟨nf_inA hl rfl, sgq_911 ?_⟩
    · show (v_iv (n_v (vs ++ [Value.int x, Value.int y, Value.int u]) 12) + 2) ≤ w_fi ws (n_v (vs ++ [Value.int x, Value.int y, Value.int u]) 2) 3
      simp only [e_2, e_12, q2]
      exact vc_Pn_orderFromTo_6_9 (v_iv (n_v vs 6)) (w_fi ws (n_v vs 0) 3) (v_iv (Value.int u)) k6 f10 kz_0_3 eu2
  exact ⟨(fun _ h => (by cases h)), [Value.int x, Value.int y, Value.int u], ag_three hx hy hu, List.forall_mem_cons.mpr ⟨⟨show (23 : Nat) < 100 from by decide, nf0⟩, List.forall_mem_cons.mpr ⟨⟨show (23 : Nat) < 100 from by decide, nf1⟩, List.forall_mem_cons.mpr ⟨⟨show (23 : Nat) < 100 from by decide, nf2⟩, List.forall_mem_cons.mpr ⟨⟨show (23 : Nat) < 100 from by decide, nf3⟩, List.forall_mem_cons.mpr ⟨⟨show (23 : Nat) < 100 from by decide, nf4⟩, List.forall_mem_cons.mpr ⟨⟨show (23 : Nat) < 100 from by decide, nf5⟩, List.forall_mem_cons.mpr ⟨⟨show (20 : Nat) < 100 from by decide, nf6⟩, List.forall_mem_cons.mpr ⟨⟨show (20 : Nat) < 100 from by decide, nf7⟩, List.forall_mem_cons.mpr ⟨⟨show (20 : Nat) < 100 from by decide, nf8⟩, List.forall_mem_cons.mpr ⟨⟨show (20 : Nat) < 100 from by decide, nf9⟩, (fun _ h => (by cases h))⟩⟩⟩⟩⟩⟩⟩⟩⟩⟩, (fun _ h => (by cases h))⟩
set_option maxHeartbeats 4000000 in
theorem vc_Pn_orderFromTo_7_0 (x4 : Int) (x5 : Int) (x10 : Int) (x11 : Int) (x12 : Int) (x13 : Int) (line_0 : Int → Int) (lineLength_0 : Int) (k4 : 0 ≤ x4 ∧ x4 ≤ 16777215) (k5 : 0 ≤ x5 ∧ x5 ≤ 16777215) (k10 : (-2147483648) ≤ x10 ∧ x10 ≤ 2147483647) (k11 : (-2147483648) ≤ x11 ∧ x11 ≤ 2147483647) (k13 : 0 ≤ x13 ∧ x13 ≤ 0) (f1 : 1 * x10 + ((-1) * x5 + 0) ≤ 0) (f2 : (-1) * x10 + (1 * x5 + 0) ≤ 0) (f3 : 1 * x11 + ((-1) * x4 + 0) ≤ 0) (f4 : (-1) * x11 + (1 * x4 + 0) ≤ 0) (f17 : OFP (lineLength_0) (line_0) (x10) (x11)) (kz_0_3 : 0 ≤ lineLength_0 ∧ lineLength_0 ≤ 24) : OFQ (lineLength_0) (line_0) (x5) (x4) (x13) := by
  first
    | (have h := (‹OFP _ _ _ _›); rw [show x10 = x5 by omega, show x11 = x4 by omega] at h; exact ofq_start h (by omega))
    | exact ofq_step (v := x12) (one := x10) (q := x13) ‹OFQ _ _ _ _ _› (by omega) (by assumption) (by omega) (by assumption) (by assumption) (by omega)
  
set_option maxHeartbeats 4000000 in
theorem vc_Pn_orderFromTo_7_1 (x6 : Int) (x12 : Int) (lineLength_0 : Int) (k6 : 0 ≤ x6 ∧ x6 ≤ 23) (k12 : 0 ≤ x12 ∧ x12 ≤ 24) (f5 : 1 * x12 + ((-1) * x6 + 0) ≤ 0) (f6 : (-1) * x12 + (1 * x6 + 0) ≤ 0) (f18 : (x12 + 3) ≤ lineLength_0) (kz_0_3 : 0 ≤ lineLength_0 ∧ lineLength_0 ≤ 24) : (x6 + 3) ≤ lineLength_0 := by
  first
    | omega
    | exact ear_use (len := 0) (ln_zq := fun z => z) ‹EAR _ _ _ _› ‹OFT _ _ _› ‹OFN _ _› ‹NWA _ _ _ _ _› ‹EWY _ _ _ _› (by first | exact Or.inl (by omega) | exact Or.inr (by omega)) rfl rfl
  
def o_Pn_orderFromTo_7 : or_T := (155, 14, [(0, (2, 0, 0, [7])), (1, (2, 0, 0, [3])), (2, (2, 0, 0, [7])), (3, (2, 0, 0, [3])), (4, (0, 0, 16777215, [])), (5, (0, 0, 16777215, [])), (6, (0, 0, 23, [])), (7, (0, 1, 25, [])), (8, (0, 0, 23, [])), (9, (0, 1, 24, [])), (10, (0, -2147483648, 2147483647, [])), (11, (0, -2147483648, 2147483647, [])), (12, (0, 0, 24, [])), (13, (0, 0, 0, []))], [(9, [9, 3], [0]), (23, [10, 5], [0, 1, -1]), (23, [10, 5], [0, -1, 1]), (23, [11, 4], [0, 1, -1]), (23, [11, 4], [0, -1, 1]), (23, [12, 6], [0, 1, -1]), (23, [12, 6], [0, -1, 1]), (20, [7], [50, 0, 0, 0, 2, 0, 3, 1, 0]), (20, [3], [60, 1, 1, 637, 0, 14]), (20, [3, 5], [60, 1, 0, 638, 0]), (24, [1, 3], []), (20, [3, 4], [60, 0, 2, 903, 7, 8]), (20, [3, 5], [60, 1, 0, 904, 0]), (20, [3], [60, 1, 3, 905, 0, 14, 7, 8]), (20, [3, 4], [60, 1, 0, 906, 0]), (20, [3, 4, 8, 7], [60, 1, 1, 907, 0, 14]), (24, [0, 2], []), (20, [2, 10, 11], [60, 1, 1, 901, 3, 2]), (20, [12, 2], [50, 1, 0, 1003, 0, 6, 4, 2, 1, 0, 0, 3, 2, 1, 3]), (102, [12], [131835662423735857755657133359104, 7003]), (23, [10, 5], [0, 1, -1]), (23, [10, 5], [0, -1, 1]), (23, [11, 4], [0, 1, -1]), (23, [11, 4], [0, -1, 1]), (23, [12, 6], [0, 1, -1]), (23, [12, 6], [0, -1, 1]), (8, [7], [1]), (7, [8, 9], [2])], [], [], [(20, [2, 5, 4, 13], [60, 1, 1, 902, 3, 2]), (20, [6, 2], [50, 1, 0, 1003, 0, 6, 4, 2, 1, 0, 0, 3, 2, 1, 3])], [], [(8, 9, -4294967296, -1), (7, 8, -4294967296, 24)])
theorem oo_Pn_orderFromTo_7 {kA : Nat → ClassId} : or_ok PRD kA GG o_Pn_orderFromTo_7 := by
  refine or_mk fun A ta ws vs hD hth hl => ?_
  intro t0 r0 t1 r1 t2 r2 t3 r3 t4 k4 t5 k5 t6 k6 t7 k7 t8 k8 t9 k9 t10 k10 t11 k11 t12 k12 t13 k13 d0 d1 f0 f1 f2 f3 f4 f5 f6 f7 f8 f9 f10 f11 f12 f13 f14 f15 f16 f17 f18 ta1 w1 le1 s1 f20 f21 f22 f23 f24 f25 f26 f27
  replace f1 := shm_7 f1
  replace f2 := shm_22 f2
  replace f3 := shm_7 f3
  replace f4 := shm_22 f4
  replace f5 := shm_7 f5
  replace f6 := shm_22 f6
  replace f16 := shm_5 f16
  replace f17 := shm_912 f17
  replace f18 := shm_913 f18
  have q2 : n_v vs 2 = n_v vs 0 := f16.symm
  simp only [q2] at f17 f18
  have kz_0_3 := fdq_13 hD hth r0
  have nf0 : fc_1 PRD (20, [2, 5, 4, 13], [60, 1, 1, 902, 3, 2]) ws (vs) := by
    refine ⟨nf_in hl rfl, sgq_1799 ?_⟩
    · show OFQ (w_fi ws (n_v vs 2) 3) (w_ei ws (w_ar ws (n_v vs 2) 2)) (v_iv (n_v vs 5)) (v_iv (n_v vs 4)) (v_iv (n_v vs 13))
      rw [q2]
      exact vc_Pn_orderFromTo_7_0 (v_iv (n_v vs 4)) (v_iv (n_v vs 5)) (v_iv (n_v vs 10)) (v_iv (n_v vs 11)) (v_iv (n_v vs 12)) (v_iv (n_v vs 13)) (w_ei ws (w_ar ws (n_v vs 0) 2)) (w_fi ws (n_v vs 0) 3) k4 k5 k10 k11 k13 f1 f2 f3 f4 f17 kz_0_3
  have nf1 : fc_1 PRD (20, [6, 2], [50, 1, 0, 1003, 0, 6, 4, 2, 1, 0, 0, 3, 2, 1, 3]) ws (vs) := by
    refine ⟨nf_in hl rfl, sgq_913 ?_⟩
    · show (v_iv (n_v vs 6) + 3) ≤ w_fi ws (n_v vs 2) 3
      rw [q2]
      exact vc_Pn_orderFromTo_7_1 (v_iv (n_v vs 6)) (v_iv (n_v vs 12)) (w_fi ws (n_v vs 0) 3) k6 k12 f5 f6 f18 kz_0_3
  refine ⟨(fun _ h => (by cases h)), [], trivial, ?_, (fun _ h => (by cases h))⟩
  rw [List.append_nil]
  exact List.forall_mem_cons.mpr ⟨⟨show (20 : Nat) < 100 from by decide, nf0⟩, List.forall_mem_cons.mpr ⟨⟨show (20 : Nat) < 100 from by decide, nf1⟩, (fun _ h => (by cases h))⟩⟩
set_option maxHeartbeats 4000000 in
theorem vc_Pn_orderFromTo_8_0 (x4 : Int) (x5 : Int) (x7 : Int) (x8 : Int) (x10 : Int) (x11 : Int) (x12 : Int) (x13 : Int) (nodes_0o1 : Int) (near_0o1 : Int → Int) (k4 : 0 ≤ x4 ∧ x4 ≤ 16777215) (k7 : 0 ≤ x7 ∧ x7 ≤ 0) (k8 : 0 ≤ x8 ∧ x8 ≤ 23) (k10 : 0 ≤ x10 ∧ x10 ≤ 16777215) (k11 : 1 ≤ x11 ∧ x11 ≤ 1) (k12 : 0 ≤ x12 ∧ x12 ≤ 0) (k13 : 1 ≤ x13 ∧ x13 ≤ 24) (d0 : x8 + 1 ≤ x13 ∧ x13 ≤ x8 + 1) (f0 : x13 = x8 + 1) (f3 : bvp (x12) = bvp (x10) &&& bvp (x11)) (f4 : bvp (x10) = bvp (x4) >>> (x8).toNat) (f17 : NWA (nodes_0o1) (near_0o1) (x4) (x8) (x7)) (kz_1_0 : 0 ≤ nodes_0o1 ∧ nodes_0o1 ≤ 24) : NWA (nodes_0o1) (near_0o1) (x4) (x13) (x7) := by
  first
    | exact nwa_start (by omega)
    | (have q := bit_one (s := x4) (t := x10) (c := x12) (v := x8) (one := x11) (by assumption) (by assumption) (by omega) (by omega) (by omega) (by omega)
       exact nwa_skip ‹NWA _ _ _ _ _› (fun z => by have := q.mp z; omega) (by omega))
    | exact nwa_step2 (al := x5) ‹NWA _ _ _ _ _› (by omega) ‹SHZ _ _ _ _ _ _› (by omega) ‹ALC _ _› (by omega) (by omega) (by omega) ‹NWI _ _› ‹NWXe _ _ _› ‹NWF _ _ _› (by omega)
  
def o_Pn_orderFromTo_8 : or_T := (77, 14, [(1, (2, 0, 0, [3])), (4, (0, 0, 16777215, [])), (7, (0, 0, 0, [])), (8, (0, 0, 23, [])), (10, (0, 0, 16777215, [])), (11, (0, 1, 1, [])), (12, (0, 0, 0, [])), (13, (0, 1, 24, []))], [(6, [13, 8], [1]), (16, [12, 10, 11], [0]), (16, [10, 4, 8], [4]), (24, [1, 3], []), (20, [3, 4, 8, 7], [60, 1, 1, 907, 0, 14])], [], [], [(20, [3, 4, 13, 7], [60, 1, 1, 907, 0, 14])], [], [(13, 8, 1, 1)])
theorem oo_Pn_orderFromTo_8 {kA : Nat → ClassId} : or_ok PRD kA GG o_Pn_orderFromTo_8 := by
  refine or_mk fun A ta ws vs hD hth hl => ?_
  intro t1 r1 t4 k4 t7 k7 t8 k8 t10 k10 t11 k11 t12 k12 t13 k13 d0 f0 f3 f4 f10 f17
  replace f0 := shm_4 f0
  replace f3 := shm_11 f3
  replace f4 := shm_13 f4
  replace f10 := shm_5 f10
  replace f17 := shm_1798 f17
  have q3 : n_v vs 3 = n_v vs 1 := f10.symm
  simp only [q3] at f17
  have kz_1_0 := fdq_21 hD hth r1
  have nf0 : fc_1 PRD (20, [3, 4, 13, 7], [60, 1, 1, 907, 0, 14]) ws (vs) := by
    refine ⟨nf_in hl rfl, sgq_1798 ?_⟩
    · show NWA (w_fi ws (n_v vs 3) 0) (w_ei ws (w_ar ws (n_v vs 3) 14)) (v_iv (n_v vs 4)) (v_iv (n_v vs 13)) (v_iv (n_v vs 7))
      rw [q3]
      exact vc_Pn_orderFromTo_8_0 (v_iv (n_v vs 4)) (v_iv (n_v vs 5)) (v_iv (n_v vs 7)) (v_iv (n_v vs 8)) (v_iv (n_v vs 10)) (v_iv (n_v vs 11)) (v_iv (n_v vs 12)) (v_iv (n_v vs 13)) (w_fi ws (n_v vs 1) 0) (w_ei ws (w_ar ws (n_v vs 1) 14)) k4 k7 k8 k10 k11 k12 k13 d0 f0 f3 f4 f17 kz_1_0
  refine ⟨(fun _ h => (by cases h)), [], trivial, ?_, (fun _ h => (by cases h))⟩
  rw [List.append_nil]
  exact List.forall_mem_cons.mpr ⟨⟨show (20 : Nat) < 100 from by decide, nf0⟩, (fun _ h => (by cases h))⟩
set_option maxHeartbeats 4000000 in
theorem vc_Pn_orderFromTo_9_0 (x4 : Int) (x8 : Int) (x13 : Int) (x14 : Int) (x15 : Int) (x16 : Int) (x17 : Int) (k4 : 0 ≤ x4 ∧ x4 ≤ 16777215) (k8 : 0 ≤ x8 ∧ x8 ≤ 23) (k13 : 1 ≤ x13 ∧ x13 ≤ 1) (k14 : 1 ≤ x14 ∧ x14 ≤ 8388608) (k15 : (-1) ≤ x15 ∧ x15 ≤ (-1)) (k16 : (-2147483648) ≤ x16 ∧ x16 ≤ 2147483647) (k17 : 0 ≤ x17 ∧ x17 ≤ 16777215) (f5 : bvp (x17) = bvp (x4) &&& bvp (x16)) (f6 : bvp (x16) = bvp (x14) ^^^ bvp (x15)) (f7 : bvp (x14) = bvp (x13) <<< (x8).toNat) : NWXe (x17) (x4) (x8) := by
  first
    | exact nwe_of (q := x14) (r := x16) (one := x13) (m1 := x15) (by omega) (by omega) (by omega) (by assumption) (by assumption) (by assumption)
  
set_option maxHeartbeats 4000000 in
theorem vc_Pn_orderFromTo_9_1 (x4 : Int) (x5 : Int) (x19 : Int) (x20 : Int) (x21 : Int) (k4 : 0 ≤ x4 ∧ x4 ≤ 16777215) (k5 : 0 ≤ x5 ∧ x5 ≤ 16777215) (k19 : (-1) ≤ x19 ∧ x19 ≤ (-1)) (k20 : (-2147483648) ≤ x20 ∧ x20 ≤ 2147483647) (k21 : 0 ≤ x21 ∧ x21 ≤ 16777215) (f1 : bvp (x21) = bvp (x5) &&& bvp (x20)) (f2 : bvp (x20) = bvp (x4) ^^^ bvp (x19)) : NWF (x21) (x5) (x4) := by
  first
    | exact nwf_of (r := x20) (m1 := x19) (by omega) (by assumption) (by assumption)
  
set_option maxHeartbeats 4000000 in
theorem vc_Pn_orderFromTo_9_2 (x4 : Int) (x8 : Int) (x10 : Int) (x11 : Int) (x12 : Int) (k4 : 0 ≤ x4 ∧ x4 ≤ 16777215) (k8 : 0 ≤ x8 ∧ x8 ≤ 23) (k10 : 0 ≤ x10 ∧ x10 ≤ 16777215) (k11 : 1 ≤ x11 ∧ x11 ≤ 1) (k12 : 1 ≤ x12 ∧ x12 ≤ 1) (f10 : bvp (x12) = bvp (x10) &&& bvp (x11)) (f11 : bvp (x10) = bvp (x4) >>> (x8).toNat) : NWI (x4) (x8) := by
  first
    | (have q := bit_one (s := x4) (t := x10) (c := x12) (v := x8) (one := x11) (by assumption) (by assumption) (by omega) (by omega) (by omega) (by omega)
       exact q.mpr (by omega))
  
set_option maxHeartbeats 4000000 in
theorem vc_Pn_orderFromTo_9_3 (x9 : Int) (nodes_0o1 : Int) (near_0o1 : Int → Int) (k9 : 1 ≤ x9 ∧ x9 ≤ 24) (g3 : x9 = nodes_0o1) (f14 : SYG (nodes_0o1) (near_0o1)) (kz_1_0 : 0 ≤ nodes_0o1 ∧ nodes_0o1 ≤ 24) : SYMN (near_0o1) (x9) := by
  first
    | (rw [‹x9 = nodes_0o1›]; exact ‹SYG _ _›)
  
set_option maxHeartbeats 4000000 in
theorem vc_Pn_orderFromTo_9_4 (x5 : Int) (x9 : Int) (x20 : Int) (x21 : Int) (nodes_0o1 : Int) (k5 : 0 ≤ x5 ∧ x5 ≤ 16777215) (k9 : 1 ≤ x9 ∧ x9 ≤ 24) (k20 : (-2147483648) ≤ x20 ∧ x20 ≤ 2147483647) (k21 : 0 ≤ x21 ∧ x21 ≤ 16777215) (f1 : bvp (x21) = bvp (x5) &&& bvp (x20)) (g3 : x9 = nodes_0o1) (f15 : ALB (nodes_0o1) (x5)) (kz_1_0 : 0 ≤ nodes_0o1 ∧ nodes_0o1 ≤ 24) : FRN (x9) (x21) := by
  first
    | (rw [‹x9 = nodes_0o1›]; exact frn_of (al := x5) ‹ALB _ _› ‹bvp x21 = _›)
  
def o_Pn_orderFromTo_9 : or_T := (135, 24, [(1, (2, 0, 0, [3])), (4, (0, 0, 16777215, [])), (5, (0, 0, 16777215, [])), (8, (0, 0, 23, [])), (9, (0, 1, 24, [])), (10, (0, 0, 16777215, [])), (11, (0, 1, 1, [])), (12, (0, 1, 1, [])), (13, (0, 1, 1, [])), (14, (0, 1, 8388608, [])), (15, (0, -1, -1, [])), (16, (0, -2147483648, 2147483647, [])), (17, (0, 0, 16777215, [])), (19, (0, -1, -1, [])), (20, (0, -2147483648, 2147483647, [])), (21, (0, 0, 16777215, []))], [(16, [21, 5, 20], [0]), (16, [20, 4, 19], [2]), (9, [9, 3], [0]), (9, [18, 3], [14]), (16, [17, 4, 16], [0]), (16, [16, 14, 15], [2]), (16, [14, 13, 8], [3]), (16, [12, 10, 11], [0]), (16, [10, 4, 8], [4]), (20, [3], [60, 1, 1, 637, 0, 14]), (20, [3, 5], [60, 1, 0, 638, 0]), (24, [1, 3], [])], [], [], [(20, [17, 4, 8], [61, 0, 924]), (20, [21, 5, 4], [61, 0, 925]), (20, [4, 8], [61, 0, 926]), (20, [18, 9], [61, 1, 560]), (20, [9, 21], [61, 0, 561])], [], [])
theorem oo_Pn_orderFromTo_9 {kA : Nat → ClassId} : or_ok PRD kA GG o_Pn_orderFromTo_9 := by
  refine or_mk fun A ta ws vs hD hth hl => ?_
  intro t1 r1 t4 k4 t5 k5 t8 k8 t9 k9 t10 k10 t11 k11 t12 k12 t13 k13 t14 k14 t15 k15 t16 k16 t17 k17 t19 k19 t20 k20 t21 k21 f1 f2 f3 f4 f5 f6 f7 f10 f11 f14 f15 f16
  replace f1 := shm_11 f1
  replace f2 := shm_33 f2
  replace f3 := shm_163 f3
  replace f4 := shm_115 f4
  replace f5 := shm_11 f5
  replace f6 := shm_33 f6
  replace f7 := shm_349 f7
  replace f10 := shm_11 f10
  replace f11 := shm_13 f11
  replace f14 := shm_1792 f14
  replace f15 := shm_1794 f15
  replace f16 := shm_5 f16
  have q3 : n_v vs 3 = n_v vs 1 := f16.symm
  simp only [q3] at f3 f4 f14 f15
  have ad_18 : v_ad (n_v vs 18) = w_ar ws (n_v vs 1) 14 := congrArg v_ad f4
  have g3 : v_iv (n_v vs 9) = w_fi ws (n_v vs 1) 0 := congrArg v_iv f3
  have kz_1_0 := fdq_21 hD hth r1
  have nf0 : fc_1 PRD (20, [17, 4, 8], [61, 0, 924]) ws (vs) := ⟨nf_in hl rfl, sgq_1800 (vc_Pn_orderFromTo_9_0 (v_iv (n_v vs 4)) (v_iv (n_v vs 8)) (v_iv (n_v vs 13)) (v_iv (n_v vs 14)) (v_iv (n_v vs 15)) (v_iv (n_v vs 16)) (v_iv (n_v vs 17)) k4 k8 k13 k14 k15 k16 k17 f5 f6 f7)⟩
  have nf1 : fc_1 PRD (20, [21, 5, 4], [61, 0, 925]) ws (vs) := ⟨nf_in hl rfl, sgq_1801 (vc_Pn_orderFromTo_9_1 (v_iv (n_v vs 4)) (v_iv (n_v vs 5)) (v_iv (n_v vs 19)) (v_iv (n_v vs 20)) (v_iv (n_v vs 21)) k4 k5 k19 k20 k21 f1 f2)⟩
  have nf2 : fc_1 PRD (20, [4, 8], [61, 0, 926]) ws (vs) := ⟨nf_in hl rfl, sgq_1802 (vc_Pn_orderFromTo_9_2 (v_iv (n_v vs 4)) (v_iv (n_v vs 8)) (v_iv (n_v vs 10)) (v_iv (n_v vs 11)) (v_iv (n_v vs 12)) k4 k8 k10 k11 k12 f10 f11)⟩
  have nf3 : fc_1 PRD (20, [18, 9], [61, 1, 560]) ws (vs) := by
    refine ⟨nf_in hl rfl, sgq_1180 ?_⟩
    · show SYMN (w_ei ws (v_ad (n_v vs 18))) (v_iv (n_v vs 9))
      rw [ad_18]
      exact vc_Pn_orderFromTo_9_3 (v_iv (n_v vs 9)) (w_fi ws (n_v vs 1) 0) (w_ei ws (w_ar ws (n_v vs 1) 14)) k9 g3 f14 kz_1_0
  have nf4 : fc_1 PRD (20, [9, 21], [61, 0, 561]) ws (vs) := ⟨nf_in hl rfl, sgq_1181 (vc_Pn_orderFromTo_9_4 (v_iv (n_v vs 5)) (v_iv (n_v vs 9)) (v_iv (n_v vs 20)) (v_iv (n_v vs 21)) (w_fi ws (n_v vs 1) 0) k5 k9 k20 k21 f1 g3 f15 kz_1_0)⟩
  refine ⟨(fun _ h => (by cases h)), [], trivial, ?_, (fun _ h => (by cases h))⟩
  rw [List.append_nil]
  exact List.forall_mem_cons.mpr ⟨⟨show (20 : Nat) < 100 from by decide, nf0⟩, List.forall_mem_cons.mpr ⟨⟨show (20 : Nat) < 100 from by decide, nf1⟩, List.forall_mem_cons.mpr ⟨⟨show (20 : Nat) < 100 from by decide, nf2⟩, List.forall_mem_cons.mpr ⟨⟨show (20 : Nat) < 100 from by decide, nf3⟩, List.forall_mem_cons.mpr ⟨⟨show (20 : Nat) < 100 from by decide, nf4⟩, (fun _ h => (by cases h))⟩⟩⟩⟩⟩
set_option maxHeartbeats 4000000 in
theorem vc_Pn_orderFromTo_10_0 (x4 : Int) (x5 : Int) (x7 : Int) (x8 : Int) (x9 : Int) (x17 : Int) (x21 : Int) (x24 : Int) (x25 : Int) (nodes_0o1 : Int) (near_0o1 : Int → Int) (k4 : 0 ≤ x4 ∧ x4 ≤ 16777215) (k5 : 0 ≤ x5 ∧ x5 ≤ 16777215) (k7 : 0 ≤ x7 ∧ x7 ≤ 0) (k8 : 0 ≤ x8 ∧ x8 ≤ 23) (k9 : 1 ≤ x9 ∧ x9 ≤ 24) (k17 : 0 ≤ x17 ∧ x17 ≤ 16777215) (k21 : 0 ≤ x21 ∧ x21 ≤ 16777215) (k24 : 0 ≤ x24 ∧ x24 ≤ 25) (k25 : 1 ≤ x25 ∧ x25 ≤ 24) (d0 : x8 + 1 ≤ x25 ∧ x25 ≤ x8 + 1) (d1 : x9 + (-4294967296) ≤ x25 ∧ x25 ≤ x9 + 0) (d2 : x9 + (-4294967296) ≤ x8 ∧ x8 ≤ x9 + (-1)) (g2 : x9 = nodes_0o1) (f3 : x25 = x8 + 1) (f4 : NWXe (x17) (x4) (x8)) (f5 : NWF (x21) (x5) (x4)) (f6 : NWI (x4) (x8)) (f13 : ALC (nodes_0o1) (x5)) (f18 : NWA (nodes_0o1) (near_0o1) (x4) (x8) (x7)) (f21 : SHZ (near_0o1) (x9) (x8) (x17) (x21) (x24)) (f23 : x7 = 0) (kz_1_0 : 0 ≤ nodes_0o1 ∧ nodes_0o1 ≤ 24) : NWA (nodes_0o1) (near_0o1) (x4) (x25) (x24) := by
  first
    | exact nwa_start (by omega)
    | (have q := bit_one (s := x4) (t := x10) (c := x12) (v := x8) (one := x11) (by assumption) (by assumption) (by omega) (by omega) (by omega) (by omega)
       exact nwa_skip ‹NWA _ _ _ _ _› (fun z => by have := q.mp z; omega) (by omega))
    | exact nwa_step2 (al := x5) ‹NWA _ _ _ _ _› (by omega) ‹SHZ _ _ _ _ _ _› (by omega) ‹ALC _ _› (by omega) (by omega) (by omega) ‹NWI _ _› ‹NWXe _ _ _› ‹NWF _ _ _› (by omega)
  
set_option maxHeartbeats 4000000 in
theorem vc_Pn_orderFromTo_10_1 (x4 : Int) (x5 : Int) (x8 : Int) (x9 : Int) (x17 : Int) (x21 : Int) (x24 : Int) (nodes_0o1 : Int) (way_0 : Int → Int) (k4 : 0 ≤ x4 ∧ x4 ≤ 16777215) (k5 : 0 ≤ x5 ∧ x5 ≤ 16777215) (k8 : 0 ≤ x8 ∧ x8 ≤ 23) (k9 : 1 ≤ x9 ∧ x9 ≤ 24) (k17 : 0 ≤ x17 ∧ x17 ≤ 16777215) (k21 : 0 ≤ x21 ∧ x21 ≤ 16777215) (k24 : 0 ≤ x24 ∧ x24 ≤ 25) (g2 : x9 = nodes_0o1) (f5 : NWF (x21) (x5) (x4)) (f13 : ALC (nodes_0o1) (x5)) (f20 : SHW (way_0) (x8) (x17) (x21) (x24)) (kz_1_0 : 0 ≤ nodes_0o1 ∧ nodes_0o1 ≤ 24) : EWY (way_0) (x5) (x4) (x24) := by
  first
    | assumption
    | exact Or.inl (by omega)
    | (rw [show gx = x5 by omega, show gy = x4 by omega]; assumption)
    | exact ewy_of2 ‹SHW _ _ _ _ _› ‹ALC _ _› (by omega) ‹NWF _ _ _›
  
def o_Pn_orderFromTo_10 : or_T := (77, 26, [(1, (2, 0, 0, [3])), (4, (0, 0, 16777215, [])), (5, (0, 0, 16777215, [])), (7, (0, 0, 0, [])), (8, (0, 0, 23, [])), (9, (0, 1, 24, [])), (17, (0, 0, 16777215, [])), (21, (0, 0, 16777215, [])), (24, (0, 0, 25, [])), (25, (0, 1, 24, []))], [(9, [23, 2], [6]), (9, [18, 3], [14]), (9, [9, 3], [0]), (6, [25, 8], [1]), (20, [17, 4, 8], [61, 0, 924]), (20, [21, 5, 4], [61, 0, 925]), (20, [4, 8], [61, 0, 926]), (24, [1, 3], []), (20, [3, 5], [60, 1, 0, 904, 0]), (20, [3, 4, 8, 7], [60, 1, 1, 907, 0, 14]), (24, [0, 2], []), (20, [23, 8, 17, 21, 24], [61, 1, 564]), (20, [18, 9, 8, 17, 21, 24], [61, 1, 899]), (102, [23], [121694457621910022543683507716096]), (8, [7], [0])], [], [], [(20, [3, 4, 25, 24], [60, 1, 1, 907, 0, 14]), (20, [2, 5, 4, 24], [60, 0, 1, 908, 6])], [], [(25, 8, 1, 1), (25, 9, -4294967296, 0), (8, 9, -4294967296, -1)])
theorem oo_Pn_orderFromTo_10 {kA : Nat → ClassId} : or_ok PRD kA GG o_Pn_orderFromTo_10 := by
  refine or_mk fun A ta ws vs hD hth hl => ?_
  intro t1 r1 t4 k4 t5 k5 t7 k7 t8 k8 t9 k9 t17 k17 t21 k21 t24 k24 t25 k25 d0 d1 d2 f0 f1 f2 f3 f4 f5 f6 f11 f13 f18 f19 f20 f21 ta1 w1 le1 s1 f23
  replace f0 := shm_111 f0
  replace f1 := shm_115 f1
  replace f2 := shm_163 f2
  replace f3 := shm_4 f3
  replace f4 := shm_1800 f4
  replace f5 := shm_1801 f5
  replace f6 := shm_1802 f6
  replace f11 := shm_5 f11
  replace f13 := shm_1796 f13
  replace f18 := shm_1798 f18
  replace f19 := shm_5 f19
  replace f20 := shm_1187 f20
  replace f21 := shm_1188 f21
  replace f23 := shm_192 f23
  have q3 : n_v vs 3 = n_v vs 1 := f11.symm
  have q2 : n_v vs 2 = n_v vs 0 := f19.symm
  simp only [q2, q3] at f0 f1 f2 f13 f18
  have ad_23 : v_ad (n_v vs 23) = w_ar ws (n_v vs 0) 6 := congrArg v_ad f0
  have ad_18 : v_ad (n_v vs 18) = w_ar ws (n_v vs 1) 14 := congrArg v_ad f1
  have g2 : v_iv (n_v vs 9) = w_fi ws (n_v vs 1) 0 := congrArg v_iv f2
  simp only [ad_18, ad_23] at f20 f21
  have kz_1_0 := fdq_21 hD hth r1
  have nf0 : fc_1 PRD (20, [3, 4, 25, 24], [60, 1, 1, 907, 0, 14]) ws (vs) := by
    refine ⟨nf_in hl rfl, sgq_1798 ?_⟩
    · show NWA (w_fi ws (n_v vs 3) 0) (w_ei ws (w_ar ws (n_v vs 3) 14)) (v_iv (n_v vs 4)) (v_iv (n_v vs 25)) (v_iv (n_v vs 24))
      rw [q3]
      exact vc_Pn_orderFromTo_10_0 (v_iv (n_v vs 4)) (v_iv (n_v vs 5)) (v_iv (n_v vs 7)) (v_iv (n_v vs 8)) (v_iv (n_v vs 9)) (v_iv (n_v vs 17)) (v_iv (n_v vs 21)) (v_iv (n_v vs 24)) (v_iv (n_v vs 25)) (w_fi ws (n_v vs 1) 0) (w_ei ws (w_ar ws (n_v vs 1) 14)) k4 k5 k7 k8 k9 k17 k21 k24 k25 d0 d1 d2 g2 f3 f4 f5 f6 f13 f18 f21 f23 kz_1_0
  have nf1 : fc_1 PRD (20, [2, 5, 4, 24], [60, 0, 1, 908, 6]) ws (vs) := by
    refine ⟨nf_in hl rfl, sgq_1206 ?_⟩
    · show EWY (w_ei ws (w_ar ws (n_v vs 2) 6)) (v_iv (n_v vs 5)) (v_iv (n_v vs 4)) (v_iv (n_v vs 24))
      rw [q2]
      exact vc_Pn_orderFromTo_10_1 (v_iv (n_v vs 4)) (v_iv (n_v vs 5)) (v_iv (n_v vs 8)) (v_iv (n_v vs 9)) (v_iv (n_v vs 17)) (v_iv (n_v vs 21)) (v_iv (n_v vs 24)) (w_fi ws (n_v vs 1) 0) (w_ei ws (w_ar ws (n_v vs 0) 6)) k4 k5 k8 k9 k17 k21 k24 g2 f5 f13 f20 kz_1_0
  refine ⟨(fun _ h => (by cases h)), [], trivial, ?_, (fun _ h => (by cases h))⟩
  rw [List.append_nil]
  exact List.forall_mem_cons.mpr ⟨⟨show (20 : Nat) < 100 from by decide, nf0⟩, List.forall_mem_cons.mpr ⟨⟨show (20 : Nat) < 100 from by decide, nf1⟩, (fun _ h => (by cases h))⟩⟩
set_option maxHeartbeats 4000000 in
theorem vc_Pn_orderFromTo_11_0 (x4 : Int) (x5 : Int) (x6 : Int) (x8 : Int) (x9 : Int) (x10 : Int) (lineLength_0 : Int) (nodes_0o1 : Int) (tail_0o1 : Int → Int) (head_0o1 : Int → Int) (line_0 : Int → Int) (k4 : 0 ≤ x4 ∧ x4 ≤ 16777215) (k5 : 0 ≤ x5 ∧ x5 ≤ 16777215) (k8 : 0 ≤ x8 ∧ x8 ≤ 24) (k9 : 0 ≤ x9 ∧ x9 ≤ 24) (d1 : x9 + 0 ≤ x8 ∧ x8 ≤ x9 + 4294967296) (g2 : x9 = lineLength_0) (f9 : OFQ (lineLength_0) (line_0) (x5) (x4) (x8)) (kz_0_3 : 0 ≤ lineLength_0 ∧ lineLength_0 ≤ 24) : OFL (lineLength_0) (line_0) (x5) (x4) := by
  first
    | assumption
    | (rw [show gx = x5 by omega, show gy = x4 by omega]; assumption)
    | exact ofl_of ‹OFQ _ _ _ _ _› (by omega)
    | (have ha : ALC nodes_0o1 x25 := by rw [← ‹x22 = nodes_0o1›]; exact alc_of (p := x23) ‹bvp x23 = _› (by omega) (by assumption) (by omega) (by omega) (by omega) (by omega) (by omega)
       have e1 : line_0 0 = tail_0o1 0 := by rw [(hE_0_2_2 0 (by omega)).2 (by omega), (hE_0_2_3 0 (by omega)).1 (by omega), (by assumption : x6 = tail_0o1 x5), show x5 = 0 by omega]
       have e2 : line_0 1 = head_0o1 0 := by rw [(hE_0_2_2 1 (by omega)).1 (by omega), (by assumption : x10 = head_0o1 x9), show x9 = 0 by omega]
       exact (ofs_both (a := x14) (b := x18) (o1 := x12) (o2 := x16) (p := x15) (q := x19) ‹EAR _ _ _ _› (by omega) ha e1 e2 (by rw [show (0 : Int) = x13 by omega]; assumption) (by rw [show (1 : Int) = x17 by omega]; assumption) (by omega) (by omega) (by assumption) (by assumption) (by assumption) (by omega)).1)
  
set_option maxHeartbeats 4000000 in
theorem vc_Pn_orderFromTo_11_1 (x6 : Int) (x10 : Int) (lineLength_0 : Int) (k6 : 0 ≤ x6 ∧ x6 ≤ 23) (k10 : 1 ≤ x10 ∧ x10 ≤ 24) (d0 : x6 + 1 ≤ x10 ∧ x10 ≤ x6 + 1) (f10 : (x6 + 3) ≤ lineLength_0) (kz_0_3 : 0 ≤ lineLength_0 ∧ lineLength_0 ≤ 24) : (x10 + 2) ≤ lineLength_0 := by
  first
    | omega
    | exact ear_use (len := 0) (ln_zq := fun z => z) ‹EAR _ _ _ _› ‹OFT _ _ _› ‹OFN _ _› ‹NWA _ _ _ _ _› ‹EWY _ _ _ _› (by first | exact Or.inl (by omega) | exact Or.inr (by omega)) rfl rfl
  
def o_Pn_orderFromTo_11 : or_T := (59, 11, [(0, (2, 0, 0, [7])), (4, (0, 0, 16777215, [])), (5, (0, 0, 16777215, [])), (6, (0, 0, 23, [])), (8, (0, 0, 24, [])), (9, (0, 0, 24, [])), (10, (0, 1, 24, []))], [(9, [9, 2], [3]), (20, [2, 5, 4, 8], [60, 1, 1, 902, 3, 2]), (20, [6, 2], [50, 1, 0, 1003, 0, 6, 4, 2, 1, 0, 0, 3, 2, 1, 3]), (24, [0, 2], [])], [], [], [(20, [2, 5, 4], [60, 1, 1, 900, 3, 2]), (20, [10, 2], [50, 1, 0, 1003, 0, 6, 4, 2, 1, 0, 0, 2, 2, 1, 3])], [], [(10, 6, 1, 1), (8, 9, 0, 4294967296)])
theorem oo_Pn_orderFromTo_11 {kA : Nat → ClassId} : or_ok PRD kA GG o_Pn_orderFromTo_11 := by
  refine or_mk fun A ta ws vs hD hth hl => ?_
  intro t0 r0 t4 k4 t5 k5 t6 k6 t8 k8 t9 k9 t10 k10 d0 d1 f2 f9 f10 f11
  replace f2 := shm_137 f2
  replace f9 := shm_1799 f9
  replace f10 := shm_913 f10
  replace f11 := shm_5 f11
  have q2 : n_v vs 2 = n_v vs 0 := f11.symm
  simp only [q2] at f2 f9 f10
  have g2 : v_iv (n_v vs 9) = w_fi ws (n_v vs 0) 3 := congrArg v_iv f2
  have kz_0_3 := fdq_13 hD hth r0
  have nf0 : fc_1 PRD (20, [2, 5, 4], [60, 1, 1, 900, 3, 2]) ws (vs) := by
    refine ⟨nf_in hl rfl, sgq_908 ?_⟩
    · show OFL (w_fi ws (n_v vs 2) 3) (w_ei ws (w_ar ws (n_v vs 2) 2)) (v_iv (n_v vs 5)) (v_iv (n_v vs 4))
      rw [q2]
      exact vc_Pn_orderFromTo_11_0 (v_iv (n_v vs 4)) (v_iv (n_v vs 5)) (v_iv (n_v vs 6)) (v_iv (n_v vs 8)) (v_iv (n_v vs 9)) (v_iv (n_v vs 10)) (w_fi ws (n_v vs 0) 3) (w_fi ws (n_v vs 1) 0) (w_ei ws (w_ar ws (n_v vs 1) 7)) (w_ei ws (w_ar ws (n_v vs 1) 8)) (w_ei ws (w_ar ws (n_v vs 0) 2)) k4 k5 k8 k9 d1 g2 f9 kz_0_3
  have nf1 : fc_1 PRD (20, [10, 2], [50, 1, 0, 1003, 0, 6, 4, 2, 1, 0, 0, 2, 2, 1, 3]) ws (vs) := by
    refine ⟨nf_in hl rfl, sgq_911 ?_⟩
    · show (v_iv (n_v vs 10) + 2) ≤ w_fi ws (n_v vs 2) 3
      rw [q2]
      exact vc_Pn_orderFromTo_11_1 (v_iv (n_v vs 6)) (v_iv (n_v vs 10)) (w_fi ws (n_v vs 0) 3) k6 k10 d0 f10 kz_0_3
  refine ⟨(fun _ h => (by cases h)), [], trivial, ?_, (fun _ h => (by cases h))⟩
  rw [List.append_nil]
  exact List.forall_mem_cons.mpr ⟨⟨show (20 : Nat) < 100 from by decide, nf0⟩, List.forall_mem_cons.mpr ⟨⟨show (20 : Nat) < 100 from by decide, nf1⟩, (fun _ h => (by cases h))⟩⟩
set_option maxHeartbeats 4000000 in
theorem vc_Pn_orderFromTo_12_0 (x4 : Int) (x5 : Int) (x6 : Int) (x9 : Int) (x10 : Int) (x12 : Int) (x13 : Int) (x14 : Int) (x15 : Int) (line_0 : Int → Int) (nodes_0o1 : Int) (tail_0o1 : Int → Int) (head_0o1 : Int → Int) (k4 : 0 ≤ x4 ∧ x4 ≤ 16777215) (k13 : 1 ≤ x13 ∧ x13 ≤ 8388608) (k14 : 0 ≤ x14 ∧ x14 ≤ 16777215) (f2 : bvp (x14) = bvp (x4) ||| bvp (x13)) (f11 : OFT (tail_0o1) (head_0o1) (x4)) : OFT (tail_0o1) (head_0o1) (x14) := by
  first
    | assumption
    | exact oft_or ‹OFT _ _ _› (by assumption)
    | (have ha : ALC nodes_0o1 x25 := by rw [← ‹x22 = nodes_0o1›]; exact alc_of (p := x23) ‹bvp x23 = _› (by omega) (by assumption) (by omega) (by omega) (by omega) (by omega) (by omega)
       have e1 : line_0 0 = tail_0o1 0 := by rw [(hE_0_2_2 0 (by omega)).2 (by omega), (hE_0_2_3 0 (by omega)).1 (by omega), (by assumption : x6 = tail_0o1 x5), show x5 = 0 by omega]
       have e2 : line_0 1 = head_0o1 0 := by rw [(hE_0_2_2 1 (by omega)).1 (by omega), (by assumption : x10 = head_0o1 x9), show x9 = 0 by omega]
       exact (ofs_both (a := x14) (b := x18) (o1 := x12) (o2 := x16) (p := x15) (q := x19) ‹EAR _ _ _ _› (by omega) ha e1 e2 (by rw [show (0 : Int) = x13 by omega]; assumption) (by rw [show (1 : Int) = x17 by omega]; assumption) (by omega) (by omega) (by assumption) (by assumption) (by assumption) (len := 2) (by omega)).2)
  
set_option maxHeartbeats 4000000 in
theorem vc_Pn_orderFromTo_12_1 (x4 : Int) (x5 : Int) (x8 : Int) (x9 : Int) (x10 : Int) (x12 : Int) (x13 : Int) (x14 : Int) (x15 : Int) (line_0 : Int → Int) (lineLength_0 : Int) (k4 : 0 ≤ x4 ∧ x4 ≤ 16777215) (k5 : 0 ≤ x5 ∧ x5 ≤ 16777215) (k8 : 0 ≤ x8 ∧ x8 ≤ 23) (k9 : 1 ≤ x9 ∧ x9 ≤ 24) (k10 : 1 ≤ x10 ∧ x10 ≤ 1) (k12 : 0 ≤ x12 ∧ x12 ≤ 23) (k13 : 1 ≤ x13 ∧ x13 ≤ 8388608) (k14 : 0 ≤ x14 ∧ x14 ≤ 16777215) (k15 : 1 ≤ x15 ∧ x15 ≤ 24) (d0 : x8 + 1 ≤ x15 ∧ x15 ≤ x8 + 1) (d1 : x9 + (-4294967296) ≤ x15 ∧ x15 ≤ x9 + 0) (d2 : x9 + (-4294967296) ≤ x8 ∧ x8 ≤ x9 + (-1)) (f0 : x15 = x8 + 1) (f2 : bvp (x14) = bvp (x4) ||| bvp (x13)) (f3 : bvp (x13) = bvp (x10) <<< (x12).toNat) (h4 : x12 = line_0 (x8)) (g7 : x9 = lineLength_0) (f14 : OFQ (lineLength_0) (line_0) (x5) (x4) (x8)) (kz_0_3 : 0 ≤ lineLength_0 ∧ lineLength_0 ≤ 24) : OFQ (lineLength_0) (line_0) (x5) (x14) (x15) := by
  first
    | (have h := (‹OFP _ _ _ _›); rw [show x10 = x5 by omega, show x11 = x4 by omega] at h; exact ofq_start h (by omega))
    | exact ofq_step (v := x12) (one := x10) (q := x13) ‹OFQ _ _ _ _ _› (by omega) (by assumption) (by omega) (by assumption) (by assumption) (by omega)
  
def o_Pn_orderFromTo_12 : or_T := (155, 16, [(0, (2, 0, 0, [7])), (4, (0, 0, 16777215, [])), (5, (0, 0, 16777215, [])), (8, (0, 0, 23, [])), (9, (0, 1, 24, [])), (10, (0, 1, 1, [])), (12, (0, 0, 23, [])), (13, (0, 1, 8388608, [])), (14, (0, 0, 16777215, [])), (15, (0, 1, 24, []))], [(6, [15, 8], [1]), (16, [14, 4, 13], [1]), (16, [13, 10, 12], [3]), (10, [12, 11, 8], []), (9, [11, 2], [2]), (9, [9, 2], [3]), (24, [1, 3], []), (20, [3, 4], [60, 0, 2, 903, 7, 8]), (20, [2, 5, 4, 8], [60, 1, 1, 902, 3, 2]), (24, [0, 2], [])], [], [], [(20, [3, 14], [60, 0, 2, 903, 7, 8]), (20, [2, 5, 14, 15], [60, 1, 1, 902, 3, 2])], [], [(15, 8, 1, 1), (15, 9, -4294967296, 0), (8, 9, -4294967296, -1)])
theorem oo_Pn_orderFromTo_12 {kA : Nat → ClassId} : or_ok PRD kA GG o_Pn_orderFromTo_12 := by
  refine or_mk fun A ta ws vs hD hth hl => ?_
  intro t0 r0 t4 k4 t5 k5 t8 k8 t9 k9 t10 k10 t12 k12 t13 k13 t14 k14 t15 k15 d0 d1 d2 f0 f2 f3 f4 f5 f7 f10 f11 f14 f16
  replace f0 := shm_4 f0
  replace f2 := shm_354 f2
  replace f3 := shm_349 f3
  replace f4 := shm_107 f4
  replace f5 := shm_120 f5
  replace f7 := shm_137 f7
  replace f10 := shm_5 f10
  replace f11 := shm_1795 f11
  replace f14 := shm_1799 f14
  replace f16 := shm_5 f16
  have q3 : n_v vs 3 = n_v vs 1 := f10.symm
  have q2 : n_v vs 2 = n_v vs 0 := f16.symm
  simp only [q2, q3] at f5 f7 f11 f14
  have ad_11 : v_ad (n_v vs 11) = w_ar ws (n_v vs 0) 2 := congrArg v_ad f5
  simp only [ad_11] at f4
  have h4 : v_iv (n_v vs 12) = w_ei ws (w_ar ws (n_v vs 0) 2) (v_iv (n_v vs 8)) := f4
  have g7 : v_iv (n_v vs 9) = w_fi ws (n_v vs 0) 3 := congrArg v_iv f7
  have kz_0_3 := fdq_13 hD hth r0
  have nf0 : fc_1 PRD (20, [3, 14], [60, 0, 2, 903, 7, 8]) ws (vs) := by
    refine ⟨nf_in hl rfl, sgq_1795 ?_⟩
    · show OFT (w_ei ws (w_ar ws (n_v vs 3) 7)) (w_ei ws (w_ar ws (n_v vs 3) 8)) (v_iv (n_v vs 14))
      rw [q3]
      exact vc_Pn_orderFromTo_12_0 (v_iv (n_v vs 4)) (v_iv (n_v vs 5)) (v_iv (n_v vs 6)) (v_iv (n_v vs 9)) (v_iv (n_v vs 10)) (v_iv (n_v vs 12)) (v_iv (n_v vs 13)) (v_iv (n_v vs 14)) (v_iv (n_v vs 15)) (w_ei ws (w_ar ws (n_v vs 0) 2)) (w_fi ws (n_v vs 1) 0) (w_ei ws (w_ar ws (n_v vs 1) 7)) (w_ei ws (w_ar ws (n_v vs 1) 8)) k4 k13 k14 f2 f11
  have nf1 : fc_1 PRD (20, [2, 5, 14, 15], [60, 1, 1, 902, 3, 2]) ws (vs) := by
    refine ⟨nf_in hl rfl, sgq_1799 ?_⟩
    · show OFQ (w_fi ws (n_v vs 2) 3) (w_ei ws (w_ar ws (n_v vs 2) 2)) (v_iv (n_v vs 5)) (v_iv (n_v vs 14)) (v_iv (n_v vs 15))
      rw [q2]
      exact vc_Pn_orderFromTo_12_1 (v_iv (n_v vs 4)) (v_iv (n_v vs 5)) (v_iv (n_v vs 8)) (v_iv (n_v vs 9)) (v_iv (n_v vs 10)) (v_iv (n_v vs 12)) (v_iv (n_v vs 13)) (v_iv (n_v vs 14)) (v_iv (n_v vs 15)) (w_ei ws (w_ar ws (n_v vs 0) 2)) (w_fi ws (n_v vs 0) 3) k4 k5 k8 k9 k10 k12 k13 k14 k15 d0 d1 d2 f0 f2 f3 h4 g7 f14 kz_0_3
  refine ⟨(fun _ h => (by cases h)), [], trivial, ?_, (fun _ h => (by cases h))⟩
  rw [List.append_nil]
  exact List.forall_mem_cons.mpr ⟨⟨show (20 : Nat) < 100 from by decide, nf0⟩, List.forall_mem_cons.mpr ⟨⟨show (20 : Nat) < 100 from by decide, nf1⟩, (fun _ h => (by cases h))⟩⟩
def n_Pn_orderFromTo_an : List an_T := [(59, [(0, (2, 0, 0, [7])), (1, (2, 0, 0, [3])), (2, (0, 0, 16777215, [])), (3, (0, 0, 16777215, [])), (4, (0, 0, 24, []))], [], (0, 0), [(0, 0, 99941), (1, 6, 24), (0, 0, 100000), (0, 0, 0), (0, 0, 0)], [], [], [(2, 0, 0, [7]), (2, 0, 0, [3])], 0, [], [(20, [3], [60, 1, 1, 637, 0, 14]), (20, [3, 5], [60, 1, 0, 638, 0]), (24, [1, 3], []), (20, [3, 4], [60, 0, 2, 903, 7, 8]), (20, [3, 5], [60, 1, 0, 904, 0]), (20, [3], [60, 1, 3, 905, 0, 14, 7, 8]), (20, [2, 5, 4], [60, 1, 1, 900, 3, 2]), (20, [6, 2], [50, 1, 0, 1003, 0, 6, 4, 2, 1, 0, 0, 2, 2, 1, 3]), (24, [0, 2], []), (24, [1, 3], [])]), (77, [(0, (2, 0, 0, [7])), (1, (2, 0, 0, [3])), (2, (0, 0, 16777215, [])), (3, (0, 0, 16777215, [])), (4, (0, 0, 23, [])), (5, (0, 0, 25, [])), (6, (0, 0, 24, []))], [], (0, 0), [(0, 0, 99941), (1, 6, 24), (0, 0, 99923), (1, 8, 24), (0, 0, 100000)], [(7, 8, (Int.negSucc 999999999999), 24)], [], [(2, 0, 0, [7]), (2, 0, 0, [3])], 0, [], [(20, [3], [60, 1, 1, 637, 0, 14]), (20, [3, 5], [60, 1, 0, 638, 0]), (24, [1, 3], []), (20, [3, 4], [60, 0, 2, 903, 7, 8]), (20, [3, 5], [60, 1, 0, 904, 0]), (20, [3], [60, 1, 3, 905, 0, 14, 7, 8]), (20, [2, 5, 4], [60, 1, 1, 900, 3, 2]), (20, [6, 2], [50, 1, 0, 1003, 0, 6, 4, 2, 1, 0, 0, 2, 2, 1, 3]), (20, [3, 4], [60, 1, 0, 906, 0]), (20, [3, 4, 8, 7], [60, 1, 1, 907, 0, 14]), (20, [2, 5, 4, 7], [60, 0, 1, 908, 6]), (24, [0, 2], []), (24, [1, 3], [])]), (155, [(0, (2, 0, 0, [7])), (1, (2, 0, 0, [3])), (2, (0, 0, 16777215, [])), (3, (0, 0, 16777215, [])), (4, (0, 0, 23, [])), (5, (0, 0, 25, [])), (6, (0, 0, 24, []))], [], (0, 0), [(0, 0, 99941), (1, 6, 24), (0, 0, 99845), (1, 8, 24), (0, 0, 100000)], [], [], [(2, 0, 0, [7]), (2, 0, 0, [3])], 0, [], [(20, [3], [60, 1, 1, 637, 0, 14]), (20, [3, 5], [60, 1, 0, 638, 0]), (24, [1, 3], []), (20, [3, 4], [60, 0, 2, 903, 7, 8]), (20, [3, 5], [60, 1, 0, 904, 0]), (20, [3], [60, 1, 3, 905, 0, 14, 7, 8]), (20, [2, 5, 4, 8], [60, 1, 1, 902, 3, 2]), (20, [6, 2], [50, 1, 0, 1003, 0, 6, 4, 2, 1, 0, 0, 3, 2, 1, 3]), (24, [0, 2], []), (24, [1, 3], [])])]
def t_Pn_orderFromTo_ct : ct_L := [(1, 224, e_Pn_insertWay), (408, 220, e_Fa_shortestWay_at_Grnear_Pnlevel_Pnway)]
set_option maxRecDepth 100000 in
theorem c_Pn_orderFromTo {l : Launch} {D : va_G} {kA : Nat → ClassId} (h_Fa_shortestWay_at_Grnear_Pnlevel_Pnway : ct_ok PRD l D kA GG y_Fa_shortestWay_at_Grnear_Pnlevel_Pnway z_Fa_shortestWay_at_Grnear_Pnlevel_Pnway e_Fa_shortestWay_at_Grnear_Pnlevel_Pnway) (h_Pn_insertWay : ct_ok PRD l D kA GG y_Pn_insertWay z_Pn_insertWay e_Pn_insertWay) : ct_ok PRD l D kA GG y_Pn_orderFromTo z_Pn_orderFromTo e_Pn_orderFromTo := chk_all_ok (FT := [(22, 7, 2), (25, 7, 3), (32, 7, 5), (35, 7, 6), (47, 3, 0), (214, 3, 7), (218, 3, 8), (219, 3, 14)]) (PT := [(25, 7, 3, .int)]) (CT := t_Pn_orderFromTo_ct) (KT := []) (NT := []) (AN := n_Pn_orderFromTo_an) (OT := [o_Pn_orderFromTo_0, o_Pn_orderFromTo_1, o_Pn_orderFromTo_2, o_Pn_orderFromTo_3, o_Pn_orderFromTo_4, o_Pn_orderFromTo_5, o_Pn_orderFromTo_6, o_Pn_orderFromTo_7, o_Pn_orderFromTo_8, o_Pn_orderFromTo_9, o_Pn_orderFromTo_10, o_Pn_orderFromTo_11, o_Pn_orderFromTo_12]) 5 488 (List.forall_mem_cons.mpr ⟨oo_Pn_orderFromTo_0, List.forall_mem_cons.mpr ⟨oo_Pn_orderFromTo_1, List.forall_mem_cons.mpr ⟨oo_Pn_orderFromTo_2, List.forall_mem_cons.mpr ⟨oo_Pn_orderFromTo_3, List.forall_mem_cons.mpr ⟨oo_Pn_orderFromTo_4, List.forall_mem_cons.mpr ⟨oo_Pn_orderFromTo_5, List.forall_mem_cons.mpr ⟨oo_Pn_orderFromTo_6, List.forall_mem_cons.mpr ⟨oo_Pn_orderFromTo_7, List.forall_mem_cons.mpr ⟨oo_Pn_orderFromTo_8, List.forall_mem_cons.mpr ⟨oo_Pn_orderFromTo_9, List.forall_mem_cons.mpr ⟨oo_Pn_orderFromTo_10, List.forall_mem_cons.mpr ⟨oo_Pn_orderFromTo_11, List.forall_mem_cons.mpr ⟨oo_Pn_orderFromTo_12, List.forall_mem_nil _⟩⟩⟩⟩⟩⟩⟩⟩⟩⟩⟩⟩⟩) (by decide +kernel) ⟨List.forall_mem_cons.mpr ⟨gf_Pn_22, List.forall_mem_cons.mpr ⟨gf_Pn_25, List.forall_mem_cons.mpr ⟨gf_Pn_32, List.forall_mem_cons.mpr ⟨gf_Pn_35, List.forall_mem_cons.mpr ⟨gf_Pn_47, List.forall_mem_cons.mpr ⟨gf_Pn_214, List.forall_mem_cons.mpr ⟨gf_Pn_218, List.forall_mem_cons.mpr ⟨gf_Pn_219, List.forall_mem_nil _⟩⟩⟩⟩⟩⟩⟩⟩, List.forall_mem_cons.mpr ⟨pf_Pn_25, List.forall_mem_nil _⟩, List.forall_mem_cons.mpr ⟨cl_virtual (y := y_Pn_insertWay) (ci := 7) rfl rfl ⟨_, _, rfl⟩ (by decide +kernel) h_Pn_insertWay wm_1592 wm_20 wm_1589 wm_1591 wv_7_2 ⟨by decide, by decide, by decide +kernel⟩ (by decide), List.forall_mem_cons.mpr ⟨cl_static (y := y_Fa_shortestWay_at_Grnear_Pnlevel_Pnway) h_Fa_shortestWay_at_Grnear_Pnlevel_Pnway wm_1077 wm_7 wm_1588 wm_1076 ⟨by decide, by decide, by decide +kernel⟩ (by decide), List.forall_mem_nil _⟩⟩, List.forall_mem_nil _, List.forall_mem_nil _, GG_pl⟩ (by decide +kernel)

set_option maxHeartbeats 4000000 in
theorem vc_Mo_newNode_0_0 (all_0 : Int → Int) (r_0 : Int) (now_0 : Int → Int) (latest_0 : Int → Int) (f3 : RWS (r_0) (all_0) (now_0) (latest_0)) : ROWS (all_0) (now_0) (latest_0) := by
  exact ‹RWS _ _ _ _›.1
def o_Mo_newNode_0 : or_T := (26, 6, [], [(20, [0], [60, 1, 3, 199, 5, 2, 3, 4])], [], [], [(20, [0], [60, 0, 3, 198, 2, 3, 4])], [], [])
theorem oo_Mo_newNode_0 {kA : Nat → ClassId} : or_ok PRD kA GG o_Mo_newNode_0 := by
  refine or_mk fun A ta ws vs hD hth hl => ?_
  intro f3
  have nf0 : fc_1 PRD (20, [0], [60, 0, 3, 198, 2, 3, 4]) ws (vs) := ⟨nf_in hl rfl, sgq_1230 (vc_Mo_newNode_0_0 (w_ei ws (w_ar ws (n_v vs 0) 2)) (w_fi ws (n_v vs 0) 5) (w_ei ws (w_ar ws (n_v vs 0) 3)) (w_ei ws (w_ar ws (n_v vs 0) 4)) (shm_980 f3))⟩
  refine ⟨(fun _ h => (by cases h)), [], trivial, ?_, (fun _ h => (by cases h))⟩
  rw [List.append_nil]
  exact List.forall_mem_cons.mpr ⟨⟨show (20 : Nat) < 100 from by decide, nf0⟩, (fun _ h => (by cases h))⟩
set_option maxHeartbeats 4000000 in
theorem vc_Mo_newNode_1_0 (all_0 : Int → Int) (r_0 : Int) (now_0 : Int → Int) (latest_0 : Int → Int) (f6 : RWS (r_0) (all_0) (now_0) (latest_0)) : ROWS (all_0) (now_0) (latest_0) := by
  exact ‹RWS _ _ _ _›.1
def o_Mo_newNode_1 : or_T := (26, 11, [], [(20, [0], [60, 1, 3, 199, 5, 2, 3, 4])], [], [], [(20, [0], [60, 0, 3, 198, 2, 3, 4])], [], [])
theorem oo_Mo_newNode_1 {kA : Nat → ClassId} : or_ok PRD kA GG o_Mo_newNode_1 := by
  refine or_mk fun A ta ws vs hD hth hl => ?_
  intro f6
  have nf0 : fc_1 PRD (20, [0], [60, 0, 3, 198, 2, 3, 4]) ws (vs) := ⟨nf_in hl rfl, sgq_1230 (vc_Mo_newNode_1_0 (w_ei ws (w_ar ws (n_v vs 0) 2)) (w_fi ws (n_v vs 0) 5) (w_ei ws (w_ar ws (n_v vs 0) 3)) (w_ei ws (w_ar ws (n_v vs 0) 4)) (shm_980 f6))⟩
  refine ⟨(fun _ h => (by cases h)), [], trivial, ?_, (fun _ h => (by cases h))⟩
  rw [List.append_nil]
  exact List.forall_mem_cons.mpr ⟨⟨show (20 : Nat) < 100 from by decide, nf0⟩, (fun _ h => (by cases h))⟩
def o_Mo_newNode_2 : or_T := (43, 13, [(0, (2, 0, 0, [165])), (1, (0, 0, 3, [])), (3, (0, 0, 9, [])), (4, (0, 24, 24, [])), (6, (0, 0, 8, [])), (7, (0, 1, 1, [])), (8, (0, -1, 7, [])), (10, (0, 9, 9, []))], [(7, [3, 10], [5]), (2, [8, 6, 7], []), (20, [6, 0], [30, 0, 1, 0, 0, -1, 3, 2005002]), (20, [6, 0], [30, 0, -1, 0, 0, 1, 3, 2005002]), (7, [3, 4], [1]), (20, [3, 0], [30, 0, 1, 0, 0, -1, 3, 2005000]), (20, [3, 0], [30, 0, -1, 0, 0, 1, 3, 2005000]), (20, [0], [60, 1, 3, 199, 5, 2, 3, 4]), (20, [0, 1], [50, 1, 1, 5, 3, 1, 3, 2, 0, 5, 4, 6, 6, 2, 0, 16709, 1, 1, 6, 2, 0, 539, 3, 0, 3, 1, 1])], [], [], [(24, [0, 0], [])], [], [(8, 6, -1, -1)])
theorem oo_Mo_newNode_2 {kA : Nat → ClassId} : or_ok PRD kA GG o_Mo_newNode_2 := by
  refine or_mk fun A ta ws vs hD hth hl => ?_
  intro t0 r0 t1 k1 t3 k3 t4 k4 t6 k6 t7 k7 t8 k8 t10 k10 d0 f0 f1 f2 f3 f4 f5 f6 f7 f8
  have nf0 : fc_1 PRD (24, [0, 0], []) ws (vs) := by
    refine ⟨nf_in hl rfl, sgq_1 ?_⟩
    · show n_v vs 0 = n_v vs 0
      first | rfl | simp only [true_and]
  refine ⟨(fun _ h => (by cases h)), [], trivial, ?_, (fun _ h => (by cases h))⟩
  rw [List.append_nil]
  exact List.forall_mem_cons.mpr ⟨⟨show (24 : Nat) < 100 from by decide, nf0⟩, (fun _ h => (by cases h))⟩
def o_Mo_newNode_3 : or_T := (43, 13, [(0, (2, 0, 0, [165])), (1, (0, 0, 3, [])), (3, (0, 10, 23, [])), (4, (0, 24, 24, [])), (6, (0, 0, 8, [])), (7, (0, 1, 1, [])), (8, (0, -1, 7, [])), (10, (0, 9, 9, []))], [(7, [3, 10], [4]), (2, [8, 6, 7], []), (20, [6, 0], [30, 0, 1, 0, 0, -1, 3, 2005002]), (20, [6, 0], [30, 0, -1, 0, 0, 1, 3, 2005002]), (7, [3, 4], [1]), (20, [3, 0], [30, 0, 1, 0, 0, -1, 3, 2005000]), (20, [3, 0], [30, 0, -1, 0, 0, 1, 3, 2005000]), (20, [0], [60, 1, 3, 199, 5, 2, 3, 4]), (20, [0, 1], [50, 1, 1, 5, 3, 1, 3, 2, 0, 5, 4, 6, 6, 2, 0, 16709, 1, 1, 6, 2, 0, 539, 3, 0, 3, 1, 1])], [], [], [(24, [0, 0], [])], [], [(8, 6, -1, -1)])
theorem oo_Mo_newNode_3 {kA : Nat → ClassId} : or_ok PRD kA GG o_Mo_newNode_3 := by
  refine or_mk fun A ta ws vs hD hth hl => ?_
  intro t0 r0 t1 k1 t3 k3 t4 k4 t6 k6 t7 k7 t8 k8 t10 k10 d0 f0 f1 f2 f3 f4 f5 f6 f7 f8
  have nf0 : fc_1 PRD (24, [0, 0], []) ws (vs) := by
    refine ⟨nf_in hl rfl, sgq_1 ?_⟩
    · show n_v vs 0 = n_v vs 0
      first | rfl | simp only [true_and]
  refine ⟨(fun _ h => (by cases h)), [], trivial, ?_, (fun _ h => (by cases h))⟩
  rw [List.append_nil]
  exact List.forall_mem_cons.mpr ⟨⟨show (24 : Nat) < 100 from by decide, nf0⟩, (fun _ h => (by cases h))⟩
set_option maxHeartbeats 4000000 in
theorem vc_Mo_newNode_4_0 (x6 : Int) (x8 : Int) (all_0 : Int → Int) (r_0 : Int) (gx : Int) (k6 : 0 ≤ x6 ∧ x6 ≤ 23) (k8 : 0 ≤ x8 ∧ x8 ≤ 23) (d0 : x6 + 0 ≤ x8 ∧ x8 ≤ x6 + 4294967296) (d1 : x6 + (-4294967296) ≤ x8 ∧ x8 ≤ x6 + 0) (f3 : 1 * x6 + ((-1) * all_0 (r_0 + 0) + 0) ≤ 0) (f4 : (-1) * x6 + (1 * all_0 (r_0 + 0) + 0) ≤ 0) (ex2 : gx = x6) : 1 * gx + ((-1) * x6 + 0) ≤ 0 := by
  first | omega
set_option maxHeartbeats 4000000 in
theorem vc_Mo_newNode_4_1 (x6 : Int) (x8 : Int) (all_0 : Int → Int) (r_0 : Int) (gx : Int) (k6 : 0 ≤ x6 ∧ x6 ≤ 23) (k8 : 0 ≤ x8 ∧ x8 ≤ 23) (d0 : x6 + 0 ≤ x8 ∧ x8 ≤ x6 + 4294967296) (d1 : x6 + (-4294967296) ≤ x8 ∧ x8 ≤ x6 + 0) (f3 : 1 * x6 + ((-1) * all_0 (r_0 + 0) + 0) ≤ 0) (f4 : (-1) * x6 + (1 * all_0 (r_0 + 0) + 0) ≤ 0) (ex2 : gx = x6) : (-1) * gx + (1 * x6 + 0) ≤ 0 := by
  first | omega
set_option maxHeartbeats 4000000 in
theorem vc_Mo_newNode_4_2 (x6 : Int) (x8 : Int) (all_0 : Int → Int) (r_0 : Int) (gx : Int) (gy : Int) (k6 : 0 ≤ x6 ∧ x6 ≤ 23) (k8 : 0 ≤ x8 ∧ x8 ≤ 23) (d0 : x6 + 0 ≤ x8 ∧ x8 ≤ x6 + 4294967296) (d1 : x6 + (-4294967296) ≤ x8 ∧ x8 ≤ x6 + 0) (f3 : 1 * x6 + ((-1) * all_0 (r_0 + 0) + 0) ≤ 0) (f4 : (-1) * x6 + (1 * all_0 (r_0 + 0) + 0) ≤ 0) (ex2 : gx = x6) (ey2 : gy = x6) : 1 * gy + ((-1) * x6 + 0) ≤ 0 := by
  first | omega
set_option maxHeartbeats 4000000 in
theorem vc_Mo_newNode_4_3 (x6 : Int) (x8 : Int) (all_0 : Int → Int) (r_0 : Int) (gx : Int) (gy : Int) (k6 : 0 ≤ x6 ∧ x6 ≤ 23) (k8 : 0 ≤ x8 ∧ x8 ≤ 23) (d0 : x6 + 0 ≤ x8 ∧ x8 ≤ x6 + 4294967296) (d1 : x6 + (-4294967296) ≤ x8 ∧ x8 ≤ x6 + 0) (f3 : 1 * x6 + ((-1) * all_0 (r_0 + 0) + 0) ≤ 0) (f4 : (-1) * x6 + (1 * all_0 (r_0 + 0) + 0) ≤ 0) (ex2 : gx = x6) (ey2 : gy = x6) : (-1) * gy + (1 * x6 + 0) ≤ 0 := by
  first | omega
set_option maxHeartbeats 4000000 in
theorem vc_Mo_newNode_4_4 (all_0 : Int → Int) (now_0 : Int → Int) (latest_0 : Int → Int) (r_0 : Int) (f1 : RWS (r_0) (all_0) (now_0) (latest_0)) : RWS (r_0) (all_0) (now_0) (latest_0) := by
  first | assumption
set_option maxHeartbeats 4000000 in
theorem vc_Mo_newNode_4_5 (x4 : Int) (now_0 : Int → Int) (r_0 : Int) (k4 : 0 ≤ x4 ∧ x4 ≤ 3) (f2 : r_0 = ((16709 * x4) + (539 * now_0 (x4)))) : r_0 = ((16709 * x4) + (539 * now_0 (x4))) := by
  first | omega
set_option maxHeartbeats 4000000 in
theorem vc_Mo_newNode_4_6 (x6 : Int) (all_0 : Int → Int) (r_0 : Int) (gx : Int) (gy : Int) (k6 : 0 ≤ x6 ∧ x6 ≤ 23) (f3 : 1 * x6 + ((-1) * all_0 (r_0 + 0) + 0) ≤ 0) (f4 : (-1) * x6 + (1 * all_0 (r_0 + 0) + 0) ≤ 0) (ex2 : gx = x6) (ey2 : gy = x6) : CPn (r_0) (all_0) (gx) (gy) := by
  subst ex2; subst ey2
  try simp only [Int.add_zero] at *
  exact ⟨fun _ => by omega, fun q => by omega, fun q => by omega, fun q => by omega⟩
def o_Mo_newNode_4 : or_T := (155, 9, [(4, (0, 0, 3, [])), (6, (0, 0, 23, [])), (8, (0, 0, 23, []))], [(20, [3], [60, 1, 3, 199, 5, 2, 3, 4]), (20, [3, 4], [50, 1, 1, 5, 3, 1, 3, 2, 0, 5, 4, 6, 6, 2, 0, 16709, 1, 1, 6, 2, 0, 539, 3, 0, 3, 1, 1]), (20, [6, 3], [30, 0, 1, 0, 0, -1, 3, 2005000]), (20, [6, 3], [30, 0, -1, 0, 0, 1, 3, 2005000]), (24, [0, 3], [])], [], [(0, 0, 48, []), (0, 0, 48, [])], [(23, [9, 6], [0, 1, -1]), (23, [9, 6], [0, -1, 1]), (23, [10, 6], [0, 1, -1]), (23, [10, 6], [0, -1, 1]), (20, [3], [60, 1, 3, 199, 5, 2, 3, 4]), (20, [3, 4], [50, 1, 1, 5, 3, 1, 3, 2, 0, 5, 4, 6, 6, 2, 0, 16709, 1, 1, 6, 2, 0, 539, 3, 0, 3, 1, 1]), (20, [3, 9, 10], [60, 1, 1, 216, 5, 2])], [], [(8, 6, 0, 4294967296), (8, 6, -4294967296, 0)])
theorem oo_Mo_newNode_4 {kA : Nat → ClassId} : or_ok PRD kA GG o_Mo_newNode_4 := by
  refine or_mk fun A ta ws vs hD hth hl => ?_
  intro t4 k4 t6 k6 t8 k8 d0 d1 f1 f2 f3 f4 f5
  replace f1 := shm_980 f1
  replace f2 := shm_1037 f2
  replace f3 := shm_126 f3
  replace f4 := shm_127 f4
  replace f5 := shm_5 f5
  have q3 : n_v vs 3 = n_v vs 0 := f5.symm
  simp only [q3] at f1 f2 f3 f4
  obtain ⟨x, ex, hx⟩ := iv_ex (ta := ta) (lo := 0) (hi := 48) (z := v_iv (n_v vs 6)) (by omega) (by omega) (by omega) (by omega)
  have ex2 : v_iv (Value.int x) = v_iv (n_v vs 6) := ex
  have ex3 : 0 ≤ v_iv (Value.int x) ∧ v_iv (Value.int x) ≤ 48 := tv_rng hx
  obtain ⟨y, ey, hy⟩ := iv_ex (ta := ta) (lo := 0) (hi := 48) (z := v_iv (n_v vs 6)) (by omega) (by omega) (by omega) (by omega)
  have ey2 : v_iv (Value.int y) = v_iv (n_v vs 6) := ey
  have ey3 : 0 ≤ v_iv (Value.int y) ∧ v_iv (Value.int y) ≤ 48 := tv_rng hy
  have e_3 : n_v (vs ++ [Value.int x, Value.int y]) 3 = n_v vs 3 := n_v_old (by rw [hl]; decide)
  have e_4 : n_v (vs ++ [Value.int x, Value.int y]) 4 = n_v vs 4 := n_v_old (by rw [hl]; decide)
  have e_6 : n_v (vs ++ [Value.int x, Value.int y]) 6 = n_v vs 6 := n_v_old (by rw [hl]; decide)
  have e_9 : n_v (vs ++ [Value.int x, Value.int y]) 9 = Value.int x := n_v_new0 hl
  have e_10 : n_v (vs ++ [Value.int x, Value.int y]) 10 = Value.int y := n_v_new1 hl
  have nf0 : fc_1 PRD (23, [9, 6], [0, 1, -1]) ws (vs ++ [Value.int x, Value.int y]) := by
    refine ⟨nf_inA hl rfl, sgq_7 ?_⟩
    · show 1 * v_iv (n_v (vs ++ [Value.int x, Value.int y]) 9) + ((-1) * v_iv (n_v (vs ++ [Value.int x, Value.int y]) 6) + 0) ≤ 0
      simp only [e_6, e_9]
      exact vc_Mo_newNode_4_0 (v_iv (n_v vs 6)) (v_iv (n_v vs 8)) (w_ei ws (w_ar ws (n_v vs 0) 2)) (w_fi ws (n_v vs 0) 5) (v_iv (Value.int x)) k6 k8 d0 d1 f3 f4 ex2
  have nf1 : fc_1 PRD (23, [9, 6], [0, -1, 1]) ws (vs ++ [Value.int x, Value.int y]) := by
    refine ⟨nf_inA hl rfl, sgq_22 ?_⟩
    · show (-1) * v_iv (n_v (vs ++ [Value.int x, Value.int y]) 9) + (1 * v_iv (n_v (vs ++ [Value.int x, Value.int y]) 6) + 0) ≤ 0
      simp only [e_6, e_9]
      exact vc_Mo_newNode_4_1 (v_iv (n_v vs 6)) (v_iv (n_v vs 8)) (w_ei ws (w_ar ws (n_v vs 0) 2)) (w_fi ws (n_v vs 0) 5) (v_iv (Value.int x)) k6 k8 d0 d1 f3 f4 ex2
  have nf2 : fc_1 PRD (23, [10, 6], [0, 1, -1]) ws (vs ++ [Value.int x, Value.int y]) := by
    refine ⟨nf_inA hl rfl, sgq_7 ?_⟩
    · show 1 * v_iv (n_v (vs ++ [Value.int x, Value.int y]) 10) + ((-1) * v_iv (n_v (vs ++ [Value.int x, Value.int y]) 6) + 0) ≤ 0
      simp only [e_6, e_10]
      exact vc_Mo_newNode_4_2 (v_iv (n_v vs 6)) (v_iv (n_v vs 8)) (w_ei ws (w_ar ws (n_v vs 0) 2)) (w_fi ws (n_v vs 0) 5) (v_iv (Value.int x)) (v_iv (Value.int y)) k6 k8 d0 d1 f3 f4 ex2 ey2
  have nf3 : fc_1 PRD (23, [10, 6], [0, -1, 1]) ws (vs ++ [Value.int x, Value.int y]) := by
    refine ⟨nf_inA hl rfl, sgq_22 ?_⟩
    · show (-1) * v_iv (n_v (vs ++ [Value.int x, Value.int y]) 10) + (1 * v_iv (n_v (vs ++ [Value.int x, Value.int y]) 6) + 0) ≤ 0
      simp only [e_6, e_10]
      exact vc_Mo_newNode_4_3 (v_iv (n_v vs 6)) (v_iv (n_v vs 8)) (w_ei ws (w_ar ws (n_v vs 0) 2)) (w_fi ws (n_v vs 0) 5) (v_iv (Value.int x)) (v_iv (Value.int y)) k6 k8 d0 d1 f3 f4 ex2 ey2
  have nf4 : fc_1 PRD (20, [3], [60, 1, 3, 199, 5, 2, 3, 4]) ws (vs ++ [Value.int x, Value.int y]) := by
    refine ⟨nf_inA hl rfl, sgq_980 ?_⟩
    · show RWS (w_fi ws (n_v (vs ++ [Value.int x, Value.int y]) 3) 5) (w_ei ws (w_ar ws (n_v (vs ++ [Value.int x, Value.int y]) 3) 2)) (w_ei ws (w_ar ws (n_v (vs ++ [Value.int x, Value.int y]) 3) 3)) (w_ei ws (w_ar ws (n_v (vs ++ [Value.int x, Value.int y]) 3) 4))
      simp only [e_3, q3]
      exact vc_Mo_newNode_4_4 (w_ei ws (w_ar ws (n_v vs 0) 2)) (w_ei ws (w_ar ws (n_v vs 0) 3)) (w_ei ws (w_ar ws (n_v vs 0) 4)) (w_fi ws (n_v vs 0) 5) f1
  have nf5 : fc_1 PRD (20, [3, 4], [50, 1, 1, 5, 3, 1, 3, 2, 0, 5, 4, 6, 6, 2, 0, 16709, 1, 1, 6, 2, 0, 539, 3, 0, 3, 1, 1]) ws (vs ++ [Value.int x, Value.int y]) := by
    refine ⟨nf_inA hl rfl, sgq_1037 ?_⟩
    · show w_fi ws (n_v (vs ++ [Value.int x, Value.int y]) 3) 5 = ((16709 * v_iv (n_v (vs ++ [Value.int x, Value.int y]) 4)) + (539 * w_ei ws (w_ar ws (n_v (vs ++ [Value.int x, Value.int y]) 3) 3) (v_iv (n_v (vs ++ [Value.int x, Value.int y]) 4))))
      simp only [e_3, e_4, q3]
      exact vc_Mo_newNode_4_5 (v_iv (n_v vs 4)) (w_ei ws (w_ar ws (n_v vs 0) 3)) (w_fi ws (n_v vs 0) 5) k4 f2
  have nf6 : fc_1 PRD (20, [3, 9, 10], [60, 1, 1, 216, 5, 2]) ws (vs ++ [Value.int x, Value.int y]) := by
    refine ⟨nf_inA hl rfl, sgq_1308 ?_⟩
    · show CPn (w_fi ws (n_v (vs ++ [Value.int x, Value.int y]) 3) 5) (w_ei ws (w_ar ws (n_v (vs ++ [Value.int x, Value.int y]) 3) 2)) (v_iv (n_v (vs ++ [Value.int x, Value.int y]) 9)) (v_iv (n_v (vs ++ [Value.int x, Value.int y]) 10))
      simp only [e_3, e_9, e_10, q3]
      exact vc_Mo_newNode_4_6 (v_iv (n_v vs 6)) (w_ei ws (w_ar ws (n_v vs 0) 2)) (w_fi ws (n_v vs 0) 5) (v_iv (Value.int x)) (v_iv (Value.int y)) k6 f3 f4 ex2 ey2
  exact ⟨(fun _ h => (by cases h)), [Value.int x, Value.int y], ag_two hx hy, List.forall_mem_cons.mpr ⟨⟨show (23 : Nat) < 100 from by decide, nf0⟩, List.forall_mem_cons.mpr ⟨⟨show (23 : Nat) < 100 from by decide, nf1⟩, List.forall_mem_cons.mpr ⟨⟨show (23 : Nat) < 100 from by decide, nf2⟩, List.forall_mem_cons.mpr ⟨⟨show (23 : Nat) < 100 from by decide, nf3⟩, List.forall_mem_cons.mpr ⟨⟨show (20 : Nat) < 100 from by decide, nf4⟩, List.forall_mem_cons.mpr ⟨⟨show (20 : Nat) < 100 from by decide, nf5⟩, List.forall_mem_cons.mpr ⟨⟨show (20 : Nat) < 100 from by decide, nf6⟩, (fun _ h => (by cases h))⟩⟩⟩⟩⟩⟩⟩, (fun _ h => (by cases h))⟩
set_option maxHeartbeats 4000000 in
theorem vc_Mo_newNode_5_r0 (x6 : Int) (x8 : Int) (x9 : Int) (x10 : Int) (x12 : Int) (x13 : Int) (x15 : Int) (all_0 : Int → Int) (r_0 : Int) (k6 : 0 ≤ x6 ∧ x6 ≤ 23) (k8 : 0 ≤ x8 ∧ x8 ≤ 23) (k9 : 0 ≤ x9 ∧ x9 ≤ 48) (k10 : 0 ≤ x10 ∧ x10 ≤ 48) (k12 : 0 ≤ x12 ∧ x12 ≤ 66297) (k13 : 0 ≤ x13 ∧ x13 ≤ 24) (k15 : 1 ≤ x15 ∧ x15 ≤ 25) (d0 : x13 + 1 ≤ x15 ∧ x15 ≤ x13 + 1) (d1 : x6 + 0 ≤ x8 ∧ x8 ≤ x6 + 4294967296) (d2 : x6 + (-4294967296) ≤ x8 ∧ x8 ≤ x6 + 0) (h1 : x13 = all_0 (x12)) (g2 : x12 = r_0) (f4 : 1 * x9 + ((-1) * x6 + 0) ≤ 0) (f5 : (-1) * x9 + (1 * x6 + 0) ≤ 0) (f6 : 1 * x10 + ((-1) * x6 + 0) ≤ 0) (f7 : (-1) * x10 + (1 * x6 + 0) ≤ 0) (f11 : CPn (r_0) (all_0) (x9) (x10)) : 1 ≤ x15 ∧ x15 ≤ 24 := by
  have h := ‹CPn _ _ _ _›.1 rfl
  have e : x12 = r_0 := by omega
  rw [e] at h1
  omega
def o_Mo_newNode_5 : or_T := (170, 16, [(0, (2, 0, 0, [165])), (3, (2, 0, 0, [165])), (4, (0, 0, 3, [])), (6, (0, 0, 23, [])), (8, (0, 0, 23, [])), (9, (0, 0, 48, [])), (10, (0, 0, 48, [])), (11, (2, 0, 0, [167])), (12, (0, 0, 66297, [])), (13, (0, 0, 24, [])), (14, (0, 1, 1, [])), (15, (0, 1, 25, []))], [(1, [15, 13, 14], []), (10, [13, 11, 12], []), (9, [12, 3], [5]), (9, [11, 3], [2]), (23, [9, 6], [0, 1, -1]), (23, [9, 6], [0, -1, 1]), (23, [10, 6], [0, 1, -1]), (23, [10, 6], [0, -1, 1]), (24, [0, 3], []), (20, [3], [60, 1, 3, 199, 5, 2, 3, 4]), (20, [3, 4], [50, 1, 1, 5, 3, 1, 3, 2, 0, 5, 4, 6, 6, 2, 0, 16709, 1, 1, 6, 2, 0, 539, 3, 0, 3, 1, 1]), (20, [3, 9, 10], [60, 1, 1, 216, 5, 2]), (102, [10], [13167250334659475823257885873658196866677045120641816208017981440, 165005]), (23, [9, 6], [0, 1, -1]), (23, [9, 6], [0, -1, 1]), (23, [10, 6], [0, 1, -1]), (23, [10, 6], [0, -1, 1]), (7, [8, 6], [3])], [(15, (0, 1, 24, []))], [], [], [], [(15, 13, 1, 1), (8, 6, 0, 4294967296), (8, 6, -4294967296, 0)])
theorem oo_Mo_newNode_5 {kA : Nat → ClassId} : or_ok PRD kA GG o_Mo_newNode_5 := by
  refine or_mk fun A ta ws vs hD hth hl => ?_
  intro t0 r0 t3 r3 t4 k4 t6 k6 t8 k8 t9 k9 t10 k10 t11 r11 t12 k12 t13 k13 t14 k14 t15 k15 d0 d1 d2 f0 f1 f2 f3 f4 f5 f6 f7 f8 f9 f10 f11 ta1 w1 le1 s1 f13 f14 f15 f16 f17
  replace f1 := shm_107 f1
  replace f2 := shm_110 f2
  replace f3 := shm_120 f3
  replace f8 := shm_5 f8
  replace f11 := shm_1308 f11
  have q3 : n_v vs 3 = n_v vs 0 := f8.symm
  simp only [q3] at f2 f3 f11
  have ad_11 : v_ad (n_v vs 11) = w_ar ws (n_v vs 0) 2 := congrArg v_ad f3
  simp only [ad_11] at f1
  have h1 : v_iv (n_v vs 13) = w_ei ws (w_ar ws (n_v vs 0) 2) (v_iv (n_v vs 12)) := f1
  have g2 : v_iv (n_v vs 12) = w_fi ws (n_v vs 0) 5 := congrArg v_iv f2
  have hrf0 : 1 ≤ v_iv (n_v vs 15) ∧ v_iv (n_v vs 15) ≤ 24 := vc_Mo_newNode_5_r0 (v_iv (n_v vs 6)) (v_iv (n_v vs 8)) (v_iv (n_v vs 9)) (v_iv (n_v vs 10)) (v_iv (n_v vs 12)) (v_iv (n_v vs 13)) (v_iv (n_v vs 15)) (w_ei ws (w_ar ws (n_v vs 0) 2)) (w_fi ws (n_v vs 0) 5) k6 k8 k9 k10 k12 k13 k15 d0 d1 d2 h1 g2 (shm_7 f4) (shm_22 f5) (shm_7 f6) (shm_22 f7) f11
  have rf15 : tv_ok ta (0, 1, 24, []) (n_v vs 15) := tv_in t15 (by first | omega | grind) (by first | omega | grind)
  refine ⟨List.forall_mem_cons.mpr ⟨rf15, (fun _ h => (by cases h))⟩, [], trivial, ?_, (fun _ h => (by cases h))⟩
  rw [List.append_nil]
  exact (fun _ h => (by cases h))
set_option maxHeartbeats 4000000 in
theorem vc_Mo_newNode_6_0 (x6 : Int) (x8 : Int) (x9 : Int) (x10 : Int) (x12 : Int) (x13 : Int) (x15 : Int) (x17 : Int) (x19 : Int) (x20 : Int) (r_0 : Int) (now_0 : Int → Int) (all_1 : Int → Int) (now_1 : Int → Int) (latest_1 : Int → Int) (r_1 : Int) (all_0 : Int → Int) (latest_0 : Int → Int) (k6 : 0 ≤ x6 ∧ x6 ≤ 23) (k8 : 0 ≤ x8 ∧ x8 ≤ 23) (k9 : 0 ≤ x9 ∧ x9 ≤ 48) (k10 : 0 ≤ x10 ∧ x10 ≤ 48) (k12 : 0 ≤ x12 ∧ x12 ≤ 66297) (k13 : 0 ≤ x13 ∧ x13 ≤ 24) (k15 : 1 ≤ x15 ∧ x15 ≤ 24) (k17 : 3 ≤ x17 ∧ x17 ≤ 66300) (k19 : 0 ≤ x19 ∧ x19 ≤ 184) (k20 : 3 ≤ x20 ∧ x20 ≤ 66484) (d2 : x12 + 3 ≤ x20 ∧ x20 ≤ x12 + 187) (d3 : x12 + 3 ≤ x17 ∧ x17 ≤ x12 + 3) (d4 : x13 + 1 ≤ x15 ∧ x15 ≤ x13 + 1) (d5 : x6 + 0 ≤ x8 ∧ x8 ≤ x6 + 4294967296) (d6 : x6 + (-4294967296) ≤ x8 ∧ x8 ≤ x6 + 0) (f0 : x20 = x17 + x19) (f1 : x19 = 8 * x6) (g3 : x12 = r_0) (f4 : 1 * x9 + ((-1) * x6 + 0) ≤ 0) (f5 : (-1) * x9 + (1 * x6 + 0) ≤ 0) (f6 : 1 * x10 + ((-1) * x6 + 0) ≤ 0) (f7 : (-1) * x10 + (1 * x6 + 0) ≤ 0) (h12 : x13 = all_1 (x12)) (f18 : RWS (r_1) (all_1) (now_1) (latest_1)) (f20 : CPn (r_1) (all_1) (x9) (x10)) (fe_0_5_1 : r_0 = r_1) (hE_0_2_1 : ∀ j : Int, 0 ≤ j → (j = x12 → all_0 j = x15) ∧ (j ≠ x12 → all_0 j = all_1 j)) (hE_0_3_1 : ∀ j : Int, now_0 j = now_1 j) (hE_0_4_1 : ∀ j : Int, latest_0 j = latest_1 j) : RWN (r_0) (all_0) (now_0) (latest_0) (x6) := by
  subst fe_0_5_1
  have e_hE_0_3_1 := funext hE_0_3_1; subst e_hE_0_3_1
  have e_hE_0_4_1 := funext hE_0_4_1; subst e_hE_0_4_1
  first
    | (have h := ‹CPn _ _ _ _›.1 rfl
       exact rwn_start ‹RWS _ _ _ _› (by assumption) (by omega) (by omega) (by omega) (by omega))
set_option maxHeartbeats 4000000 in
theorem vc_Mo_newNode_6_1 (x4 : Int) (x6 : Int) (x8 : Int) (x9 : Int) (x10 : Int) (x12 : Int) (x17 : Int) (x19 : Int) (x20 : Int) (r_0 : Int) (now_0 : Int → Int) (now_1 : Int → Int) (latest_1 : Int → Int) (r_1 : Int) (latest_0 : Int → Int) (k4 : 0 ≤ x4 ∧ x4 ≤ 3) (k6 : 0 ≤ x6 ∧ x6 ≤ 23) (k8 : 0 ≤ x8 ∧ x8 ≤ 23) (k9 : 0 ≤ x9 ∧ x9 ≤ 48) (k10 : 0 ≤ x10 ∧ x10 ≤ 48) (k12 : 0 ≤ x12 ∧ x12 ≤ 66297) (k17 : 3 ≤ x17 ∧ x17 ≤ 66300) (k19 : 0 ≤ x19 ∧ x19 ≤ 184) (k20 : 3 ≤ x20 ∧ x20 ≤ 66484) (d3 : x12 + 3 ≤ x17 ∧ x17 ≤ x12 + 3) (d5 : x6 + 0 ≤ x8 ∧ x8 ≤ x6 + 4294967296) (d6 : x6 + (-4294967296) ≤ x8 ∧ x8 ≤ x6 + 0) (f0 : x20 = x17 + x19) (f1 : x19 = 8 * x6) (g3 : x12 = r_0) (f4 : 1 * x9 + ((-1) * x6 + 0) ≤ 0) (f5 : (-1) * x9 + (1 * x6 + 0) ≤ 0) (f6 : 1 * x10 + ((-1) * x6 + 0) ≤ 0) (f7 : (-1) * x10 + (1 * x6 + 0) ≤ 0) (f9 : r_0 = ((16709 * x4) + (539 * now_0 (x4)))) (fe_0_5_1 : r_0 = r_1) (hE_0_3_1 : ∀ j : Int, now_0 j = now_1 j) (hE_0_4_1 : ∀ j : Int, latest_0 j = latest_1 j) : (x20 % 539) = (3 + (8 * x6)) := by
  subst fe_0_5_1
  have e_hE_0_3_1 := funext hE_0_3_1; subst e_hE_0_3_1
  have e_hE_0_4_1 := funext hE_0_4_1; subst e_hE_0_4_1
  first | omega
set_option maxHeartbeats 4000000 in
theorem vc_Mo_newNode_6_2 (x6 : Int) (x8 : Int) (x12 : Int) (x17 : Int) (x19 : Int) (x20 : Int) (r_0 : Int) (now_0 : Int → Int) (now_1 : Int → Int) (latest_1 : Int → Int) (r_1 : Int) (latest_0 : Int → Int) (k6 : 0 ≤ x6 ∧ x6 ≤ 23) (k8 : 0 ≤ x8 ∧ x8 ≤ 23) (k12 : 0 ≤ x12 ∧ x12 ≤ 66297) (k17 : 3 ≤ x17 ∧ x17 ≤ 66300) (k19 : 0 ≤ x19 ∧ x19 ≤ 184) (k20 : 3 ≤ x20 ∧ x20 ≤ 66484) (d3 : x12 + 3 ≤ x17 ∧ x17 ≤ x12 + 3) (d5 : x6 + 0 ≤ x8 ∧ x8 ≤ x6 + 4294967296) (d6 : x6 + (-4294967296) ≤ x8 ∧ x8 ≤ x6 + 0) (f0 : x20 = x17 + x19) (f1 : x19 = 8 * x6) (g3 : x12 = r_0) (fe_0_5_1 : r_0 = r_1) (hE_0_3_1 : ∀ j : Int, now_0 j = now_1 j) (hE_0_4_1 : ∀ j : Int, latest_0 j = latest_1 j) : x20 = ((r_0 + 3) + (8 * x6)) := by
  subst fe_0_5_1
  have e_hE_0_3_1 := funext hE_0_3_1; subst e_hE_0_3_1
  have e_hE_0_4_1 := funext hE_0_4_1; subst e_hE_0_4_1
  first | omega
def o_Mo_newNode_6 : or_T := (187, 22, [(0, (2, 0, 0, [165])), (4, (0, 0, 3, [])), (6, (0, 0, 23, [])), (8, (0, 0, 23, [])), (9, (0, 0, 48, [])), (10, (0, 0, 48, [])), (11, (2, 0, 0, [167])), (12, (0, 0, 66297, [])), (13, (0, 0, 24, [])), (15, (0, 1, 24, [])), (17, (0, 3, 66300, [])), (18, (0, 8, 8, [])), (19, (0, 0, 184, [])), (20, (0, 3, 66484, []))], [(1, [20, 17, 19], []), (3, [19, 18, 6], []), (9, [12, 3], [5]), (23, [9, 6], [0, 1, -1]), (23, [9, 6], [0, -1, 1]), (23, [10, 6], [0, 1, -1]), (23, [10, 6], [0, -1, 1]), (24, [0, 3], []), (20, [3, 4], [50, 1, 1, 5, 3, 1, 3, 2, 0, 5, 4, 6, 6, 2, 0, 16709, 1, 1, 6, 2, 0, 539, 3, 0, 3, 1, 1]), (100, [11, 12, 15], []), (10, [13, 11, 12], []), (9, [11, 3], [2]), (20, [3], [60, 1, 3, 199, 5, 2, 3, 4]), (20, [3, 9, 10], [60, 1, 1, 216, 5, 2])], [], [], [(20, [3, 6], [60, 1, 3, 200, 5, 2, 3, 4]), (20, [20, 6], [50, 0, 0, 1, 6, 9, 2, 1, 0, 0, 539, 4, 2, 0, 3, 6, 2, 0, 8, 1, 1]), (20, [20, 3, 6], [50, 1, 0, 1005, 1, 2, 1, 0, 4, 7, 4, 3, 2, 1, 5, 0, 3, 6, 2, 0, 8, 1, 2])], [], [(20, 12, 3, 187), (17, 12, 3, 3), (15, 13, 1, 1), (8, 6, 0, 4294967296), (8, 6, -4294967296, 0)])
theorem oo_Mo_newNode_6 {kA : Nat → ClassId} : or_ok PRD kA GG o_Mo_newNode_6 := by
  refine or_mk fun A ta ws vs hD hth hl => ?_
  intro t0 r0 t4 k4 t6 k6 t8 k8 t9 k9 t10 k10 t11 r11 t12 k12 t13 k13 t15 k15 t17 k17 t18 k18 t19 k19 t20 k20 d2 d3 d4 d5 d6 f0 f1 f3 f4 f5 f6 f7 f8 f9 ta1 w1 le1 s1 f12 f13 f18 f20
  replace f0 := shm_12 f0
  replace f1 := shm_38 f1
  rw [show v_iv (n_v vs 18) = 8 from by omega] at f1
  replace f3 := shm_110 f3
  replace f4 := shm_7 f4
  replace f5 := shm_22 f5
  replace f6 := shm_7 f6
  replace f7 := shm_22 f7
  replace f8 := shm_5 f8
  replace f9 := shm_1037 f9
  have s1 : (∀ b j, w_el ws b j = if b = v_ad (n_v vs 11) ∧ j = (v_iv (n_v vs 12)).toNat then v_iv (n_v vs 15) else w_el w1 b j) ∧ ∀ b k, w_fd ws b k = w_fd w1 b k := s1.2
  replace f12 := shm_107 f12
  replace f13 := shm_120 f13
  replace f18 := shm_980 f18
  replace f20 := shm_1308 f20
  have q3 : n_v vs 3 = n_v vs 0 := f8.symm
  simp only [q3] at f3 f9 f13 f18 f20
  have ar_0_2_1 : w_ar w1 (n_v vs 0) 2 = w_ar ws (n_v vs 0) 2 := congrArg v_ad (s1.2 _ _).symm
  have ar_0_3_1 : w_ar w1 (n_v vs 0) 3 = w_ar ws (n_v vs 0) 3 := congrArg v_ad (s1.2 _ _).symm
  have cr_0_3 := fdq_142 hD hth r0
  have ar_0_4_1 : w_ar w1 (n_v vs 0) 4 = w_ar ws (n_v vs 0) 4 := congrArg v_ad (s1.2 _ _).symm
  have cr_0_4 := fdq_143 hD hth r0
  have ad_11 : v_ad (n_v vs 11) = w_ar ws (n_v vs 0) 2 := (congrArg v_ad f13).trans ar_0_2_1
  have g3 : v_iv (n_v vs 12) = w_fi ws (n_v vs 0) 5 := congrArg v_iv f3
  simp only [ad_11] at f12
  have h12 : v_iv (n_v vs 13) = w_ei w1 (w_ar ws (n_v vs 0) 2) (v_iv (n_v vs 12)) := f12
  simp only [ar_0_2_1, ar_0_3_1, ar_0_4_1] at f18 f20
  have fe_0_5_1 : w_fi ws (n_v vs 0) 5 = w_fi w1 (n_v vs 0) 5 := congrArg v_iv (s1.2 _ _)
  have hE_0_2_1 : ∀ j : Int, 0 ≤ j → (j = v_iv (n_v vs 12) → w_ei ws (w_ar ws (n_v vs 0) 2) j = v_iv (n_v vs 15)) ∧ (j ≠ v_iv (n_v vs 12) → w_ei ws (w_ar ws (n_v vs 0) 2) j = w_ei w1 (w_ar ws (n_v vs 0) 2) j) := fun j hj => ⟨fun h => by unfold w_ei; rw [s1.1, if_pos ⟨ad_11.symm, by rw [h]⟩], fun h => by unfold w_ei; rw [s1.1, if_neg (fun e => h (by have := e.2; omega))]⟩
  have hE_0_3_1 : ∀ j : Int, w_ei ws (w_ar ws (n_v vs 0) 3) j = w_ei w1 (w_ar ws (n_v vs 0) 3) j := el_kp s1.1 r11 cr_0_3 (by decide)
  have hE_0_4_1 : ∀ j : Int, w_ei ws (w_ar ws (n_v vs 0) 4) j = w_ei w1 (w_ar ws (n_v vs 0) 4) j := el_kp s1.1 r11 cr_0_4 (by decide)
  have nf0 : fc_1 PRD (20, [3, 6], [60, 1, 3, 200, 5, 2, 3, 4]) ws (vs) := by
    refine ⟨nf_in hl rfl, sgq_1803 ?_⟩
    · show RWN (w_fi ws (n_v vs 3) 5) (w_ei ws (w_ar ws (n_v vs 3) 2)) (w_ei ws (w_ar ws (n_v vs 3) 3)) (w_ei ws (w_ar ws (n_v vs 3) 4)) (v_iv (n_v vs 6))
      rw [q3]
      exact vc_Mo_newNode_6_0 (v_iv (n_v vs 6)) (v_iv (n_v vs 8)) (v_iv (n_v vs 9)) (v_iv (n_v vs 10)) (v_iv (n_v vs 12)) (v_iv (n_v vs 13)) (v_iv (n_v vs 15)) (v_iv (n_v vs 17)) (v_iv (n_v vs 19)) (v_iv (n_v vs 20)) (w_fi ws (n_v vs 0) 5) (w_ei ws (w_ar ws (n_v vs 0) 3)) (w_ei w1 (w_ar ws (n_v vs 0) 2)) (w_ei w1 (w_ar ws (n_v vs 0) 3)) (w_ei w1 (w_ar ws (n_v vs 0) 4)) (w_fi w1 (n_v vs 0) 5) (w_ei ws (w_ar ws (n_v vs 0) 2)) (w_ei ws (w_ar ws (n_v vs 0) 4)) k6 k8 k9 k10 k12 k13 k15 k17 k19 k20 d2 d3 d4 d5 d6 f0 f1 g3 f4 f5 f6 f7 h12 f18 f20 fe_0_5_1 hE_0_2_1 hE_0_3_1 hE_0_4_1
  have nf1 : fc_1 PRD (20, [20, 6], [50, 0, 0, 1, 6, 9, 2, 1, 0, 0, 539, 4, 2, 0, 3, 6, 2, 0, 8, 1, 1]) ws (vs) := ⟨nf_in hl rfl, sgq_1804 (vc_Mo_newNode_6_1 (v_iv (n_v vs 4)) (v_iv (n_v vs 6)) (v_iv (n_v vs 8)) (v_iv (n_v vs 9)) (v_iv (n_v vs 10)) (v_iv (n_v vs 12)) (v_iv (n_v vs 17)) (v_iv (n_v vs 19)) (v_iv (n_v vs 20)) (w_fi ws (n_v vs 0) 5) (w_ei ws (w_ar ws (n_v vs 0) 3)) (w_ei w1 (w_ar ws (n_v vs 0) 3)) (w_ei w1 (w_ar ws (n_v vs 0) 4)) (w_fi w1 (n_v vs 0) 5) (w_ei ws (w_ar ws (n_v vs 0) 4)) k4 k6 k8 k9 k10 k12 k17 k19 k20 d3 d5 d6 f0 f1 g3 f4 f5 f6 f7 f9 fe_0_5_1 hE_0_3_1 hE_0_4_1)⟩
  have nf2 : fc_1 PRD (20, [20, 3, 6], [50, 1, 0, 1005, 1, 2, 1, 0, 4, 7, 4, 3, 2, 1, 5, 0, 3, 6, 2, 0, 8, 1, 2]) ws (vs) := by
    refine ⟨nf_in hl rfl, sgq_1805 ?_⟩
    · show v_iv (n_v vs 20) = ((w_fi ws (n_v vs 3) 5 + 3) + (8 * v_iv (n_v vs 6)))
      rw [q3]
      exact vc_Mo_newNode_6_2 (v_iv (n_v vs 6)) (v_iv (n_v vs 8)) (v_iv (n_v vs 12)) (v_iv (n_v vs 17)) (v_iv (n_v vs 19)) (v_iv (n_v vs 20)) (w_fi ws (n_v vs 0) 5) (w_ei ws (w_ar ws (n_v vs 0) 3)) (w_ei w1 (w_ar ws (n_v vs 0) 3)) (w_ei w1 (w_ar ws (n_v vs 0) 4)) (w_fi w1 (n_v vs 0) 5) (w_ei ws (w_ar ws (n_v vs 0) 4)) k6 k8 k12 k17 k19 k20 d3 d5 d6 f0 f1 g3 fe_0_5_1 hE_0_3_1 hE_0_4_1
  refine ⟨(fun _ h => (by cases h)), [], trivial, ?_, (fun _ h => (by cases h))⟩
  rw [List.append_nil]
  exact List.forall_mem_cons.mpr ⟨⟨show (20 : Nat) < 100 from by decide, nf0⟩, List.forall_mem_cons.mpr ⟨⟨show (20 : Nat) < 100 from by decide, nf1⟩, List.forall_mem_cons.mpr ⟨⟨show (20 : Nat) < 100 from by decide, nf2⟩, (fun _ h => (by cases h))⟩⟩⟩
set_option maxHeartbeats 4000000 in
theorem vc_Mo_newNode_7_0 (all_0 : Int → Int) (r_0 : Int) (now_0 : Int → Int) (latest_0 : Int → Int) (f17 : RWS (r_0) (all_0) (now_0) (latest_0)) : ROWS (all_0) (now_0) (latest_0) := by
  exact ‹RWS _ _ _ _›.1
def o_Mo_newNode_7 : or_T := (146, 30, [], [(20, [3], [60, 1, 3, 199, 5, 2, 3, 4]), (24, [0, 3], [])], [], [], [(20, [0], [60, 0, 3, 198, 2, 3, 4])], [], [])
theorem oo_Mo_newNode_7 {kA : Nat → ClassId} : or_ok PRD kA GG o_Mo_newNode_7 := by
  refine or_mk fun A ta ws vs hD hth hl => ?_
  intro f17 f21
  replace f17 := shm_980 f17
  replace f21 := shm_5 f21
  have q3 : n_v vs 3 = n_v vs 0 := f21.symm
  simp only [q3] at f17
  have nf0 : fc_1 PRD (20, [0], [60, 0, 3, 198, 2, 3, 4]) ws (vs) := ⟨nf_in hl rfl, sgq_1230 (vc_Mo_newNode_7_0 (w_ei ws (w_ar ws (n_v vs 0) 2)) (w_fi ws (n_v vs 0) 5) (w_ei ws (w_ar ws (n_v vs 0) 3)) (w_ei ws (w_ar ws (n_v vs 0) 4)) f17)⟩
  refine ⟨(fun _ h => (by cases h)), [], trivial, ?_, (fun _ h => (by cases h))⟩
  rw [List.append_nil]
  exact List.forall_mem_cons.mpr ⟨⟨show (20 : Nat) < 100 from by decide, nf0⟩, (fun _ h => (by cases h))⟩
set_option maxHeartbeats 4000000 in
theorem vc_Mo_newNode_8_0 (all_0 : Int → Int) (r_0 : Int) (now_0 : Int → Int) (latest_0 : Int → Int) (f22 : RWS (r_0) (all_0) (now_0) (latest_0)) : ROWS (all_0) (now_0) (latest_0) := by
  exact ‹RWS _ _ _ _›.1
def o_Mo_newNode_8 : or_T := (146, 37, [], [(20, [3], [60, 1, 3, 199, 5, 2, 3, 4]), (24, [0, 3], [])], [], [], [(20, [0], [60, 0, 3, 198, 2, 3, 4])], [], [])
theorem oo_Mo_newNode_8 {kA : Nat → ClassId} : or_ok PRD kA GG o_Mo_newNode_8 := by
  refine or_mk fun A ta ws vs hD hth hl => ?_
  intro f22 f26
  replace f22 := shm_980 f22
  replace f26 := shm_5 f26
  have q3 : n_v vs 3 = n_v vs 0 := f26.symm
  simp only [q3] at f22
  have nf0 : fc_1 PRD (20, [0], [60, 0, 3, 198, 2, 3, 4]) ws (vs) := ⟨nf_in hl rfl, sgq_1230 (vc_Mo_newNode_8_0 (w_ei ws (w_ar ws (n_v vs 0) 2)) (w_fi ws (n_v vs 0) 5) (w_ei ws (w_ar ws (n_v vs 0) 3)) (w_ei ws (w_ar ws (n_v vs 0) 4)) f22)⟩
  refine ⟨(fun _ h => (by cases h)), [], trivial, ?_, (fun _ h => (by cases h))⟩
  rw [List.append_nil]
  exact List.forall_mem_cons.mpr ⟨⟨show (20 : Nat) < 100 from by decide, nf0⟩, (fun _ h => (by cases h))⟩
def o_Mo_newNode_9 : or_T := (219, 13, [(6, (0, 0, 23, [])), (8, (0, 3, 66484, [])), (12, (0, 110, 110, []))], [(20, [8, 6], [50, 0, 0, 1, 6, 9, 2, 1, 0, 0, 539, 4, 2, 0, 3, 6, 2, 0, 8, 1, 1])], [], [], [(18, [8, 12], [1])], [], [])
theorem oo_Mo_newNode_9 {kA : Nat → ClassId} : or_ok PRD kA GG o_Mo_newNode_9 := by
  refine or_mk fun A ta ws vs hD hth hl => ?_
  intro t6 k6 t8 k8 t12 k12 f0
  replace f0 := shm_1804 f0
  have nf0 : fc_1 PRD (18, [8, 12], [1]) ws (vs) := by
    refine ⟨nf_in hl rfl, sgq_1302 ?_⟩
    · show pl_ok 1 (v_iv (n_v vs 8)).toNat (v_iv (n_v vs 12))
      have em0 : v_iv (n_v vs 8) % 539 = v_iv (n_v vs 8) - 539 * (v_iv (n_v vs 8) / 539) := em_of (q := v_iv (n_v vs 8) / 539) (by omega) (by omega) (by omega) (by omega)
      have em1 : (((v_iv (n_v vs 8)).toNat % 539 : Nat) : Int) = v_iv (n_v vs 8) % 539 := by rw [Int.natCast_emod, Int.toNat_of_nonneg (by omega)]; rfl
      exact pl_in pl_M1 (lo := 3) (hi := 194) (a := 110) (b := 110) (by decide +kernel) (by omega) (by omega) (by omega) (by omega)
  refine ⟨(fun _ h => (by cases h)), [], trivial, ?_, (fun _ h => (by cases h))⟩
  rw [List.append_nil]
  exact List.forall_mem_cons.mpr ⟨⟨show (18 : Nat) < 100 from by decide, nf0⟩, (fun _ h => (by cases h))⟩
def o_Mo_newNode_10 : or_T := (258, 19, [(6, (0, 0, 23, [])), (7, (0, 1, 1, [])), (8, (0, 3, 66484, [])), (14, (0, 4, 66485, [])), (15, (0, 48, 48, [])), (17, (0, 0, 9, [])), (18, (0, 48, 57, []))], [(1, [18, 15, 17], []), (12, [17, 6], [10]), (1, [14, 8, 7], []), (20, [8, 6], [50, 0, 0, 1, 6, 9, 2, 1, 0, 0, 539, 4, 2, 0, 3, 6, 2, 0, 8, 1, 1])], [], [], [(18, [14, 18], [1])], [], [(18, 17, 48, 48), (14, 8, 1, 1)])
theorem oo_Mo_newNode_10 {kA : Nat → ClassId} : or_ok PRD kA GG o_Mo_newNode_10 := by
  refine or_mk fun A ta ws vs hD hth hl => ?_
  intro t6 k6 t7 k7 t8 k8 t14 k14 t15 k15 t17 k17 t18 k18 d0 d1 f0 f1 f2 f3
  replace f0 := shm_12 f0
  replace f1 := shm_1806 f1
  replace f2 := shm_12 f2
  replace f3 := shm_1804 f3
  have nf0 : fc_1 PRD (18, [14, 18], [1]) ws (vs) := by
    refine ⟨nf_in hl rfl, sgq_1302 ?_⟩
    · show pl_ok 1 (v_iv (n_v vs 14)).toNat (v_iv (n_v vs 18))
      have em0 : v_iv (n_v vs 14) % 539 = v_iv (n_v vs 14) - 539 * (v_iv (n_v vs 8) / 539) := em_of (q := v_iv (n_v vs 8) / 539) (by omega) (by omega) (by omega) (by omega)
      have em1 : (((v_iv (n_v vs 14)).toNat % 539 : Nat) : Int) = v_iv (n_v vs 14) % 539 := by rw [Int.natCast_emod, Int.toNat_of_nonneg (by omega)]; rfl
      exact pl_in pl_M1 (lo := 3) (hi := 194) (a := 48) (b := 57) (by decide +kernel) (by omega) (by omega) (by omega) (by omega)
  refine ⟨(fun _ h => (by cases h)), [], trivial, ?_, (fun _ h => (by cases h))⟩
  rw [List.append_nil]
  exact List.forall_mem_cons.mpr ⟨⟨show (18 : Nat) < 100 from by decide, nf0⟩, (fun _ h => (by cases h))⟩
set_option maxHeartbeats 4000000 in
theorem vc_Mo_newNode_11_0 (x5 : Int) (x6 : Int) (x8 : Int) (x12 : Int) (x14 : Int) (x18 : Int) (x19 : Int) (x21 : Int) (x22 : Int) (x24 : Int) (x26 : Int) (x27 : Int) (x28 : Int) (x30 : Int) (x31 : Int) (r_0 : Int) (r_1 : Int) (r_2 : Int) (r_3 : Int) (r_4 : Int) (all_5 : Int → Int) (now_5 : Int → Int) (latest_5 : Int → Int) (r_5 : Int) (all_0 : Int → Int) (all_1 : Int → Int) (all_2 : Int → Int) (all_3 : Int → Int) (all_4 : Int → Int) (now_0 : Int → Int) (now_1 : Int → Int) (now_2 : Int → Int) (now_3 : Int → Int) (now_4 : Int → Int) (latest_0 : Int → Int) (latest_1 : Int → Int) (latest_2 : Int → Int) (latest_3 : Int → Int) (latest_4 : Int → Int) (k5 : 0 ≤ x5 ∧ x5 ≤ 7) (k6 : 0 ≤ x6 ∧ x6 ≤ 23) (k8 : 3 ≤ x8 ∧ x8 ≤ 66484) (k12 : 110 ≤ x12 ∧ x12 ≤ 110) (k14 : 4 ≤ x14 ∧ x14 ≤ 66485) (k18 : 48 ≤ x18 ∧ x18 ≤ 57) (k19 : 0 ≤ x19 ∧ x19 ≤ 66297) (k21 : 195 ≤ x21 ∧ x21 ≤ 66492) (k22 : 195 ≤ x22 ∧ x22 ≤ 66515) (k24 : 2 ≤ x24 ∧ x24 ≤ 2) (k26 : 219 ≤ x26 ∧ x26 ≤ 66516) (k27 : 219 ≤ x27 ∧ x27 ≤ 66539) (k28 : 1 ≤ x28 ∧ x28 ≤ 1) (k30 : 243 ≤ x30 ∧ x30 ≤ 66540) (k31 : 243 ≤ x31 ∧ x31 ≤ 66563) (d1 : x30 + 0 ≤ x31 ∧ x31 ≤ x30 + 23) (d3 : x19 + 243 ≤ x30 ∧ x30 ≤ x19 + 243) (d7 : x19 + 219 ≤ x26 ∧ x26 ≤ x19 + 219) (d11 : x19 + 195 ≤ x21 ∧ x21 ≤ x19 + 195) (d13 : x8 + 1 ≤ x14 ∧ x14 ≤ x8 + 1) (f0 : (x8 % 539) = (3 + (8 * x6))) (f1 : x8 = ((r_0 + 3) + (8 * x6))) (f4 : x31 = x30 + x6) (g6 : x19 = r_1) (f11 : x27 = x26 + x6) (f17 : x22 = x21 + x6) (f29 : RWN (r_5) (all_5) (now_5) (latest_5) (x6)) (fe_0_5_1 : r_0 = r_1) (fe_0_5_2 : r_1 = r_2) (fe_0_5_3 : r_2 = r_3) (fe_0_5_4 : r_3 = r_4) (fe_0_5_5 : r_4 = r_5) (hE_0_2_1 : ∀ j : Int, 0 ≤ j → (j = x31 → all_0 j = x5) ∧ (j ≠ x31 → all_0 j = all_1 j)) (hE_0_2_2 : ∀ j : Int, 0 ≤ j → (j = x27 → all_1 j = x28) ∧ (j ≠ x27 → all_1 j = all_2 j)) (hE_0_2_3 : ∀ j : Int, 0 ≤ j → (j = x22 → all_2 j = x24) ∧ (j ≠ x22 → all_2 j = all_3 j)) (hE_0_2_4 : ∀ j : Int, 0 ≤ j → (j = x14 → all_3 j = x18) ∧ (j ≠ x14 → all_3 j = all_4 j)) (hE_0_2_5 : ∀ j : Int, 0 ≤ j → (j = x8 → all_4 j = x12) ∧ (j ≠ x8 → all_4 j = all_5 j)) (hE_0_3_1 : ∀ j : Int, now_0 j = now_1 j) (hE_0_3_2 : ∀ j : Int, now_1 j = now_2 j) (hE_0_3_3 : ∀ j : Int, now_2 j = now_3 j) (hE_0_3_4 : ∀ j : Int, now_3 j = now_4 j) (hE_0_3_5 : ∀ j : Int, now_4 j = now_5 j) (hE_0_4_1 : ∀ j : Int, latest_0 j = latest_1 j) (hE_0_4_2 : ∀ j : Int, latest_1 j = latest_2 j) (hE_0_4_3 : ∀ j : Int, latest_2 j = latest_3 j) (hE_0_4_4 : ∀ j : Int, latest_3 j = latest_4 j) (hE_0_4_5 : ∀ j : Int, latest_4 j = latest_5 j) : ROWS (all_0) (now_0) (latest_0) := by
  subst fe_0_5_1
  subst fe_0_5_2
  subst fe_0_5_3
  subst fe_0_5_4
  subst fe_0_5_5
  have e_hE_0_3_1 := funext hE_0_3_1; subst e_hE_0_3_1
  have e_hE_0_3_2 := funext hE_0_3_2; subst e_hE_0_3_2
  have e_hE_0_3_3 := funext hE_0_3_3; subst e_hE_0_3_3
  have e_hE_0_3_4 := funext hE_0_3_4; subst e_hE_0_3_4
  have e_hE_0_3_5 := funext hE_0_3_5; subst e_hE_0_3_5
  have e_hE_0_4_1 := funext hE_0_4_1; subst e_hE_0_4_1
  have e_hE_0_4_2 := funext hE_0_4_2; subst e_hE_0_4_2
  have e_hE_0_4_3 := funext hE_0_4_3; subst e_hE_0_4_3
  have e_hE_0_4_4 := funext hE_0_4_4; subst e_hE_0_4_4
  have e_hE_0_4_5 := funext hE_0_4_5; subst e_hE_0_4_5
  first
    | exact (rws_off (rwn_fin (rwn_off (rwn_off (rwn_off ‹RWN _ _ _ _ _› (by assumption) (by omega)) (by assumption) (by omega)) (by assumption) (by omega)) (by assumption) (by omega) (by omega)) (by assumption) (by omega)).1
    | exact (rws_off (rwn_fin (rwn_off (rwn_off (rwn_off (rwn_off ‹RWN _ _ _ _ _› (by assumption) (by omega)) (by assumption) (by omega)) (by assumption) (by omega)) (by assumption) (by omega)) (by assumption) (by omega) (by omega)) (by assumption) (by omega)).1
def o_Mo_newNode_11 : or_T := (311, 32, [(0, (2, 0, 0, [165])), (5, (0, 0, 7, [])), (6, (0, 0, 23, [])), (8, (0, 3, 66484, [])), (11, (2, 0, 0, [167])), (12, (0, 110, 110, [])), (14, (0, 4, 66485, [])), (18, (0, 48, 57, [])), (19, (0, 0, 66297, [])), (21, (0, 195, 66492, [])), (22, (0, 195, 66515, [])), (24, (0, 2, 2, [])), (26, (0, 219, 66516, [])), (27, (0, 219, 66539, [])), (28, (0, 1, 1, [])), (30, (0, 243, 66540, [])), (31, (0, 243, 66563, []))], [(20, [8, 6], [50, 0, 0, 1, 6, 9, 2, 1, 0, 0, 539, 4, 2, 0, 3, 6, 2, 0, 8, 1, 1]), (20, [8, 3, 6], [50, 1, 0, 1005, 1, 2, 1, 0, 4, 7, 4, 3, 2, 1, 5, 0, 3, 6, 2, 0, 8, 1, 2]), (24, [0, 3], []), (100, [11, 31, 5], []), (1, [31, 30, 6], []), (9, [19, 3], [5]), (9, [11, 3], [2]), (100, [11, 27, 28], []), (1, [27, 26, 6], []), (100, [11, 22, 24], []), (1, [22, 21, 6], []), (100, [11, 14, 18], []), (100, [11, 8, 12], []), (20, [3, 6], [60, 1, 3, 200, 5, 2, 3, 4])], [], [], [(20, [0], [60, 0, 3, 198, 2, 3, 4])], [], [(31, 6, 243, 66540), (31, 30, 0, 23), (31, 19, 243, 266), (30, 19, 243, 243), (27, 6, 219, 66516), (27, 26, 0, 23), (27, 19, 219, 242), (26, 19, 219, 219), (22, 6, 195, 66492), (22, 21, 0, 23), (22, 19, 195, 218), (21, 19, 195, 195), (18, 17, 48, 48), (14, 8, 1, 1)])
theorem oo_Mo_newNode_11 {kA : Nat → ClassId} : or_ok PRD kA GG o_Mo_newNode_11 := by
  refine or_mk fun A ta ws vs hD hth hl => ?_
  intro t0 r0 t5 k5 t6 k6 t8 k8 t11 r11 t12 k12 t14 k14 t18 k18 t19 k19 t21 k21 t22 k22 t24 k24 t26 k26 t27 k27 t28 k28 t30 k30 t31 k31 d0 d1 d2 d3 d4 d5 d6 d7 d8 d9 d10 d11 d12 d13 f0 f1 f2 ta1 w1 le1 s1 f4 f6 f7 ta2 w2 le2 s2 f11 ta3 w3 le3 s3 f17 ta4 w4 le4 s4 ta5 w5 le5 s5 f29
  replace f1 := shm_1805 f1
  replace f2 := shm_5 f2
  have s1 : (∀ b j, w_el ws b j = if b = v_ad (n_v vs 11) ∧ j = (v_iv (n_v vs 31)).toNat then v_iv (n_v vs 5) else w_el w1 b j) ∧ ∀ b k, w_fd ws b k = w_fd w1 b k := s1.2
  replace f6 := shm_110 f6
  replace f7 := shm_120 f7
  have s2 : (∀ b j, w_el w1 b j = if b = v_ad (n_v vs 11) ∧ j = (v_iv (n_v vs 27)).toNat then v_iv (n_v vs 28) else w_el w2 b j) ∧ ∀ b k, w_fd w1 b k = w_fd w2 b k := s2.2
  have s3 : (∀ b j, w_el w2 b j = if b = v_ad (n_v vs 11) ∧ j = (v_iv (n_v vs 22)).toNat then v_iv (n_v vs 24) else w_el w3 b j) ∧ ∀ b k, w_fd w2 b k = w_fd w3 b k := s3.2
  have s4 : (∀ b j, w_el w3 b j = if b = v_ad (n_v vs 11) ∧ j = (v_iv (n_v vs 14)).toNat then v_iv (n_v vs 18) else w_el w4 b j) ∧ ∀ b k, w_fd w3 b k = w_fd w4 b k := s4.2
  have s5 : (∀ b j, w_el w4 b j = if b = v_ad (n_v vs 11) ∧ j = (v_iv (n_v vs 8)).toNat then v_iv (n_v vs 12) else w_el w5 b j) ∧ ∀ b k, w_fd w4 b k = w_fd w5 b k := s5.2
  replace f29 := shm_1803 f29
  have q3 : n_v vs 3 = n_v vs 0 := f2.symm
  simp only [q3] at f1 f6 f7 f29
  have ar_0_2_1 : w_ar w1 (n_v vs 0) 2 = w_ar ws (n_v vs 0) 2 := congrArg v_ad (s1.2 _ _).symm
  have ar_0_2_2 : w_ar w2 (n_v vs 0) 2 = w_ar ws (n_v vs 0) 2 := by rw [← ar_0_2_1]; show v_ad (w_fd w2 _ _) = v_ad (w_fd w1 _ _); rw [s2.2]
  have ar_0_2_3 : w_ar w3 (n_v vs 0) 2 = w_ar ws (n_v vs 0) 2 := by rw [← ar_0_2_2]; show v_ad (w_fd w3 _ _) = v_ad (w_fd w2 _ _); rw [s3.2]
  have ar_0_2_4 : w_ar w4 (n_v vs 0) 2 = w_ar ws (n_v vs 0) 2 := by rw [← ar_0_2_3]; show v_ad (w_fd w4 _ _) = v_ad (w_fd w3 _ _); rw [s4.2]
  have ar_0_2_5 : w_ar w5 (n_v vs 0) 2 = w_ar ws (n_v vs 0) 2 := by rw [← ar_0_2_4]; show v_ad (w_fd w5 _ _) = v_ad (w_fd w4 _ _); rw [s5.2]
  have ar_0_3_1 : w_ar w1 (n_v vs 0) 3 = w_ar ws (n_v vs 0) 3 := congrArg v_ad (s1.2 _ _).symm
  have ar_0_3_2 : w_ar w2 (n_v vs 0) 3 = w_ar ws (n_v vs 0) 3 := by rw [← ar_0_3_1]; show v_ad (w_fd w2 _ _) = v_ad (w_fd w1 _ _); rw [s2.2]
  have ar_0_3_3 : w_ar w3 (n_v vs 0) 3 = w_ar ws (n_v vs 0) 3 := by rw [← ar_0_3_2]; show v_ad (w_fd w3 _ _) = v_ad (w_fd w2 _ _); rw [s3.2]
  have ar_0_3_4 : w_ar w4 (n_v vs 0) 3 = w_ar ws (n_v vs 0) 3 := by rw [← ar_0_3_3]; show v_ad (w_fd w4 _ _) = v_ad (w_fd w3 _ _); rw [s4.2]
  have ar_0_3_5 : w_ar w5 (n_v vs 0) 3 = w_ar ws (n_v vs 0) 3 := by rw [← ar_0_3_4]; show v_ad (w_fd w5 _ _) = v_ad (w_fd w4 _ _); rw [s5.2]
  have cr_0_3 := fdq_142 hD hth r0
  have ar_0_4_1 : w_ar w1 (n_v vs 0) 4 = w_ar ws (n_v vs 0) 4 := congrArg v_ad (s1.2 _ _).symm
  have ar_0_4_2 : w_ar w2 (n_v vs 0) 4 = w_ar ws (n_v vs 0) 4 := by rw [← ar_0_4_1]; show v_ad (w_fd w2 _ _) = v_ad (w_fd w1 _ _); rw [s2.2]
  have ar_0_4_3 : w_ar w3 (n_v vs 0) 4 = w_ar ws (n_v vs 0) 4 := by rw [← ar_0_4_2]; show v_ad (w_fd w3 _ _) = v_ad (w_fd w2 _ _); rw [s3.2]
  have ar_0_4_4 : w_ar w4 (n_v vs 0) 4 = w_ar ws (n_v vs 0) 4 := by rw [← ar_0_4_3]; show v_ad (w_fd w4 _ _) = v_ad (w_fd w3 _ _); rw [s4.2]
  have ar_0_4_5 : w_ar w5 (n_v vs 0) 4 = w_ar ws (n_v vs 0) 4 := by rw [← ar_0_4_4]; show v_ad (w_fd w5 _ _) = v_ad (w_fd w4 _ _); rw [s5.2]
  have cr_0_4 := fdq_143 hD hth r0
  have ad_11 : v_ad (n_v vs 11) = w_ar ws (n_v vs 0) 2 := (congrArg v_ad f7).trans ar_0_2_1
  have g6 : v_iv (n_v vs 19) = w_fi w1 (n_v vs 0) 5 := congrArg v_iv f6
  simp only [ar_0_2_5, ar_0_3_5, ar_0_4_5] at f29
  have fe_0_5_1 : w_fi ws (n_v vs 0) 5 = w_fi w1 (n_v vs 0) 5 := congrArg v_iv (s1.2 _ _)
  have fe_0_5_2 : w_fi w1 (n_v vs 0) 5 = w_fi w2 (n_v vs 0) 5 := congrArg v_iv (s2.2 _ _)
  have fe_0_5_3 : w_fi w2 (n_v vs 0) 5 = w_fi w3 (n_v vs 0) 5 := congrArg v_iv (s3.2 _ _)
  have fe_0_5_4 : w_fi w3 (n_v vs 0) 5 = w_fi w4 (n_v vs 0) 5 := congrArg v_iv (s4.2 _ _)
  have fe_0_5_5 : w_fi w4 (n_v vs 0) 5 = w_fi w5 (n_v vs 0) 5 := congrArg v_iv (s5.2 _ _)
  have hE_0_2_1 : ∀ j : Int, 0 ≤ j → (j = v_iv (n_v vs 31) → w_ei ws (w_ar ws (n_v vs 0) 2) j = v_iv (n_v vs 5)) ∧ (j ≠ v_iv (n_v vs 31) → w_ei ws (w_ar ws (n_v vs 0) 2) j = w_ei w1 (w_ar ws (n_v vs 0) 2) j) := fun j hj => ⟨fun h => by unfold w_ei; rw [s1.1, if_pos ⟨ad_11.symm, by rw [h]⟩], fun h => by unfold w_ei; rw [s1.1, if_neg (fun e => h (by have := e.2; omega))]⟩
  have hE_0_2_2 : ∀ j : Int, 0 ≤ j → (j = v_iv (n_v vs 27) → w_ei w1 (w_ar ws (n_v vs 0) 2) j = v_iv (n_v vs 28)) ∧ (j ≠ v_iv (n_v vs 27) → w_ei w1 (w_ar ws (n_v vs 0) 2) j = w_ei w2 (w_ar ws (n_v vs 0) 2) j) := fun j hj => ⟨fun h => by unfold w_ei; rw [s2.1, if_pos ⟨ad_11.symm, by rw [h]⟩], fun h => by unfold w_ei; rw [s2.1, if_neg (fun e => h (by have := e.2; omega))]⟩
  have hE_0_2_3 : ∀ j : Int, 0 ≤ j → (j = v_iv (n_v vs 22) → w_ei w2 (w_ar ws (n_v vs 0) 2) j = v_iv (n_v vs 24)) ∧ (j ≠ v_iv (n_v vs 22) → w_ei w2 (w_ar ws (n_v vs 0) 2) j = w_ei w3 (w_ar ws (n_v vs 0) 2) j) := fun j hj => ⟨fun h => by unfold w_ei; rw [s3.1, if_pos ⟨ad_11.symm, by rw [h]⟩], fun h => by unfold w_ei; rw [s3.1, if_neg (fun e => h (by have := e.2; omega))]⟩
  have hE_0_2_4 : ∀ j : Int, 0 ≤ j → (j = v_iv (n_v vs 14) → w_ei w3 (w_ar ws (n_v vs 0) 2) j = v_iv (n_v vs 18)) ∧ (j ≠ v_iv (n_v vs 14) → w_ei w3 (w_ar ws (n_v vs 0) 2) j = w_ei w4 (w_ar ws (n_v vs 0) 2) j) := fun j hj => ⟨fun h => by unfold w_ei; rw [s4.1, if_pos ⟨ad_11.symm, by rw [h]⟩], fun h => by unfold w_ei; rw [s4.1, if_neg (fun e => h (by have := e.2; omega))]⟩
  have hE_0_2_5 : ∀ j : Int, 0 ≤ j → (j = v_iv (n_v vs 8) → w_ei w4 (w_ar ws (n_v vs 0) 2) j = v_iv (n_v vs 12)) ∧ (j ≠ v_iv (n_v vs 8) → w_ei w4 (w_ar ws (n_v vs 0) 2) j = w_ei w5 (w_ar ws (n_v vs 0) 2) j) := fun j hj => ⟨fun h => by unfold w_ei; rw [s5.1, if_pos ⟨ad_11.symm, by rw [h]⟩], fun h => by unfold w_ei; rw [s5.1, if_neg (fun e => h (by have := e.2; omega))]⟩
  have hE_0_3_1 : ∀ j : Int, w_ei ws (w_ar ws (n_v vs 0) 3) j = w_ei w1 (w_ar ws (n_v vs 0) 3) j := el_kp s1.1 r11 cr_0_3 (by decide)
  have hE_0_3_2 : ∀ j : Int, w_ei w1 (w_ar ws (n_v vs 0) 3) j = w_ei w2 (w_ar ws (n_v vs 0) 3) j := el_kp s2.1 r11 cr_0_3 (by decide)
  have hE_0_3_3 : ∀ j : Int, w_ei w2 (w_ar ws (n_v vs 0) 3) j = w_ei w3 (w_ar ws (n_v vs 0) 3) j := el_kp s3.1 r11 cr_0_3 (by decide)
  have hE_0_3_4 : ∀ j : Int, w_ei w3 (w_ar ws (n_v vs 0) 3) j = w_ei w4 (w_ar ws (n_v vs 0) 3) j := el_kp s4.1 r11 cr_0_3 (by decide)
  have hE_0_3_5 : ∀ j : Int, w_ei w4 (w_ar ws (n_v vs 0) 3) j = w_ei w5 (w_ar ws (n_v vs 0) 3) j := el_kp s5.1 r11 cr_0_3 (by decide)
  have hE_0_4_1 : ∀ j : Int, w_ei ws (w_ar ws (n_v vs 0) 4) j = w_ei w1 (w_ar ws (n_v vs 0) 4) j := el_kp s1.1 r11 cr_0_4 (by decide)
  have hE_0_4_2 : ∀ j : Int, w_ei w1 (w_ar ws (n_v vs 0) 4) j = w_ei w2 (w_ar ws (n_v vs 0) 4) j := el_kp s2.1 r11 cr_0_4 (by decide)
  have hE_0_4_3 : ∀ j : Int, w_ei w2 (w_ar ws (n_v vs 0) 4) j = w_ei w3 (w_ar ws (n_v vs 0) 4) j := el_kp s3.1 r11 cr_0_4 (by decide)
  have hE_0_4_4 : ∀ j : Int, w_ei w3 (w_ar ws (n_v vs 0) 4) j = w_ei w4 (w_ar ws (n_v vs 0) 4) j := el_kp s4.1 r11 cr_0_4 (by decide)
  have hE_0_4_5 : ∀ j : Int, w_ei w4 (w_ar ws (n_v vs 0) 4) j = w_ei w5 (w_ar ws (n_v vs 0) 4) j := el_kp s5.1 r11 cr_0_4 (by decide)
  have nf0 : fc_1 PRD (20, [0], [60, 0, 3, 198, 2, 3, 4]) ws (vs) := ⟨nf_in hl rfl, sgq_1230 (vc_Mo_newNode_11_0 (v_iv (n_v vs 5)) (v_iv (n_v vs 6)) (v_iv (n_v vs 8)) (v_iv (n_v vs 12)) (v_iv (n_v vs 14)) (v_iv (n_v vs 18)) (v_iv (n_v vs 19)) (v_iv (n_v vs 21)) (v_iv (n_v vs 22)) (v_iv (n_v vs 24)) (v_iv (n_v vs 26)) (v_iv (n_v vs 27)) (v_iv (n_v vs 28)) (v_iv (n_v vs 30)) (v_iv (n_v vs 31)) (w_fi ws (n_v vs 0) 5) (w_fi w1 (n_v vs 0) 5) (w_fi w2 (n_v vs 0) 5) (w_fi w3 (n_v vs 0) 5) (w_fi w4 (n_v vs 0) 5) (w_ei w5 (w_ar ws (n_v vs 0) 2)) (w_ei w5 (w_ar ws (n_v vs 0) 3)) (w_ei w5 (w_ar ws (n_v vs 0) 4)) (w_fi w5 (n_v vs 0) 5) (w_ei ws (w_ar ws (n_v vs 0) 2)) (w_ei w1 (w_ar ws (n_v vs 0) 2)) (w_ei w2 (w_ar ws (n_v vs 0) 2)) (w_ei w3 (w_ar ws (n_v vs 0) 2)) (w_ei w4 (w_ar ws (n_v vs 0) 2)) (w_ei ws (w_ar ws (n_v vs 0) 3)) (w_ei w1 (w_ar ws (n_v vs 0) 3)) (w_ei w2 (w_ar ws (n_v vs 0) 3)) (w_ei w3 (w_ar ws (n_v vs 0) 3)) (w_ei w4 (w_ar ws (n_v vs 0) 3)) (w_ei ws (w_ar ws (n_v vs 0) 4)) (w_ei w1 (w_ar ws (n_v vs 0) 4)) (w_ei w2 (w_ar ws (n_v vs 0) 4)) (w_ei w3 (w_ar ws (n_v vs 0) 4)) (w_ei w4 (w_ar ws (n_v vs 0) 4)) k5 k6 k8 k12 k14 k18 k19 k21 k22 k24 k26 k27 k28 k30 k31 d1 d3 d7 d11 d13 (shm_1804 f0) f1 (shm_12 f4) g6 (shm_12 f11) (shm_12 f17) f29 fe_0_5_1 fe_0_5_2 fe_0_5_3 fe_0_5_4 fe_0_5_5 hE_0_2_1 hE_0_2_2 hE_0_2_3 hE_0_2_4 hE_0_2_5 hE_0_3_1 hE_0_3_2 hE_0_3_3 hE_0_3_4 hE_0_3_5 hE_0_4_1 hE_0_4_2 hE_0_4_3 hE_0_4_4 hE_0_4_5)⟩
  refine ⟨(fun _ h => (by cases h)), [], trivial, ?_, (fun _ h => (by cases h))⟩
  rw [List.append_nil]
  exact List.forall_mem_cons.mpr ⟨⟨show (20 : Nat) < 100 from by decide, nf0⟩, (fun _ h => (by cases h))⟩
def o_Mo_newNode_12 : or_T := (241, 20, [(6, (0, 1, 23, [])), (8, (0, 3, 66484, [])), (14, (0, 1, 1, [])), (15, (0, 4, 66485, [])), (16, (0, 48, 48, [])), (18, (0, 0, 2, [])), (19, (0, 48, 50, []))], [(1, [19, 16, 18], []), (11, [18, 6], [10]), (1, [15, 8, 14], []), (20, [8, 6], [50, 0, 0, 1, 6, 9, 2, 1, 0, 0, 539, 4, 2, 0, 3, 6, 2, 0, 8, 1, 1])], [], [], [(18, [15, 19], [1])], [], [(19, 18, 48, 48), (15, 8, 1, 1)])
theorem oo_Mo_newNode_12 {kA : Nat → ClassId} : or_ok PRD kA GG o_Mo_newNode_12 := by
  refine or_mk fun A ta ws vs hD hth hl => ?_
  intro t6 k6 t8 k8 t14 k14 t15 k15 t16 k16 t18 k18 t19 k19 d0 d1 f0 f1 f2 f3
  replace f0 := shm_12 f0
  replace f1 := shm_1807 f1
  replace f2 := shm_12 f2
  replace f3 := shm_1804 f3
  have nf0 : fc_1 PRD (18, [15, 19], [1]) ws (vs) := by
    refine ⟨nf_in hl rfl, sgq_1302 ?_⟩
    · show pl_ok 1 (v_iv (n_v vs 15)).toNat (v_iv (n_v vs 19))
      have em0 : v_iv (n_v vs 15) % 539 = v_iv (n_v vs 15) - 539 * (v_iv (n_v vs 8) / 539) := em_of (q := v_iv (n_v vs 8) / 539) (by omega) (by omega) (by omega) (by omega)
      have em1 : (((v_iv (n_v vs 15)).toNat % 539 : Nat) : Int) = v_iv (n_v vs 15) % 539 := by rw [Int.natCast_emod, Int.toNat_of_nonneg (by omega)]; rfl
      exact pl_in pl_M1 (lo := 3) (hi := 194) (a := 48) (b := 50) (by decide +kernel) (by omega) (by omega) (by omega) (by omega)
  refine ⟨(fun _ h => (by cases h)), [], trivial, ?_, (fun _ h => (by cases h))⟩
  rw [List.append_nil]
  exact List.forall_mem_cons.mpr ⟨⟨show (18 : Nat) < 100 from by decide, nf0⟩, (fun _ h => (by cases h))⟩
def o_Mo_newNode_13 : or_T := (258, 25, [(6, (0, 1, 23, [])), (7, (0, 2, 2, [])), (8, (0, 3, 66484, [])), (20, (0, 5, 66486, [])), (21, (0, 48, 48, [])), (23, (0, 0, 9, [])), (24, (0, 48, 57, []))], [(1, [24, 21, 23], []), (12, [23, 6], [10]), (1, [20, 8, 7], []), (20, [8, 6], [50, 0, 0, 1, 6, 9, 2, 1, 0, 0, 539, 4, 2, 0, 3, 6, 2, 0, 8, 1, 1])], [], [], [(18, [20, 24], [1])], [], [(24, 23, 48, 48), (20, 8, 2, 2)])
theorem oo_Mo_newNode_13 {kA : Nat → ClassId} : or_ok PRD kA GG o_Mo_newNode_13 := by
  refine or_mk fun A ta ws vs hD hth hl => ?_
  intro t6 k6 t7 k7 t8 k8 t20 k20 t21 k21 t23 k23 t24 k24 d0 d1 f0 f1 f2 f3
  replace f0 := shm_12 f0
  replace f1 := shm_1806 f1
  replace f2 := shm_12 f2
  replace f3 := shm_1804 f3
  have nf0 : fc_1 PRD (18, [20, 24], [1]) ws (vs) := by
    refine ⟨nf_in hl rfl, sgq_1302 ?_⟩
    · show pl_ok 1 (v_iv (n_v vs 20)).toNat (v_iv (n_v vs 24))
      have em0 : v_iv (n_v vs 20) % 539 = v_iv (n_v vs 20) - 539 * (v_iv (n_v vs 8) / 539) := em_of (q := v_iv (n_v vs 8) / 539) (by omega) (by omega) (by omega) (by omega)
      have em1 : (((v_iv (n_v vs 20)).toNat % 539 : Nat) : Int) = v_iv (n_v vs 20) % 539 := by rw [Int.natCast_emod, Int.toNat_of_nonneg (by omega)]; rfl
      exact pl_in pl_M1 (lo := 3) (hi := 194) (a := 48) (b := 57) (by decide +kernel) (by omega) (by omega) (by omega) (by omega)
  refine ⟨(fun _ h => (by cases h)), [], trivial, ?_, (fun _ h => (by cases h))⟩
  rw [List.append_nil]
  exact List.forall_mem_cons.mpr ⟨⟨show (18 : Nat) < 100 from by decide, nf0⟩, (fun _ h => (by cases h))⟩
set_option maxHeartbeats 4000000 in
theorem vc_Mo_newNode_14_0 (x5 : Int) (x6 : Int) (x8 : Int) (x12 : Int) (x15 : Int) (x19 : Int) (x20 : Int) (x24 : Int) (x25 : Int) (x27 : Int) (x28 : Int) (x30 : Int) (x32 : Int) (x33 : Int) (x34 : Int) (x36 : Int) (x37 : Int) (r_0 : Int) (r_1 : Int) (r_2 : Int) (r_3 : Int) (r_4 : Int) (r_5 : Int) (all_6 : Int → Int) (now_6 : Int → Int) (latest_6 : Int → Int) (r_6 : Int) (all_0 : Int → Int) (all_1 : Int → Int) (all_2 : Int → Int) (all_3 : Int → Int) (all_4 : Int → Int) (all_5 : Int → Int) (now_0 : Int → Int) (now_1 : Int → Int) (now_2 : Int → Int) (now_3 : Int → Int) (now_4 : Int → Int) (now_5 : Int → Int) (latest_0 : Int → Int) (latest_1 : Int → Int) (latest_2 : Int → Int) (latest_3 : Int → Int) (latest_4 : Int → Int) (latest_5 : Int → Int) (k5 : 0 ≤ x5 ∧ x5 ≤ 7) (k6 : 1 ≤ x6 ∧ x6 ≤ 23) (k8 : 3 ≤ x8 ∧ x8 ≤ 66484) (k12 : 110 ≤ x12 ∧ x12 ≤ 110) (k15 : 4 ≤ x15 ∧ x15 ≤ 66485) (k19 : 48 ≤ x19 ∧ x19 ≤ 50) (k20 : 5 ≤ x20 ∧ x20 ≤ 66486) (k24 : 48 ≤ x24 ∧ x24 ≤ 57) (k25 : 0 ≤ x25 ∧ x25 ≤ 66297) (k27 : 195 ≤ x27 ∧ x27 ≤ 66492) (k28 : 196 ≤ x28 ∧ x28 ≤ 66515) (k30 : 3 ≤ x30 ∧ x30 ≤ 3) (k32 : 219 ≤ x32 ∧ x32 ≤ 66516) (k33 : 220 ≤ x33 ∧ x33 ≤ 66539) (k34 : 1 ≤ x34 ∧ x34 ≤ 1) (k36 : 243 ≤ x36 ∧ x36 ≤ 66540) (k37 : 244 ≤ x37 ∧ x37 ≤ 66563) (d3 : x25 + 243 ≤ x36 ∧ x36 ≤ x25 + 243) (d7 : x25 + 219 ≤ x32 ∧ x32 ≤ x25 + 219) (d10 : x25 + 196 ≤ x28 ∧ x28 ≤ x25 + 218) (d11 : x25 + 195 ≤ x27 ∧ x27 ≤ x25 + 195) (d13 : x8 + 2 ≤ x20 ∧ x20 ≤ x8 + 2) (d15 : x8 + 1 ≤ x15 ∧ x15 ≤ x8 + 1) (f0 : (x8 % 539) = (3 + (8 * x6))) (f1 : x8 = ((r_0 + 3) + (8 * x6))) (f4 : x37 = x36 + x6) (g6 : x25 = r_1) (f11 : x33 = x32 + x6) (f17 : x28 = x27 + x6) (f35 : RWN (r_6) (all_6) (now_6) (latest_6) (x6)) (fe_0_5_1 : r_0 = r_1) (fe_0_5_2 : r_1 = r_2) (fe_0_5_3 : r_2 = r_3) (fe_0_5_4 : r_3 = r_4) (fe_0_5_5 : r_4 = r_5) (fe_0_5_6 : r_5 = r_6) (hE_0_2_1 : ∀ j : Int, 0 ≤ j → (j = x37 → all_0 j = x5) ∧ (j ≠ x37 → all_0 j = all_1 j)) (hE_0_2_2 : ∀ j : Int, 0 ≤ j → (j = x33 → all_1 j = x34) ∧ (j ≠ x33 → all_1 j = all_2 j)) (hE_0_2_3 : ∀ j : Int, 0 ≤ j → (j = x28 → all_2 j = x30) ∧ (j ≠ x28 → all_2 j = all_3 j)) (hE_0_2_4 : ∀ j : Int, 0 ≤ j → (j = x20 → all_3 j = x24) ∧ (j ≠ x20 → all_3 j = all_4 j)) (hE_0_2_5 : ∀ j : Int, 0 ≤ j → (j = x15 → all_4 j = x19) ∧ (j ≠ x15 → all_4 j = all_5 j)) (hE_0_2_6 : ∀ j : Int, 0 ≤ j → (j = x8 → all_5 j = x12) ∧ (j ≠ x8 → all_5 j = all_6 j)) (hE_0_3_1 : ∀ j : Int, now_0 j = now_1 j) (hE_0_3_2 : ∀ j : Int, now_1 j = now_2 j) (hE_0_3_3 : ∀ j : Int, now_2 j = now_3 j) (hE_0_3_4 : ∀ j : Int, now_3 j = now_4 j) (hE_0_3_5 : ∀ j : Int, now_4 j = now_5 j) (hE_0_3_6 : ∀ j : Int, now_5 j = now_6 j) (hE_0_4_1 : ∀ j : Int, latest_0 j = latest_1 j) (hE_0_4_2 : ∀ j : Int, latest_1 j = latest_2 j) (hE_0_4_3 : ∀ j : Int, latest_2 j = latest_3 j) (hE_0_4_4 : ∀ j : Int, latest_3 j = latest_4 j) (hE_0_4_5 : ∀ j : Int, latest_4 j = latest_5 j) (hE_0_4_6 : ∀ j : Int, latest_5 j = latest_6 j) : ROWS (all_0) (now_0) (latest_0) := by
  subst fe_0_5_1
  subst fe_0_5_2
  subst fe_0_5_3
  subst fe_0_5_4
  subst fe_0_5_5
  subst fe_0_5_6
  have e_hE_0_3_1 := funext hE_0_3_1; subst e_hE_0_3_1
  have e_hE_0_3_2 := funext hE_0_3_2; subst e_hE_0_3_2
  have e_hE_0_3_3 := funext hE_0_3_3; subst e_hE_0_3_3
  have e_hE_0_3_4 := funext hE_0_3_4; subst e_hE_0_3_4
  have e_hE_0_3_5 := funext hE_0_3_5; subst e_hE_0_3_5
  have e_hE_0_3_6 := funext hE_0_3_6; subst e_hE_0_3_6
  have e_hE_0_4_1 := funext hE_0_4_1; subst e_hE_0_4_1
  have e_hE_0_4_2 := funext hE_0_4_2; subst e_hE_0_4_2
  have e_hE_0_4_3 := funext hE_0_4_3; subst e_hE_0_4_3
  have e_hE_0_4_4 := funext hE_0_4_4; subst e_hE_0_4_4
  have e_hE_0_4_5 := funext hE_0_4_5; subst e_hE_0_4_5
  have e_hE_0_4_6 := funext hE_0_4_6; subst e_hE_0_4_6
  first
    | exact (rws_off (rwn_fin (rwn_off (rwn_off (rwn_off ‹RWN _ _ _ _ _› (by assumption) (by omega)) (by assumption) (by omega)) (by assumption) (by omega)) (by assumption) (by omega) (by omega)) (by assumption) (by omega)).1
    | exact (rws_off (rwn_fin (rwn_off (rwn_off (rwn_off (rwn_off ‹RWN _ _ _ _ _› (by assumption) (by omega)) (by assumption) (by omega)) (by assumption) (by omega)) (by assumption) (by omega)) (by assumption) (by omega) (by omega)) (by assumption) (by omega)).1
def o_Mo_newNode_14 : or_T := (311, 38, [(0, (2, 0, 0, [165])), (5, (0, 0, 7, [])), (6, (0, 1, 23, [])), (8, (0, 3, 66484, [])), (11, (2, 0, 0, [167])), (12, (0, 110, 110, [])), (15, (0, 4, 66485, [])), (19, (0, 48, 50, [])), (20, (0, 5, 66486, [])), (24, (0, 48, 57, [])), (25, (0, 0, 66297, [])), (27, (0, 195, 66492, [])), (28, (0, 196, 66515, [])), (30, (0, 3, 3, [])), (32, (0, 219, 66516, [])), (33, (0, 220, 66539, [])), (34, (0, 1, 1, [])), (36, (0, 243, 66540, [])), (37, (0, 244, 66563, []))], [(20, [8, 6], [50, 0, 0, 1, 6, 9, 2, 1, 0, 0, 539, 4, 2, 0, 3, 6, 2, 0, 8, 1, 1]), (20, [8, 3, 6], [50, 1, 0, 1005, 1, 2, 1, 0, 4, 7, 4, 3, 2, 1, 5, 0, 3, 6, 2, 0, 8, 1, 2]), (24, [0, 3], []), (100, [11, 37, 5], []), (1, [37, 36, 6], []), (9, [25, 3], [5]), (9, [11, 3], [2]), (100, [11, 33, 34], []), (1, [33, 32, 6], []), (100, [11, 28, 30], []), (1, [28, 27, 6], []), (100, [11, 20, 24], []), (100, [11, 15, 19], []), (100, [11, 8, 12], []), (20, [3, 6], [60, 1, 3, 200, 5, 2, 3, 4])], [], [], [(20, [0], [60, 0, 3, 198, 2, 3, 4])], [], [(37, 6, 243, 66540), (37, 36, 1, 23), (37, 25, 244, 266), (36, 25, 243, 243), (33, 6, 219, 66516), (33, 32, 1, 23), (33, 25, 220, 242), (32, 25, 219, 219), (28, 6, 195, 66492), (28, 27, 1, 23), (28, 25, 196, 218), (27, 25, 195, 195), (24, 23, 48, 48), (20, 8, 2, 2), (19, 18, 48, 48), (15, 8, 1, 1)])
theorem oo_Mo_newNode_14 {kA : Nat → ClassId} : or_ok PRD kA GG o_Mo_newNode_14 := by
  refine or_mk fun A ta ws vs hD hth hl => ?_
  intro t0 r0 t5 k5 t6 k6 t8 k8 t11 r11 t12 k12 t15 k15 t19 k19 t20 k20 t24 k24 t25 k25 t27 k27 t28 k28 t30 k30 t32 k32 t33 k33 t34 k34 t36 k36 t37 k37 d0 d1 d2 d3 d4 d5 d6 d7 d8 d9 d10 d11 d12 d13 d14 d15 f0 f1 f2 ta1 w1 le1 s1 f4 f6 f7 ta2 w2 le2 s2 f11 ta3 w3 le3 s3 f17 ta4 w4 le4 s4 ta5 w5 le5 s5 ta6 w6 le6 s6 f35
  replace f1 := shm_1805 f1
  replace f2 := shm_5 f2
  have s1 : (∀ b j, w_el ws b j = if b = v_ad (n_v vs 11) ∧ j = (v_iv (n_v vs 37)).toNat then v_iv (n_v vs 5) else w_el w1 b j) ∧ ∀ b k, w_fd ws b k = w_fd w1 b k := s1.2
  replace f6 := shm_110 f6
  replace f7 := shm_120 f7
  have s2 : (∀ b j, w_el w1 b j = if b = v_ad (n_v vs 11) ∧ j = (v_iv (n_v vs 33)).toNat then v_iv (n_v vs 34) else w_el w2 b j) ∧ ∀ b k, w_fd w1 b k = w_fd w2 b k := s2.2
  have s3 : (∀ b j, w_el w2 b j = if b = v_ad (n_v vs 11) ∧ j = (v_iv (n_v vs 28)).toNat then v_iv (n_v vs 30) else w_el w3 b j) ∧ ∀ b k, w_fd w2 b k = w_fd w3 b k := s3.2
  have s4 : (∀ b j, w_el w3 b j = if b = v_ad (n_v vs 11) ∧ j = (v_iv (n_v vs 20)).toNat then v_iv (n_v vs 24) else w_el w4 b j) ∧ ∀ b k, w_fd w3 b k = w_fd w4 b k := s4.2
  have s5 : (∀ b j, w_el w4 b j = if b = v_ad (n_v vs 11) ∧ j = (v_iv (n_v vs 15)).toNat then v_iv (n_v vs 19) else w_el w5 b j) ∧ ∀ b k, w_fd w4 b k = w_fd w5 b k := s5.2
  have s6 : (∀ b j, w_el w5 b j = if b = v_ad (n_v vs 11) ∧ j = (v_iv (n_v vs 8)).toNat then v_iv (n_v vs 12) else w_el w6 b j) ∧ ∀ b k, w_fd w5 b k = w_fd w6 b k := s6.2
  replace f35 := shm_1803 f35
  have q3 : n_v vs 3 = n_v vs 0 := f2.symm
  simp only [q3] at f1 f6 f7 f35
  have ar_0_2_1 : w_ar w1 (n_v vs 0) 2 = w_ar ws (n_v vs 0) 2 := congrArg v_ad (s1.2 _ _).symm
  have ar_0_2_2 : w_ar w2 (n_v vs 0) 2 = w_ar ws (n_v vs 0) 2 := by rw [← ar_0_2_1]; show v_ad (w_fd w2 _ _) = v_ad (w_fd w1 _ _); rw [s2.2]
  have ar_0_2_3 : w_ar w3 (n_v vs 0) 2 = w_ar ws (n_v vs 0) 2 := by rw [← ar_0_2_2]; show v_ad (w_fd w3 _ _) = v_ad (w_fd w2 _ _); rw [s3.2]
  have ar_0_2_4 : w_ar w4 (n_v vs 0) 2 = w_ar ws (n_v vs 0) 2 := by rw [← ar_0_2_3]; show v_ad (w_fd w4 _ _) = v_ad (w_fd w3 _ _); rw [s4.2]
  have ar_0_2_5 : w_ar w5 (n_v vs 0) 2 = w_ar ws (n_v vs 0) 2 := by rw [← ar_0_2_4]; show v_ad (w_fd w5 _ _) = v_ad (w_fd w4 _ _); rw [s5.2]
  have ar_0_2_6 : w_ar w6 (n_v vs 0) 2 = w_ar ws (n_v vs 0) 2 := by rw [← ar_0_2_5]; show v_ad (w_fd w6 _ _) = v_ad (w_fd w5 _ _); rw [s6.2]
  have ar_0_3_1 : w_ar w1 (n_v vs 0) 3 = w_ar ws (n_v vs 0) 3 := congrArg v_ad (s1.2 _ _).symm
  have ar_0_3_2 : w_ar w2 (n_v vs 0) 3 = w_ar ws (n_v vs 0) 3 := by rw [← ar_0_3_1]; show v_ad (w_fd w2 _ _) = v_ad (w_fd w1 _ _); rw [s2.2]
  have ar_0_3_3 : w_ar w3 (n_v vs 0) 3 = w_ar ws (n_v vs 0) 3 := by rw [← ar_0_3_2]; show v_ad (w_fd w3 _ _) = v_ad (w_fd w2 _ _); rw [s3.2]
  have ar_0_3_4 : w_ar w4 (n_v vs 0) 3 = w_ar ws (n_v vs 0) 3 := by rw [← ar_0_3_3]; show v_ad (w_fd w4 _ _) = v_ad (w_fd w3 _ _); rw [s4.2]
  have ar_0_3_5 : w_ar w5 (n_v vs 0) 3 = w_ar ws (n_v vs 0) 3 := by rw [← ar_0_3_4]; show v_ad (w_fd w5 _ _) = v_ad (w_fd w4 _ _); rw [s5.2]
  have ar_0_3_6 : w_ar w6 (n_v vs 0) 3 = w_ar ws (n_v vs 0) 3 := by rw [← ar_0_3_5]; show v_ad (w_fd w6 _ _) = v_ad (w_fd w5 _ _); rw [s6.2]
  have cr_0_3 := fdq_142 hD hth r0
  have ar_0_4_1 : w_ar w1 (n_v vs 0) 4 = w_ar ws (n_v vs 0) 4 := congrArg v_ad (s1.2 _ _).symm
  have ar_0_4_2 : w_ar w2 (n_v vs 0) 4 = w_ar ws (n_v vs 0) 4 := by rw [← ar_0_4_1]; show v_ad (w_fd w2 _ _) = v_ad (w_fd w1 _ _); rw [s2.2]
  have ar_0_4_3 : w_ar w3 (n_v vs 0) 4 = w_ar ws (n_v vs 0) 4 := by rw [← ar_0_4_2]; show v_ad (w_fd w3 _ _) = v_ad (w_fd w2 _ _); rw [s3.2]
  have ar_0_4_4 : w_ar w4 (n_v vs 0) 4 = w_ar ws (n_v vs 0) 4 := by rw [← ar_0_4_3]; show v_ad (w_fd w4 _ _) = v_ad (w_fd w3 _ _); rw [s4.2]
  have ar_0_4_5 : w_ar w5 (n_v vs 0) 4 = w_ar ws (n_v vs 0) 4 := by rw [← ar_0_4_4]; show v_ad (w_fd w5 _ _) = v_ad (w_fd w4 _ _); rw [s5.2]
  have ar_0_4_6 : w_ar w6 (n_v vs 0) 4 = w_ar ws (n_v vs 0) 4 := by rw [← ar_0_4_5]; show v_ad (w_fd w6 _ _) = v_ad (w_fd w5 _ _); rw [s6.2]
  have cr_0_4 := fdq_143 hD hth r0
  have ad_11 : v_ad (n_v vs 11) = w_ar ws (n_v vs 0) 2 := (congrArg v_ad f7).trans ar_0_2_1
  have g6 : v_iv (n_v vs 25) = w_fi w1 (n_v vs 0) 5 := congrArg v_iv f6
  simp only [ar_0_2_6, ar_0_3_6, ar_0_4_6] at f35
  have fe_0_5_1 : w_fi ws (n_v vs 0) 5 = w_fi w1 (n_v vs 0) 5 := congrArg v_iv (s1.2 _ _)
  have fe_0_5_2 : w_fi w1 (n_v vs 0) 5 = w_fi w2 (n_v vs 0) 5 := congrArg v_iv (s2.2 _ _)
  have fe_0_5_3 : w_fi w2 (n_v vs 0) 5 = w_fi w3 (n_v vs 0) 5 := congrArg v_iv (s3.2 _ _)
  have fe_0_5_4 : w_fi w3 (n_v vs 0) 5 = w_fi w4 (n_v vs 0) 5 := congrArg v_iv (s4.2 _ _)
  have fe_0_5_5 : w_fi w4 (n_v vs 0) 5 = w_fi w5 (n_v vs 0) 5 := congrArg v_iv (s5.2 _ _)
  have fe_0_5_6 : w_fi w5 (n_v vs 0) 5 = w_fi w6 (n_v vs 0) 5 := congrArg v_iv (s6.2 _ _)
  have hE_0_2_1 : ∀ j : Int, 0 ≤ j → (j = v_iv (n_v vs 37) → w_ei ws (w_ar ws (n_v vs 0) 2) j = v_iv (n_v vs 5)) ∧ (j ≠ v_iv (n_v vs 37) → w_ei ws (w_ar ws (n_v vs 0) 2) j = w_ei w1 (w_ar ws (n_v vs 0) 2) j) := fun j hj => ⟨fun h => by unfold w_ei; rw [s1.1, if_pos ⟨ad_11.symm, by rw [h]⟩], fun h => by unfold w_ei; rw [s1.1, if_neg (fun e => h (by have := e.2; omega))]⟩
  have hE_0_2_2 : ∀ j : Int, 0 ≤ j → (j = v_iv (n_v vs 33) → w_ei w1 (w_ar ws (n_v vs 0) 2) j = v_iv (n_v vs 34)) ∧ (j ≠ v_iv (n_v vs 33) → w_ei w1 (w_ar ws (n_v vs 0) 2) j = w_ei w2 (w_ar ws (n_v vs 0) 2) j) := fun j hj => ⟨fun h => by unfold w_ei; rw [s2.1, if_pos ⟨ad_11.symm, by rw [h]⟩], fun h => by unfold w_ei; rw [s2.1, if_neg (fun e => h (by have := e.2; omega))]⟩
  have hE_0_2_3 : ∀ j : Int, 0 ≤ j → (j = v_iv (n_v vs 28) → w_ei w2 (w_ar ws (n_v vs 0) 2) j = v_iv (n_v vs 30)) ∧ (j ≠ v_iv (n_v vs 28) → w_ei w2 (w_ar ws (n_v vs 0) 2) j = w_ei w3 (w_ar ws (n_v vs 0) 2) j) := fun j hj => ⟨fun h => by unfold w_ei; rw [s3.1, if_pos ⟨ad_11.symm, by rw [h]⟩], fun h => by unfold w_ei; rw [s3.1, if_neg (fun e => h (by have := e.2; omega))]⟩
  have hE_0_2_4 : ∀ j : Int, 0 ≤ j → (j = v_iv (n_v vs 20) → w_ei w3 (w_ar ws (n_v vs 0) 2) j = v_iv (n_v vs 24)) ∧ (j ≠ v_iv (n_v vs 20) → w_ei w3 (w_ar ws (n_v vs 0) 2) j = w_ei w4 (w_ar ws (n_v vs 0) 2) j) := fun j hj => ⟨fun h => by unfold w_ei; rw [s4.1, if_pos ⟨ad_11.symm, by rw [h]⟩], fun h => by unfold w_ei; rw [s4.1, if_neg (fun e => h (by have := e.2; omega))]⟩
  have hE_0_2_5 : ∀ j : Int, 0 ≤ j → (j = v_iv (n_v vs 15) → w_ei w4 (w_ar ws (n_v vs 0) 2) j = v_iv (n_v vs 19)) ∧ (j ≠ v_iv (n_v vs 15) → w_ei w4 (w_ar ws (n_v vs 0) 2) j = w_ei w5 (w_ar ws (n_v vs 0) 2) j) := fun j hj => ⟨fun h => by unfold w_ei; rw [s5.1, if_pos ⟨ad_11.symm, by rw [h]⟩], fun h => by unfold w_ei; rw [s5.1, if_neg (fun e => h (by have := e.2; omega))]⟩
  have hE_0_2_6 : ∀ j : Int, 0 ≤ j → (j = v_iv (n_v vs 8) → w_ei w5 (w_ar ws (n_v vs 0) 2) j = v_iv (n_v vs 12)) ∧ (j ≠ v_iv (n_v vs 8) → w_ei w5 (w_ar ws (n_v vs 0) 2) j = w_ei w6 (w_ar ws (n_v vs 0) 2) j) := fun j hj => ⟨fun h => by unfold w_ei; rw [s6.1, if_pos ⟨ad_11.symm, by rw [h]⟩], fun h => by unfold w_ei; rw [s6.1, if_neg (fun e => h (by have := e.2; omega))]⟩
  have hE_0_3_1 : ∀ j : Int, w_ei ws (w_ar ws (n_v vs 0) 3) j = w_ei w1 (w_ar ws (n_v vs 0) 3) j := el_kp s1.1 r11 cr_0_3 (by decide)
  have hE_0_3_2 : ∀ j : Int, w_ei w1 (w_ar ws (n_v vs 0) 3) j = w_ei w2 (w_ar ws (n_v vs 0) 3) j := el_kp s2.1 r11 cr_0_3 (by decide)
  have hE_0_3_3 : ∀ j : Int, w_ei w2 (w_ar ws (n_v vs 0) 3) j = w_ei w3 (w_ar ws (n_v vs 0) 3) j := el_kp s3.1 r11 cr_0_3 (by decide)
  have hE_0_3_4 : ∀ j : Int, w_ei w3 (w_ar ws (n_v vs 0) 3) j = w_ei w4 (w_ar ws (n_v vs 0) 3) j := el_kp s4.1 r11 cr_0_3 (by decide)
  have hE_0_3_5 : ∀ j : Int, w_ei w4 (w_ar ws (n_v vs 0) 3) j = w_ei w5 (w_ar ws (n_v vs 0) 3) j := el_kp s5.1 r11 cr_0_3 (by decide)
  have hE_0_3_6 : ∀ j : Int, w_ei w5 (w_ar ws (n_v vs 0) 3) j = w_ei w6 (w_ar ws (n_v vs 0) 3) j := el_kp s6.1 r11 cr_0_3 (by decide)
  have hE_0_4_1 : ∀ j : Int, w_ei ws (w_ar ws (n_v vs 0) 4) j = w_ei w1 (w_ar ws (n_v vs 0) 4) j := el_kp s1.1 r11 cr_0_4 (by decide)
  have hE_0_4_2 : ∀ j : Int, w_ei w1 (w_ar ws (n_v vs 0) 4) j = w_ei w2 (w_ar ws (n_v vs 0) 4) j := el_kp s2.1 r11 cr_0_4 (by decide)
  have hE_0_4_3 : ∀ j : Int, w_ei w2 (w_ar ws (n_v vs 0) 4) j = w_ei w3 (w_ar ws (n_v vs 0) 4) j := el_kp s3.1 r11 cr_0_4 (by decide)
  have hE_0_4_4 : ∀ j : Int, w_ei w3 (w_ar ws (n_v vs 0) 4) j = w_ei w4 (w_ar ws (n_v vs 0) 4) j := el_kp s4.1 r11 cr_0_4 (by decide)
  have hE_0_4_5 : ∀ j : Int, w_ei w4 (w_ar ws (n_v vs 0) 4) j = w_ei w5 (w_ar ws (n_v vs 0) 4) j := el_kp s5.1 r11 cr_0_4 (by decide)
  have hE_0_4_6 : ∀ j : Int, w_ei w5 (w_ar ws (n_v vs 0) 4) j = w_ei w6 (w_ar ws (n_v vs 0) 4) j := el_kp s6.1 r11 cr_0_4 (by decide)
  have nf0 : fc_1 PRD (20, [0], [60, 0, 3, 198, 2, 3, 4]) ws (vs) := ⟨nf_in hl rfl, sgq_1230 (vc_Mo_newNode_14_0 (v_iv (n_v vs 5)) (v_iv (n_v vs 6)) (v_iv (n_v vs 8)) (v_iv (n_v vs 12)) (v_iv (n_v vs 15)) (v_iv (n_v vs 19)) (v_iv (n_v vs 20)) (v_iv (n_v vs 24)) (v_iv (n_v vs 25)) (v_iv (n_v vs 27)) (v_iv (n_v vs 28)) (v_iv (n_v vs 30)) (v_iv (n_v vs 32)) (v_iv (n_v vs 33)) (v_iv (n_v vs 34)) (v_iv (n_v vs 36)) (v_iv (n_v vs 37)) (w_fi ws (n_v vs 0) 5) (w_fi w1 (n_v vs 0) 5) (w_fi w2 (n_v vs 0) 5) (w_fi w3 (n_v vs 0) 5) (w_fi w4 (n_v vs 0) 5) (w_fi w5 (n_v vs 0) 5) (w_ei w6 (w_ar ws (n_v vs 0) 2)) (w_ei w6 (w_ar ws (n_v vs 0) 3)) (w_ei w6 (w_ar ws (n_v vs 0) 4)) (w_fi w6 (n_v vs 0) 5) (w_ei ws (w_ar ws (n_v vs 0) 2)) (w_ei w1 (w_ar ws (n_v vs 0) 2)) (w_ei w2 (w_ar ws (n_v vs 0) 2)) (w_ei w3 (w_ar ws (n_v vs 0) 2)) (w_ei w4 (w_ar ws (n_v vs 0) 2)) (w_ei w5 (w_ar ws (n_v vs 0) 2)) (w_ei ws (w_ar ws (n_v vs 0) 3)) (w_ei w1 (w_ar ws (n_v vs 0) 3)) (w_ei w2 (w_ar ws (n_v vs 0) 3)) (w_ei w3 (w_ar ws (n_v vs 0) 3)) (w_ei w4 (w_ar ws (n_v vs 0) 3)) (w_ei w5 (w_ar ws (n_v vs 0) 3)) (w_ei ws (w_ar ws (n_v vs 0) 4)) (w_ei w1 (w_ar ws (n_v vs 0) 4)) (w_ei w2 (w_ar ws (n_v vs 0) 4)) (w_ei w3 (w_ar ws (n_v vs 0) 4)) (w_ei w4 (w_ar ws (n_v vs 0) 4)) (w_ei w5 (w_ar ws (n_v vs 0) 4)) k5 k6 k8 k12 k15 k19 k20 k24 k25 k27 k28 k30 k32 k33 k34 k36 k37 d3 d7 d10 d11 d13 d15 (shm_1804 f0) f1 (shm_12 f4) g6 (shm_12 f11) (shm_12 f17) f35 fe_0_5_1 fe_0_5_2 fe_0_5_3 fe_0_5_4 fe_0_5_5 fe_0_5_6 hE_0_2_1 hE_0_2_2 hE_0_2_3 hE_0_2_4 hE_0_2_5 hE_0_2_6 hE_0_3_1 hE_0_3_2 hE_0_3_3 hE_0_3_4 hE_0_3_5 hE_0_3_6 hE_0_4_1 hE_0_4_2 hE_0_4_3 hE_0_4_4 hE_0_4_5 hE_0_4_6)⟩
  refine ⟨(fun _ h => (by cases h)), [], trivial, ?_, (fun _ h => (by cases h))⟩
  rw [List.append_nil]
  exact List.forall_mem_cons.mpr ⟨⟨show (20 : Nat) < 100 from by decide, nf0⟩, (fun _ h => (by cases h))⟩
set_option maxHeartbeats 4000000 in
theorem vc_Mo_newNode_15_0 (x6 : Int) (x8 : Int) (x9 : Int) (x12 : Int) (x13 : Int) (x14 : Int) (r_0 : Int) (all_1 : Int → Int) (now_1 : Int → Int) (latest_1 : Int → Int) (r_1 : Int) (all_0 : Int → Int) (now_0 : Int → Int) (latest_0 : Int → Int) (k6 : 0 ≤ x6 ∧ x6 ≤ 23) (k8 : 3 ≤ x8 ∧ x8 ≤ 66484) (k9 : 0 ≤ x9 ∧ x9 ≤ 7) (k12 : 3 ≤ x12 ∧ x12 ≤ 66491) (k13 : 0 ≤ x13 ∧ x13 ≤ 0) (k14 : 1 ≤ x14 ∧ x14 ≤ 8) (d0 : x9 + 1 ≤ x14 ∧ x14 ≤ x9 + 1) (d2 : x8 + 0 ≤ x12 ∧ x12 ≤ x8 + 7) (f1 : (x8 % 539) = (3 + (8 * x6))) (f2 : x8 = ((r_0 + 3) + (8 * x6))) (f5 : x12 = x8 + x9) (f8 : RWN (r_1) (all_1) (now_1) (latest_1) (x6)) (fe_0_5_1 : r_0 = r_1) (hE_0_2_1 : ∀ j : Int, 0 ≤ j → (j = x12 → all_0 j = x13) ∧ (j ≠ x12 → all_0 j = all_1 j)) (hE_0_3_1 : ∀ j : Int, now_0 j = now_1 j) (hE_0_4_1 : ∀ j : Int, latest_0 j = latest_1 j) : RWN (r_0) (all_0) (now_0) (latest_0) (x6) := by
  subst fe_0_5_1
  have e_hE_0_3_1 := funext hE_0_3_1; subst e_hE_0_3_1
  have e_hE_0_4_1 := funext hE_0_4_1; subst e_hE_0_4_1
  first
    | exact rwn_off ‹RWN _ _ _ _ _› (by assumption) (by omega)
def o_Mo_newNode_15 : or_T := (187, 15, [(0, (2, 0, 0, [165])), (6, (0, 0, 23, [])), (8, (0, 3, 66484, [])), (9, (0, 0, 7, [])), (11, (2, 0, 0, [167])), (12, (0, 3, 66491, [])), (13, (0, 0, 0, [])), (14, (0, 1, 8, []))], [(20, [8, 6], [50, 0, 0, 1, 6, 9, 2, 1, 0, 0, 539, 4, 2, 0, 3, 6, 2, 0, 8, 1, 1]), (20, [8, 3, 6], [50, 1, 0, 1005, 1, 2, 1, 0, 4, 7, 4, 3, 2, 1, 5, 0, 3, 6, 2, 0, 8, 1, 2]), (24, [0, 3], []), (100, [11, 12, 13], []), (1, [12, 8, 9], []), (9, [11, 3], [2]), (20, [3, 6], [60, 1, 3, 200, 5, 2, 3, 4])], [], [], [(20, [3, 6], [60, 1, 3, 200, 5, 2, 3, 4])], [], [(14, 9, 1, 1), (12, 9, 3, 66484), (12, 8, 0, 7)])
theorem oo_Mo_newNode_15 {kA : Nat → ClassId} : or_ok PRD kA GG o_Mo_newNode_15 := by
  refine or_mk fun A ta ws vs hD hth hl => ?_
  intro t0 r0 t6 k6 t8 k8 t9 k9 t11 r11 t12 k12 t13 k13 t14 k14 d0 d1 d2 f1 f2 f3 ta1 w1 le1 s1 f5 f6 f8
  replace f1 := shm_1804 f1
  replace f2 := shm_1805 f2
  replace f3 := shm_5 f3
  have s1 : (∀ b j, w_el ws b j = if b = v_ad (n_v vs 11) ∧ j = (v_iv (n_v vs 12)).toNat then v_iv (n_v vs 13) else w_el w1 b j) ∧ ∀ b k, w_fd ws b k = w_fd w1 b k := s1.2
  replace f5 := shm_12 f5
  replace f6 := shm_120 f6
  replace f8 := shm_1803 f8
  have q3 : n_v vs 3 = n_v vs 0 := f3.symm
  simp only [q3] at f2 f6 f8
  have ar_0_2_1 : w_ar w1 (n_v vs 0) 2 = w_ar ws (n_v vs 0) 2 := congrArg v_ad (s1.2 _ _).symm
  have ar_0_3_1 : w_ar w1 (n_v vs 0) 3 = w_ar ws (n_v vs 0) 3 := congrArg v_ad (s1.2 _ _).symm
  have cr_0_3 := fdq_142 hD hth r0
  have ar_0_4_1 : w_ar w1 (n_v vs 0) 4 = w_ar ws (n_v vs 0) 4 := congrArg v_ad (s1.2 _ _).symm
  have cr_0_4 := fdq_143 hD hth r0
  have ad_11 : v_ad (n_v vs 11) = w_ar ws (n_v vs 0) 2 := (congrArg v_ad f6).trans ar_0_2_1
  simp only [ar_0_2_1, ar_0_3_1, ar_0_4_1] at f8
  have fe_0_5_1 : w_fi ws (n_v vs 0) 5 = w_fi w1 (n_v vs 0) 5 := congrArg v_iv (s1.2 _ _)
  have hE_0_2_1 : ∀ j : Int, 0 ≤ j → (j = v_iv (n_v vs 12) → w_ei ws (w_ar ws (n_v vs 0) 2) j = v_iv (n_v vs 13)) ∧ (j ≠ v_iv (n_v vs 12) → w_ei ws (w_ar ws (n_v vs 0) 2) j = w_ei w1 (w_ar ws (n_v vs 0) 2) j) := fun j hj => ⟨fun h => by unfold w_ei; rw [s1.1, if_pos ⟨ad_11.symm, by rw [h]⟩], fun h => by unfold w_ei; rw [s1.1, if_neg (fun e => h (by have := e.2; omega))]⟩
  have hE_0_3_1 : ∀ j : Int, w_ei ws (w_ar ws (n_v vs 0) 3) j = w_ei w1 (w_ar ws (n_v vs 0) 3) j := el_kp s1.1 r11 cr_0_3 (by decide)
  have hE_0_4_1 : ∀ j : Int, w_ei ws (w_ar ws (n_v vs 0) 4) j = w_ei w1 (w_ar ws (n_v vs 0) 4) j := el_kp s1.1 r11 cr_0_4 (by decide)
  have nf0 : fc_1 PRD (20, [3, 6], [60, 1, 3, 200, 5, 2, 3, 4]) ws (vs) := by
    refine ⟨nf_in hl rfl, sgq_1803 ?_⟩
    · show RWN (w_fi ws (n_v vs 3) 5) (w_ei ws (w_ar ws (n_v vs 3) 2)) (w_ei ws (w_ar ws (n_v vs 3) 3)) (w_ei ws (w_ar ws (n_v vs 3) 4)) (v_iv (n_v vs 6))
      rw [q3]
      exact vc_Mo_newNode_15_0 (v_iv (n_v vs 6)) (v_iv (n_v vs 8)) (v_iv (n_v vs 9)) (v_iv (n_v vs 12)) (v_iv (n_v vs 13)) (v_iv (n_v vs 14)) (w_fi ws (n_v vs 0) 5) (w_ei w1 (w_ar ws (n_v vs 0) 2)) (w_ei w1 (w_ar ws (n_v vs 0) 3)) (w_ei w1 (w_ar ws (n_v vs 0) 4)) (w_fi w1 (n_v vs 0) 5) (w_ei ws (w_ar ws (n_v vs 0) 2)) (w_ei ws (w_ar ws (n_v vs 0) 3)) (w_ei ws (w_ar ws (n_v vs 0) 4)) k6 k8 k9 k12 k13 k14 d0 d2 f1 f2 f5 f8 fe_0_5_1 hE_0_2_1 hE_0_3_1 hE_0_4_1
  refine ⟨(fun _ h => (by cases h)), [], trivial, ?_, (fun _ h => (by cases h))⟩
  rw [List.append_nil]
  exact List.forall_mem_cons.mpr ⟨⟨show (20 : Nat) < 100 from by decide, nf0⟩, (fun _ h => (by cases h))⟩
def n_Mo_newNode_an : List an_T := [(43, [(0, (2, 0, 0, [165])), (1, (0, 0, 3, [])), (2, (0, 0, 7, [])), (3, (0, 0, 23, [])), (4, (0, 1, 2, [])), (5, (0, 0, 23, []))], [], (0, 0), [(0, 0, 99957), (1, 8, 23), (0, 0, 100000)], [(1, 2, (Int.negSucc 999999999999), 3), (1, 4, (Int.negSucc 999999999999), 0), (2, 1, (Int.negSucc 999999999999), 7), (2, 4, (Int.negSucc 999999999999), 7), (2, 5, (Int.negSucc 999999999999), 0), (2, 6, (Int.negSucc 999999999999), 7), (2, 7, (Int.negSucc 999999999999), 6), (2, 8, (Int.negSucc 999999999999), 7), (4, 1, (Int.negSucc 999999999999), 0), (4, 2, (Int.negSucc 999999999999), 3), (5, 2, (Int.negSucc 999999999999), 0), (6, 2, (Int.negSucc 999999999999), 23), (6, 7, (Int.negSucc 999999999999), 21), (7, 2, (Int.negSucc 999999999999), 2), (7, 6, (Int.negSucc 999999999999), 1), (8, 6, (Int.negSucc 999999999999), 0)], [], [(2, 0, 0, [165]), (0, 0, 3, []), (0, (Int.negSucc 2147483647), 2147483647, [])], 0, [], [(20, [3], [60, 1, 3, 199, 5, 2, 3, 4]), (20, [3, 4], [50, 1, 1, 5, 3, 1, 3, 2, 0, 5, 4, 6, 6, 2, 0, 16709, 1, 1, 6, 2, 0, 539, 3, 0, 3, 1, 1]), (20, [6, 3], [30, 0, 1, 0, 0, (Int.negSucc 0), 3, 2005000]), (20, [6, 3], [30, 0, (Int.negSucc 0), 0, 0, 1, 3, 2005000]), (24, [0, 3], [])]), (187, [(0, (2, 0, 0, [165])), (1, (0, 0, 3, [])), (2, (0, 0, 7, [])), (3, (0, 0, 23, [])), (4, (0, 1, 2, [])), (5, (0, 3, 66484, [])), (6, (0, 0, 8, []))], [], (0, 0), [(0, 0, 99813), (1, 9, 8), (0, 0, 100000)], [(1, 2, (Int.negSucc 999999999999), 3), (1, 4, (Int.negSucc 999999999999), 0), (2, 1, (Int.negSucc 999999999999), 7), (2, 4, (Int.negSucc 999999999999), 7), (2, 5, (Int.negSucc 999999999999), 0), (2, 6, (Int.negSucc 999999999999), 7), (2, 7, (Int.negSucc 999999999999), 6), (2, 8, (Int.negSucc 999999999999), 4), (2, 9, (Int.negSucc 999999999999), 7), (4, 1, (Int.negSucc 999999999999), 0), (4, 2, (Int.negSucc 999999999999), 3), (5, 2, (Int.negSucc 999999999999), 0), (7, 2, (Int.negSucc 999999999999), 2), (7, 6, (Int.negSucc 999999999999), 1)], [], [(2, 0, 0, [165]), (0, 0, 3, []), (0, (Int.negSucc 2147483647), 2147483647, [])], 0, [], [(20, [3, 6], [60, 1, 3, 200, 5, 2, 3, 4]), (20, [8, 6], [50, 0, 0, 1, 6, 9, 2, 1, 0, 0, 539, 4, 2, 0, 3, 6, 2, 0, 8, 1, 1]), (20, [8, 3, 6], [50, 1, 0, 1005, 1, 2, 1, 0, 4, 7, 4, 3, 2, 1, 5, 0, 3, 6, 2, 0, 8, 1, 2]), (24, [0, 3], [])])]
def t_Mo_newNode_ct : ct_L := [(0, 387, e_Mo_in), (1, 475, e_Mo_nodes), (1, 478, e_Mo_longOf), (1, 509, e_Mo_groups), (469, 533, e_Mo_step_at_gn)]
set_option maxRecDepth 100000 in
theorem c_Mo_newNode {l : Launch} {D : va_G} {kA : Nat → ClassId} (h_Mo_groups : ct_ok PRD l D kA GG y_Mo_groups z_Mo_groups e_Mo_groups) (h_Mo_in : ct_ok PRD l D kA GG y_Mo_in z_Mo_in e_Mo_in) (h_Mo_longOf : ct_ok PRD l D kA GG y_Mo_longOf z_Mo_longOf e_Mo_longOf) (h_Mo_nodes : ct_ok PRD l D kA GG y_Mo_nodes z_Mo_nodes e_Mo_nodes) (h_Mo_step_at_gn : ct_ok PRD l D kA GG y_Mo_step_at_gn z_Mo_step_at_gn e_Mo_step_at_gn) : ct_ok PRD l D kA GG y_Mo_newNode z_Mo_newNode e_Mo_newNode := chk_all_ok (FT := [(16, 13, 2), (391, 13, 5)]) (PT := []) (CT := t_Mo_newNode_ct) (KT := []) (NT := []) (AN := n_Mo_newNode_an) (OT := [o_Mo_newNode_0, o_Mo_newNode_1, o_Mo_newNode_2, o_Mo_newNode_3, o_Mo_newNode_4, o_Mo_newNode_5, o_Mo_newNode_6, o_Mo_newNode_7, o_Mo_newNode_8, o_Mo_newNode_9, o_Mo_newNode_10, o_Mo_newNode_11, o_Mo_newNode_12, o_Mo_newNode_13, o_Mo_newNode_14, o_Mo_newNode_15]) 3 1072 (List.forall_mem_cons.mpr ⟨oo_Mo_newNode_0, List.forall_mem_cons.mpr ⟨oo_Mo_newNode_1, List.forall_mem_cons.mpr ⟨oo_Mo_newNode_2, List.forall_mem_cons.mpr ⟨oo_Mo_newNode_3, List.forall_mem_cons.mpr ⟨oo_Mo_newNode_4, List.forall_mem_cons.mpr ⟨oo_Mo_newNode_5, List.forall_mem_cons.mpr ⟨oo_Mo_newNode_6, List.forall_mem_cons.mpr ⟨oo_Mo_newNode_7, List.forall_mem_cons.mpr ⟨oo_Mo_newNode_8, List.forall_mem_cons.mpr ⟨oo_Mo_newNode_9, List.forall_mem_cons.mpr ⟨oo_Mo_newNode_10, List.forall_mem_cons.mpr ⟨oo_Mo_newNode_11, List.forall_mem_cons.mpr ⟨oo_Mo_newNode_12, List.forall_mem_cons.mpr ⟨oo_Mo_newNode_13, List.forall_mem_cons.mpr ⟨oo_Mo_newNode_14, List.forall_mem_cons.mpr ⟨oo_Mo_newNode_15, List.forall_mem_nil _⟩⟩⟩⟩⟩⟩⟩⟩⟩⟩⟩⟩⟩⟩⟩⟩) (by decide +kernel) ⟨List.forall_mem_cons.mpr ⟨gf_Mo_16, List.forall_mem_cons.mpr ⟨gf_Mo_391, List.forall_mem_nil _⟩⟩, List.forall_mem_nil _, List.forall_mem_cons.mpr ⟨cl_static (y := y_Mo_in) h_Mo_in wm_2971 wm_9 wm_2969 wm_2970 ⟨by decide, by decide, by decide +kernel⟩ (by decide), List.forall_mem_cons.mpr ⟨cl_virtual (y := y_Mo_nodes) (ci := 13) rfl rfl ⟨_, _, rfl⟩ (by decide +kernel) h_Mo_nodes wm_3025 wm_9 wm_3022 wm_3024 wv_13_3 ⟨by decide, by decide, by decide +kernel⟩ (by decide), List.forall_mem_cons.mpr ⟨cl_virtual (y := y_Mo_longOf) (ci := 13) rfl rfl ⟨_, _, rfl⟩ (by decide +kernel) h_Mo_longOf wm_3029 wm_9 wm_3026 wm_3028 wv_13_4 ⟨by decide, by decide, by decide +kernel⟩ (by decide), List.forall_mem_cons.mpr ⟨cl_virtual (y := y_Mo_groups) (ci := 13) rfl rfl ⟨_, _, rfl⟩ (by decide +kernel) h_Mo_groups wm_3070 wm_9 wm_3067 wm_3069 wv_13_14 ⟨by decide, by decide, by decide +kernel⟩ (by decide), List.forall_mem_cons.mpr ⟨cl_virtual (y := y_Mo_step_at_gn) (ci := 13) rfl rfl ⟨_, _, rfl⟩ (by decide +kernel) h_Mo_step_at_gn wm_3099 wm_9 wm_3096 wm_3098 wv_14_4 ⟨by decide, by decide, by decide +kernel⟩ (by decide), List.forall_mem_nil _⟩⟩⟩⟩⟩, List.forall_mem_nil _, List.forall_mem_nil _, GG_pl⟩ (by decide +kernel)
set_option maxHeartbeats 4000000 in
theorem vc_Gr_perform_at_kx_0_r0 (x1 : Int) (x2 : Int) (x3 : Int) (nodes_0 : Int) (edges_0 : Int) (groups_0 : Int) (k1 : (-2147483648) ≤ x1 ∧ x1 ≤ 2147483647) (k2 : (-2147483648) ≤ x2 ∧ x2 ≤ 2147483647) (k3 : (-2147483648) ≤ x3 ∧ x3 ≤ 2147483647) (f4 : ((x1 = 0) ∧ ((0 ≤ x2) ∧ (((x2 + 1) ≤ groups_0) ∧ (nodes_0 ≤ 23)))) ∨ (((x1 = 1) ∧ ((0 ≤ x2) ∧ (((x2 + 1) ≤ nodes_0) ∧ ((0 ≤ x3) ∧ (((x3 + 1) ≤ nodes_0) ∧ ((edges_0 ≤ 47) ∧ (((x2 + 1) ≤ x3) ∨ ((x3 + 1) ≤ x2)))))))) ∨ (((x1 = 2) ∧ ((0 ≤ x2) ∧ ((x2 + 1) ≤ edges_0))) ∨ (((x1 = 3) ∧ ((0 ≤ x2) ∧ ((x2 + 1) ≤ nodes_0))) ∨ (((x1 = 4) ∧ ((0 ≤ x2) ∧ (((x2 + 1) ≤ nodes_0) ∧ ((1 ≤ x3) ∧ (x3 ≤ 99))))) ∨ (((x1 = 5) ∧ ((0 ≤ x2) ∧ (((x2 + 1) ≤ edges_0) ∧ ((1 ≤ x3) ∧ (x3 ≤ 9))))) ∨ (((x1 = 6) ∧ ((0 ≤ x2) ∧ (((x2 + 1) ≤ nodes_0) ∧ ((0 ≤ x3) ∧ ((x3 + 1) ≤ groups_0))))) ∨ ((x1 = 7) ∧ ((0 ≤ x2) ∧ (((x2 + 1) ≤ edges_0) ∧ ((0 ≤ x3) ∧ (x3 ≤ 1)))))))))))) (kz_0_0 : 0 ≤ nodes_0 ∧ nodes_0 ≤ 24) (kz_0_1 : 0 ≤ edges_0 ∧ edges_0 ≤ 48) (kz_0_2 : 0 ≤ groups_0 ∧ groups_0 ≤ 8) : 0 ≤ x1 ∧ x1 ≤ 7 := by
  first
    | omega
  
def o_Gr_perform_at_kx_0 : or_T := (1, 8, [(0, (2, 0, 0, [3])), (1, (0, -2147483648, 2147483647, [])), (2, (0, -2147483648, 2147483647, [])), (3, (0, -2147483648, 2147483647, [])), (4, (0, 0, 24, [])), (5, (0, 0, 48, [])), (6, (2, 0, 0, [52])), (7, (2, 0, 0, [53]))], [(9, [4, 0], [0]), (9, [5, 0], [1]), (9, [6, 0], [7]), (9, [7, 0], [8]), (20, [1, 2, 0, 3], [50, 3, 0, 2002, 2000, 2001, 3, 36, 2, 6, 1, 2, 1, 0, 0, 0, 2, 6, 0, 2, 0, 0, 1, 1, 2, 11, 0, 6, 4, 2, 1, 1, 0, 1, 2, 2, 2, 0, 3, 2, 2, 0, 0, 23, 3, 81, 2, 6, 1, 2, 1, 0, 0, 1, 2, 6, 0, 2, 0, 0, 1, 1, 2, 11, 0, 6, 4, 2, 1, 1, 0, 1, 2, 2, 0, 2, 6, 0, 2, 0, 0, 1, 3, 2, 11, 0, 6, 4, 2, 1, 3, 0, 1, 2, 2, 0, 2, 7, 0, 3, 2, 2, 1, 0, 47, 3, 10, 0, 6, 4, 2, 1, 1, 0, 1, 1, 3, 0, 6, 4, 2, 1, 3, 0, 1, 1, 1, 3, 27, 2, 6, 1, 2, 1, 0, 0, 2, 2, 6, 0, 2, 0, 0, 1, 1, 0, 6, 4, 2, 1, 1, 0, 1, 2, 2, 1, 3, 27, 2, 6, 1, 2, 1, 0, 0, 3, 2, 6, 0, 2, 0, 0, 1, 1, 0, 6, 4, 2, 1, 1, 0, 1, 2, 2, 0, 3, 43, 2, 6, 1, 2, 1, 0, 0, 4, 2, 6, 0, 2, 0, 0, 1, 1, 2, 11, 0, 6, 4, 2, 1, 1, 0, 1, 2, 2, 0, 2, 6, 0, 2, 0, 1, 1, 3, 0, 2, 1, 3, 0, 99, 3, 43, 2, 6, 1, 2, 1, 0, 0, 5, 2, 6, 0, 2, 0, 0, 1, 1, 2, 11, 0, 6, 4, 2, 1, 1, 0, 1, 2, 2, 1, 2, 6, 0, 2, 0, 1, 1, 3, 0, 2, 1, 3, 0, 9, 3, 48, 2, 6, 1, 2, 1, 0, 0, 6, 2, 6, 0, 2, 0, 0, 1, 1, 2, 11, 0, 6, 4, 2, 1, 1, 0, 1, 2, 2, 0, 2, 6, 0, 2, 0, 0, 1, 3, 0, 6, 4, 2, 1, 3, 0, 1, 2, 2, 2, 2, 6, 1, 2, 1, 0, 0, 7, 2, 6, 0, 2, 0, 0, 1, 1, 2, 11, 0, 6, 4, 2, 1, 1, 0, 1, 2, 2, 1, 2, 6, 0, 2, 0, 0, 1, 3, 0, 2, 1, 3, 0, 1]), (20, [0], [60, 2, 3, 670, 0, 1, 14, 7, 8]), (20, [0], [60, 2, 2, 596, 0, 1, 7, 8])], [(1, (0, 0, 7, []))], [], [], [], [])
theorem oo_Gr_perform_at_kx_0 {kA : Nat → ClassId} : or_ok PRD kA GG o_Gr_perform_at_kx_0 := by
  refine or_mk fun A ta ws vs hD hth hl => ?_
  intro t0 r0 t1 k1 t2 k2 t3 k3 t4 k4 t5 k5 t6 r6 t7 r7 f0 f1 f2 f3 f4 f5 f6
  have kz_0_0 := fdq_21 hD hth r0
  have kz_0_1 := fdq_30 hD hth r0
  have kz_0_2 := fdq_20 hD hth r0
  have hrf0 : 0 ≤ v_iv (n_v vs 1) ∧ v_iv (n_v vs 1) ≤ 7 := vc_Gr_perform_at_kx_0_r0 (v_iv (n_v vs 1)) (v_iv (n_v vs 2)) (v_iv (n_v vs 3)) (w_fi ws (n_v vs 0) 0) (w_fi ws (n_v vs 0) 1) (w_fi ws (n_v vs 0) 2) k1 k2 k3 (shm_1808 f4) kz_0_0 kz_0_1 kz_0_2
  have rf1 : tv_ok ta (0, 0, 7, []) (n_v vs 1) := tv_in t1 (by first | omega | grind) (by first | omega | grind)
  refine ⟨List.forall_mem_cons.mpr ⟨rf1, (fun _ h => (by cases h))⟩, [], trivial, ?_, (fun _ h => (by cases h))⟩
  rw [List.append_nil]
  exact (fun _ h => (by cases h))
set_option maxHeartbeats 4000000 in
theorem vc_Gr_perform_at_kx_1_r0 (x1 : Int) (x2 : Int) (x3 : Int) (x5 : Int) (nodes_0 : Int) (edges_0 : Int) (groups_0 : Int) (k1 : 7 ≤ x1 ∧ x1 ≤ 7) (k2 : (-2147483648) ≤ x2 ∧ x2 ≤ 2147483647) (k3 : (-2147483648) ≤ x3 ∧ x3 ≤ 2147483647) (k5 : 0 ≤ x5 ∧ x5 ≤ 48) (g1 : x5 = edges_0) (f4 : ((x1 = 0) ∧ ((0 ≤ x2) ∧ (((x2 + 1) ≤ groups_0) ∧ (nodes_0 ≤ 23)))) ∨ (((x1 = 1) ∧ ((0 ≤ x2) ∧ (((x2 + 1) ≤ nodes_0) ∧ ((0 ≤ x3) ∧ (((x3 + 1) ≤ nodes_0) ∧ ((edges_0 ≤ 47) ∧ (((x2 + 1) ≤ x3) ∨ ((x3 + 1) ≤ x2)))))))) ∨ (((x1 = 2) ∧ ((0 ≤ x2) ∧ ((x2 + 1) ≤ edges_0))) ∨ (((x1 = 3) ∧ ((0 ≤ x2) ∧ ((x2 + 1) ≤ nodes_0))) ∨ (((x1 = 4) ∧ ((0 ≤ x2) ∧ (((x2 + 1) ≤ nodes_0) ∧ ((1 ≤ x3) ∧ (x3 ≤ 99))))) ∨ (((x1 = 5) ∧ ((0 ≤ x2) ∧ (((x2 + 1) ≤ edges_0) ∧ ((1 ≤ x3) ∧ (x3 ≤ 9))))) ∨ (((x1 = 6) ∧ ((0 ≤ x2) ∧ (((x2 + 1) ≤ nodes_0) ∧ ((0 ≤ x3) ∧ ((x3 + 1) ≤ groups_0))))) ∨ ((x1 = 7) ∧ ((0 ≤ x2) ∧ (((x2 + 1) ≤ edges_0) ∧ ((0 ≤ x3) ∧ (x3 ≤ 1)))))))))))) (kz_0_0 : 0 ≤ nodes_0 ∧ nodes_0 ≤ 24) (kz_0_1 : 0 ≤ edges_0 ∧ edges_0 ≤ 48) (kz_0_2 : 0 ≤ groups_0 ∧ groups_0 ≤ 8) : 0 ≤ x2 ∧ x2 ≤ 47 := by
  first
    | omega
  
set_option maxHeartbeats 4000000 in
theorem vc_Gr_perform_at_kx_1_r1 (x1 : Int) (x2 : Int) (x3 : Int) (nodes_0 : Int) (edges_0 : Int) (groups_0 : Int) (k1 : 7 ≤ x1 ∧ x1 ≤ 7) (k2 : (-2147483648) ≤ x2 ∧ x2 ≤ 2147483647) (k3 : (-2147483648) ≤ x3 ∧ x3 ≤ 2147483647) (f4 : ((x1 = 0) ∧ ((0 ≤ x2) ∧ (((x2 + 1) ≤ groups_0) ∧ (nodes_0 ≤ 23)))) ∨ (((x1 = 1) ∧ ((0 ≤ x2) ∧ (((x2 + 1) ≤ nodes_0) ∧ ((0 ≤ x3) ∧ (((x3 + 1) ≤ nodes_0) ∧ ((edges_0 ≤ 47) ∧ (((x2 + 1) ≤ x3) ∨ ((x3 + 1) ≤ x2)))))))) ∨ (((x1 = 2) ∧ ((0 ≤ x2) ∧ ((x2 + 1) ≤ edges_0))) ∨ (((x1 = 3) ∧ ((0 ≤ x2) ∧ ((x2 + 1) ≤ nodes_0))) ∨ (((x1 = 4) ∧ ((0 ≤ x2) ∧ (((x2 + 1) ≤ nodes_0) ∧ ((1 ≤ x3) ∧ (x3 ≤ 99))))) ∨ (((x1 = 5) ∧ ((0 ≤ x2) ∧ (((x2 + 1) ≤ edges_0) ∧ ((1 ≤ x3) ∧ (x3 ≤ 9))))) ∨ (((x1 = 6) ∧ ((0 ≤ x2) ∧ (((x2 + 1) ≤ nodes_0) ∧ ((0 ≤ x3) ∧ ((x3 + 1) ≤ groups_0))))) ∨ ((x1 = 7) ∧ ((0 ≤ x2) ∧ (((x2 + 1) ≤ edges_0) ∧ ((0 ≤ x3) ∧ (x3 ≤ 1)))))))))))) (kz_0_0 : 0 ≤ nodes_0 ∧ nodes_0 ≤ 24) (kz_0_1 : 0 ≤ edges_0 ∧ edges_0 ≤ 48) (kz_0_2 : 0 ≤ groups_0 ∧ groups_0 ≤ 8) : 0 ≤ x3 ∧ x3 ≤ 1 := by
  first
    | omega
  
def o_Gr_perform_at_kx_1 : or_T := (132, 9, [(0, (2, 0, 0, [3])), (1, (0, 7, 7, [])), (2, (0, -2147483648, 2147483647, [])), (3, (0, -2147483648, 2147483647, [])), (4, (0, 0, 24, [])), (5, (0, 0, 48, [])), (6, (2, 0, 0, [52])), (7, (2, 0, 0, [53]))], [(9, [4, 0], [0]), (9, [5, 0], [1]), (9, [6, 0], [7]), (9, [7, 0], [8]), (20, [1, 2, 0, 3], [50, 3, 0, 2002, 2000, 2001, 3, 36, 2, 6, 1, 2, 1, 0, 0, 0, 2, 6, 0, 2, 0, 0, 1, 1, 2, 11, 0, 6, 4, 2, 1, 1, 0, 1, 2, 2, 2, 0, 3, 2, 2, 0, 0, 23, 3, 81, 2, 6, 1, 2, 1, 0, 0, 1, 2, 6, 0, 2, 0, 0, 1, 1, 2, 11, 0, 6, 4, 2, 1, 1, 0, 1, 2, 2, 0, 2, 6, 0, 2, 0, 0, 1, 3, 2, 11, 0, 6, 4, 2, 1, 3, 0, 1, 2, 2, 0, 2, 7, 0, 3, 2, 2, 1, 0, 47, 3, 10, 0, 6, 4, 2, 1, 1, 0, 1, 1, 3, 0, 6, 4, 2, 1, 3, 0, 1, 1, 1, 3, 27, 2, 6, 1, 2, 1, 0, 0, 2, 2, 6, 0, 2, 0, 0, 1, 1, 0, 6, 4, 2, 1, 1, 0, 1, 2, 2, 1, 3, 27, 2, 6, 1, 2, 1, 0, 0, 3, 2, 6, 0, 2, 0, 0, 1, 1, 0, 6, 4, 2, 1, 1, 0, 1, 2, 2, 0, 3, 43, 2, 6, 1, 2, 1, 0, 0, 4, 2, 6, 0, 2, 0, 0, 1, 1, 2, 11, 0, 6, 4, 2, 1, 1, 0, 1, 2, 2, 0, 2, 6, 0, 2, 0, 1, 1, 3, 0, 2, 1, 3, 0, 99, 3, 43, 2, 6, 1, 2, 1, 0, 0, 5, 2, 6, 0, 2, 0, 0, 1, 1, 2, 11, 0, 6, 4, 2, 1, 1, 0, 1, 2, 2, 1, 2, 6, 0, 2, 0, 1, 1, 3, 0, 2, 1, 3, 0, 9, 3, 48, 2, 6, 1, 2, 1, 0, 0, 6, 2, 6, 0, 2, 0, 0, 1, 1, 2, 11, 0, 6, 4, 2, 1, 1, 0, 1, 2, 2, 0, 2, 6, 0, 2, 0, 0, 1, 3, 0, 6, 4, 2, 1, 3, 0, 1, 2, 2, 2, 2, 6, 1, 2, 1, 0, 0, 7, 2, 6, 0, 2, 0, 0, 1, 1, 2, 11, 0, 6, 4, 2, 1, 1, 0, 1, 2, 2, 1, 2, 6, 0, 2, 0, 0, 1, 3, 0, 2, 1, 3, 0, 1]), (20, [0], [60, 2, 3, 670, 0, 1, 14, 7, 8]), (20, [0], [60, 2, 2, 596, 0, 1, 7, 8])], [(2, (0, 0, 47, [])), (3, (0, 0, 1, []))], [], [], [], [])
theorem oo_Gr_perform_at_kx_1 {kA : Nat → ClassId} : or_ok PRD kA GG o_Gr_perform_at_kx_1 := by
  refine or_mk fun A ta ws vs hD hth hl => ?_
  intro t0 r0 t1 k1 t2 k2 t3 k3 t4 k4 t5 k5 t6 r6 t7 r7 f0 f1 f2 f3 f4 f5 f6
  replace f1 := shm_215 f1
  have g1 : v_iv (n_v vs 5) = w_fi ws (n_v vs 0) 1 := congrArg v_iv f1
  have kz_0_0 := fdq_21 hD hth r0
  have kz_0_1 := fdq_30 hD hth r0
  have kz_0_2 := fdq_20 hD hth r0
  have hrf0 : 0 ≤ v_iv (n_v vs 2) ∧ v_iv (n_v vs 2) ≤ 47 := vc_Gr_perform_at_kx_1_r0 (v_iv (n_v vs 1)) (v_iv (n_v vs 2)) (v_iv (n_v vs 3)) (v_iv (n_v vs 5)) (w_fi ws (n_v vs 0) 0) (w_fi ws (n_v vs 0) 1) (w_fi ws (n_v vs 0) 2) k1 k2 k3 k5 g1 (shm_1808 f4) kz_0_0 kz_0_1 kz_0_2
  have hrf1 : 0 ≤ v_iv (n_v vs 3) ∧ v_iv (n_v vs 3) ≤ 1 := vc_Gr_perform_at_kx_1_r1 (v_iv (n_v vs 1)) (v_iv (n_v vs 2)) (v_iv (n_v vs 3)) (w_fi ws (n_v vs 0) 0) (w_fi ws (n_v vs 0) 1) (w_fi ws (n_v vs 0) 2) k1 k2 k3 (shm_1808 f4) kz_0_0 kz_0_1 kz_0_2
  have rf2 : tv_ok ta (0, 0, 47, []) (n_v vs 2) := tv_in t2 (by first | omega | grind) (by first | omega | grind)
  have rf3 : tv_ok ta (0, 0, 1, []) (n_v vs 3) := tv_in t3 (by first | omega | grind) (by first | omega | grind)
  refine ⟨List.forall_mem_cons.mpr ⟨rf2, List.forall_mem_cons.mpr ⟨rf3, (fun _ h => (by cases h))⟩⟩, [], trivial, ?_, (fun _ h => (by cases h))⟩
  rw [List.append_nil]
  exact (fun _ h => (by cases h))
set_option maxHeartbeats 4000000 in
theorem vc_Gr_perform_at_kx_2_r0 (x1 : Int) (x2 : Int) (x3 : Int) (x4 : Int) (nodes_0 : Int) (edges_0 : Int) (groups_0 : Int) (k1 : 0 ≤ x1 ∧ x1 ≤ 0) (k2 : (-2147483648) ≤ x2 ∧ x2 ≤ 2147483647) (k3 : (-2147483648) ≤ x3 ∧ x3 ≤ 2147483647) (k4 : 0 ≤ x4 ∧ x4 ≤ 24) (g0 : x4 = nodes_0) (f4 : ((x1 = 0) ∧ ((0 ≤ x2) ∧ (((x2 + 1) ≤ groups_0) ∧ (nodes_0 ≤ 23)))) ∨ (((x1 = 1) ∧ ((0 ≤ x2) ∧ (((x2 + 1) ≤ nodes_0) ∧ ((0 ≤ x3) ∧ (((x3 + 1) ≤ nodes_0) ∧ ((edges_0 ≤ 47) ∧ (((x2 + 1) ≤ x3) ∨ ((x3 + 1) ≤ x2)))))))) ∨ (((x1 = 2) ∧ ((0 ≤ x2) ∧ ((x2 + 1) ≤ edges_0))) ∨ (((x1 = 3) ∧ ((0 ≤ x2) ∧ ((x2 + 1) ≤ nodes_0))) ∨ (((x1 = 4) ∧ ((0 ≤ x2) ∧ (((x2 + 1) ≤ nodes_0) ∧ ((1 ≤ x3) ∧ (x3 ≤ 99))))) ∨ (((x1 = 5) ∧ ((0 ≤ x2) ∧ (((x2 + 1) ≤ edges_0) ∧ ((1 ≤ x3) ∧ (x3 ≤ 9))))) ∨ (((x1 = 6) ∧ ((0 ≤ x2) ∧ (((x2 + 1) ≤ nodes_0) ∧ ((0 ≤ x3) ∧ ((x3 + 1) ≤ groups_0))))) ∨ ((x1 = 7) ∧ ((0 ≤ x2) ∧ (((x2 + 1) ≤ edges_0) ∧ ((0 ≤ x3) ∧ (x3 ≤ 1)))))))))))) (kz_0_0 : 0 ≤ nodes_0 ∧ nodes_0 ≤ 24) (kz_0_1 : 0 ≤ edges_0 ∧ edges_0 ≤ 48) (kz_0_2 : 0 ≤ groups_0 ∧ groups_0 ≤ 8) : 0 ≤ x4 ∧ x4 ≤ 23 := by
  first
    | omega
  
def o_Gr_perform_at_kx_2 : or_T := (52, 10, [(0, (2, 0, 0, [3])), (1, (0, 0, 0, [])), (2, (0, -2147483648, 2147483647, [])), (3, (0, -2147483648, 2147483647, [])), (4, (0, 0, 24, [])), (5, (0, 0, 48, [])), (6, (2, 0, 0, [52])), (7, (2, 0, 0, [53]))], [(9, [4, 0], [0]), (9, [5, 0], [1]), (9, [6, 0], [7]), (9, [7, 0], [8]), (20, [1, 2, 0, 3], [50, 3, 0, 2002, 2000, 2001, 3, 36, 2, 6, 1, 2, 1, 0, 0, 0, 2, 6, 0, 2, 0, 0, 1, 1, 2, 11, 0, 6, 4, 2, 1, 1, 0, 1, 2, 2, 2, 0, 3, 2, 2, 0, 0, 23, 3, 81, 2, 6, 1, 2, 1, 0, 0, 1, 2, 6, 0, 2, 0, 0, 1, 1, 2, 11, 0, 6, 4, 2, 1, 1, 0, 1, 2, 2, 0, 2, 6, 0, 2, 0, 0, 1, 3, 2, 11, 0, 6, 4, 2, 1, 3, 0, 1, 2, 2, 0, 2, 7, 0, 3, 2, 2, 1, 0, 47, 3, 10, 0, 6, 4, 2, 1, 1, 0, 1, 1, 3, 0, 6, 4, 2, 1, 3, 0, 1, 1, 1, 3, 27, 2, 6, 1, 2, 1, 0, 0, 2, 2, 6, 0, 2, 0, 0, 1, 1, 0, 6, 4, 2, 1, 1, 0, 1, 2, 2, 1, 3, 27, 2, 6, 1, 2, 1, 0, 0, 3, 2, 6, 0, 2, 0, 0, 1, 1, 0, 6, 4, 2, 1, 1, 0, 1, 2, 2, 0, 3, 43, 2, 6, 1, 2, 1, 0, 0, 4, 2, 6, 0, 2, 0, 0, 1, 1, 2, 11, 0, 6, 4, 2, 1, 1, 0, 1, 2, 2, 0, 2, 6, 0, 2, 0, 1, 1, 3, 0, 2, 1, 3, 0, 99, 3, 43, 2, 6, 1, 2, 1, 0, 0, 5, 2, 6, 0, 2, 0, 0, 1, 1, 2, 11, 0, 6, 4, 2, 1, 1, 0, 1, 2, 2, 1, 2, 6, 0, 2, 0, 1, 1, 3, 0, 2, 1, 3, 0, 9, 3, 48, 2, 6, 1, 2, 1, 0, 0, 6, 2, 6, 0, 2, 0, 0, 1, 1, 2, 11, 0, 6, 4, 2, 1, 1, 0, 1, 2, 2, 0, 2, 6, 0, 2, 0, 0, 1, 3, 0, 6, 4, 2, 1, 3, 0, 1, 2, 2, 2, 2, 6, 1, 2, 1, 0, 0, 7, 2, 6, 0, 2, 0, 0, 1, 1, 2, 11, 0, 6, 4, 2, 1, 1, 0, 1, 2, 2, 1, 2, 6, 0, 2, 0, 0, 1, 3, 0, 2, 1, 3, 0, 1]), (20, [0], [60, 2, 3, 670, 0, 1, 14, 7, 8]), (20, [0], [60, 2, 2, 596, 0, 1, 7, 8])], [(4, (0, 0, 23, []))], [], [], [], [])
theorem oo_Gr_perform_at_kx_2 {kA : Nat → ClassId} : or_ok PRD kA GG o_Gr_perform_at_kx_2 := by
  refine or_mk fun A ta ws vs hD hth hl => ?_
  intro t0 r0 t1 k1 t2 k2 t3 k3 t4 k4 t5 k5 t6 r6 t7 r7 f0 f1 f2 f3 f4 f5 f6
  replace f0 := shm_163 f0
  have g0 : v_iv (n_v vs 4) = w_fi ws (n_v vs 0) 0 := congrArg v_iv f0
  have kz_0_0 := fdq_21 hD hth r0
  have kz_0_1 := fdq_30 hD hth r0
  have kz_0_2 := fdq_20 hD hth r0
  have hrf0 : 0 ≤ v_iv (n_v vs 4) ∧ v_iv (n_v vs 4) ≤ 23 := vc_Gr_perform_at_kx_2_r0 (v_iv (n_v vs 1)) (v_iv (n_v vs 2)) (v_iv (n_v vs 3)) (v_iv (n_v vs 4)) (w_fi ws (n_v vs 0) 0) (w_fi ws (n_v vs 0) 1) (w_fi ws (n_v vs 0) 2) k1 k2 k3 k4 g0 (shm_1808 f4) kz_0_0 kz_0_1 kz_0_2
  have rf4 : tv_ok ta (0, 0, 23, []) (n_v vs 4) := tv_in t4 (by first | omega | grind) (by first | omega | grind)
  refine ⟨List.forall_mem_cons.mpr ⟨rf4, (fun _ h => (by cases h))⟩, [], trivial, ?_, (fun _ h => (by cases h))⟩
  rw [List.append_nil]
  exact (fun _ h => (by cases h))
set_option maxHeartbeats 4000000 in
theorem vc_Gr_perform_at_kx_3_r0 (x1 : Int) (x2 : Int) (x3 : Int) (nodes_0 : Int) (edges_0 : Int) (groups_0 : Int) (k1 : 0 ≤ x1 ∧ x1 ≤ 0) (k2 : (-2147483648) ≤ x2 ∧ x2 ≤ 2147483647) (k3 : (-2147483648) ≤ x3 ∧ x3 ≤ 2147483647) (f4 : ((x1 = 0) ∧ ((0 ≤ x2) ∧ (((x2 + 1) ≤ groups_0) ∧ (nodes_0 ≤ 23)))) ∨ (((x1 = 1) ∧ ((0 ≤ x2) ∧ (((x2 + 1) ≤ nodes_0) ∧ ((0 ≤ x3) ∧ (((x3 + 1) ≤ nodes_0) ∧ ((edges_0 ≤ 47) ∧ (((x2 + 1) ≤ x3) ∨ ((x3 + 1) ≤ x2)))))))) ∨ (((x1 = 2) ∧ ((0 ≤ x2) ∧ ((x2 + 1) ≤ edges_0))) ∨ (((x1 = 3) ∧ ((0 ≤ x2) ∧ ((x2 + 1) ≤ nodes_0))) ∨ (((x1 = 4) ∧ ((0 ≤ x2) ∧ (((x2 + 1) ≤ nodes_0) ∧ ((1 ≤ x3) ∧ (x3 ≤ 99))))) ∨ (((x1 = 5) ∧ ((0 ≤ x2) ∧ (((x2 + 1) ≤ edges_0) ∧ ((1 ≤ x3) ∧ (x3 ≤ 9))))) ∨ (((x1 = 6) ∧ ((0 ≤ x2) ∧ (((x2 + 1) ≤ nodes_0) ∧ ((0 ≤ x3) ∧ ((x3 + 1) ≤ groups_0))))) ∨ ((x1 = 7) ∧ ((0 ≤ x2) ∧ (((x2 + 1) ≤ edges_0) ∧ ((0 ≤ x3) ∧ (x3 ≤ 1)))))))))))) (kz_0_0 : 0 ≤ nodes_0 ∧ nodes_0 ≤ 24) (kz_0_1 : 0 ≤ edges_0 ∧ edges_0 ≤ 48) (kz_0_2 : 0 ≤ groups_0 ∧ groups_0 ≤ 8) : 0 ≤ x2 ∧ x2 ≤ 7 := by
  first
    | omega
  
set_option maxHeartbeats 4000000 in
theorem vc_Gr_perform_at_kx_3_0 (x10 : Int) (x11 : Int) (k10 : 2 ≤ x10 ∧ x10 ≤ 3) (k11 : 0 ≤ x11 ∧ x11 ≤ 0) : x11 + x10 ≤ 3 := by
  first
    | omega
  
set_option maxHeartbeats 4000000 in
theorem vc_Gr_perform_at_kx_3_1 (nodes_0 : Int) (gx : Int) (kz_0_0 : 0 ≤ nodes_0 ∧ nodes_0 ≤ 24) (ex2 : gx = nodes_0) : nodes_0 = gx := by
  first
    | omega
  
set_option maxHeartbeats 4000000 in
theorem vc_Gr_perform_at_kx_3_2 (x4 : Int) (nodes_0 : Int) (gx : Int) (k4 : 0 ≤ x4 ∧ x4 ≤ 23) (g0 : x4 = nodes_0) (kz_0_0 : 0 ≤ nodes_0 ∧ nodes_0 ≤ 24) (ex2 : gx = nodes_0) : nodes_0 ≤ 23 := by
  first
    | omega
  
set_option maxHeartbeats 4000000 in
theorem vc_Gr_perform_at_kx_3_3 (nodes_0 : Int) (edges_0 : Int) (near_0 : Int → Int) (tail_0 : Int → Int) (head_0 : Int → Int) (f5 : GNB (nodes_0) (edges_0) (near_0) (tail_0) (head_0)) (kz_0_0 : 0 ≤ nodes_0 ∧ nodes_0 ≤ 24) (kz_0_1 : 0 ≤ edges_0 ∧ edges_0 ≤ 48) : GNB (nodes_0) (edges_0) (near_0) (tail_0) (head_0) := by
  first
    | assumption
  
set_option maxHeartbeats 4000000 in
theorem vc_Gr_perform_at_kx_3_4 (nodes_0 : Int) (edges_0 : Int) (tail_0 : Int → Int) (head_0 : Int → Int) (f6 : GKE (nodes_0) (edges_0) (tail_0) (head_0)) (kz_0_0 : 0 ≤ nodes_0 ∧ nodes_0 ≤ 24) (kz_0_1 : 0 ≤ edges_0 ∧ edges_0 ≤ 48) : GKE (nodes_0) (edges_0) (tail_0) (head_0) := by
  first
    | assumption
  
def o_Gr_perform_at_kx_3 : or_T := (64, 12, [(0, (2, 0, 0, [3])), (1, (0, 0, 0, [])), (2, (0, -2147483648, 2147483647, [])), (3, (0, -2147483648, 2147483647, [])), (4, (0, 0, 23, [])), (5, (0, 0, 48, [])), (6, (2, 0, 0, [52])), (7, (2, 0, 0, [53])), (10, (0, 2, 3, [])), (11, (0, 0, 0, []))], [(9, [4, 0], [0]), (9, [5, 0], [1]), (9, [6, 0], [7]), (9, [7, 0], [8]), (20, [1, 2, 0, 3], [50, 3, 0, 2002, 2000, 2001, 3, 36, 2, 6, 1, 2, 1, 0, 0, 0, 2, 6, 0, 2, 0, 0, 1, 1, 2, 11, 0, 6, 4, 2, 1, 1, 0, 1, 2, 2, 2, 0, 3, 2, 2, 0, 0, 23, 3, 81, 2, 6, 1, 2, 1, 0, 0, 1, 2, 6, 0, 2, 0, 0, 1, 1, 2, 11, 0, 6, 4, 2, 1, 1, 0, 1, 2, 2, 0, 2, 6, 0, 2, 0, 0, 1, 3, 2, 11, 0, 6, 4, 2, 1, 3, 0, 1, 2, 2, 0, 2, 7, 0, 3, 2, 2, 1, 0, 47, 3, 10, 0, 6, 4, 2, 1, 1, 0, 1, 1, 3, 0, 6, 4, 2, 1, 3, 0, 1, 1, 1, 3, 27, 2, 6, 1, 2, 1, 0, 0, 2, 2, 6, 0, 2, 0, 0, 1, 1, 0, 6, 4, 2, 1, 1, 0, 1, 2, 2, 1, 3, 27, 2, 6, 1, 2, 1, 0, 0, 3, 2, 6, 0, 2, 0, 0, 1, 1, 0, 6, 4, 2, 1, 1, 0, 1, 2, 2, 0, 3, 43, 2, 6, 1, 2, 1, 0, 0, 4, 2, 6, 0, 2, 0, 0, 1, 1, 2, 11, 0, 6, 4, 2, 1, 1, 0, 1, 2, 2, 0, 2, 6, 0, 2, 0, 1, 1, 3, 0, 2, 1, 3, 0, 99, 3, 43, 2, 6, 1, 2, 1, 0, 0, 5, 2, 6, 0, 2, 0, 0, 1, 1, 2, 11, 0, 6, 4, 2, 1, 1, 0, 1, 2, 2, 1, 2, 6, 0, 2, 0, 1, 1, 3, 0, 2, 1, 3, 0, 9, 3, 48, 2, 6, 1, 2, 1, 0, 0, 6, 2, 6, 0, 2, 0, 0, 1, 1, 2, 11, 0, 6, 4, 2, 1, 1, 0, 1, 2, 2, 0, 2, 6, 0, 2, 0, 0, 1, 3, 0, 6, 4, 2, 1, 3, 0, 1, 2, 2, 2, 2, 6, 1, 2, 1, 0, 0, 7, 2, 6, 0, 2, 0, 0, 1, 1, 2, 11, 0, 6, 4, 2, 1, 1, 0, 1, 2, 2, 1, 2, 6, 0, 2, 0, 0, 1, 3, 0, 2, 1, 3, 0, 1]), (20, [0], [60, 2, 3, 670, 0, 1, 14, 7, 8]), (20, [0], [60, 2, 2, 596, 0, 1, 7, 8])], [(2, (0, 0, 7, []))], [(0, 0, 24, [])], [(21, [11, 10], [3]), (20, [0, 12], [50, 1, 0, 0, 1, 3, 2, 0, 0, 1, 1]), (20, [0], [50, 1, 0, 0, 0, 3, 2, 0, 0, 0, 23]), (20, [0], [60, 2, 3, 670, 0, 1, 14, 7, 8]), (20, [0], [60, 2, 2, 596, 0, 1, 7, 8])], [], [])
theorem oo_Gr_perform_at_kx_3 {kA : Nat → ClassId} : or_ok PRD kA GG o_Gr_perform_at_kx_3 := by
  refine or_mk fun A ta ws vs hD hth hl => ?_
  intro t0 r0 t1 k1 t2 k2 t3 k3 t4 k4 t5 k5 t6 r6 t7 r7 t10 k10 t11 k11 f0 f1 f2 f3 f4 f5 f6
  replace f0 := shm_163 f0
  replace f4 := shm_1808 f4
  replace f5 := shm_825 f5
  replace f6 := shm_386 f6
  have g0 : v_iv (n_v vs 4) = w_fi ws (n_v vs 0) 0 := congrArg v_iv f0
  have kz_0_0 := fdq_21 hD hth r0
  have kz_0_1 := fdq_30 hD hth r0
  have kz_0_2 := fdq_20 hD hth r0
  obtain ⟨x, ex, hx⟩ := iv_ex (ta := ta) (lo := 0) (hi := 24) (z := w_fi ws (n_v vs 0) 0) (by omega) (by omega) (by omega) (by omega)
  have ex2 : v_iv (Value.int x) = w_fi ws (n_v vs 0) 0 := ex
  have ex3 : 0 ≤ v_iv (Value.int x) ∧ v_iv (Value.int x) ≤ 24 := tv_rng hx
  have hrf0 : 0 ≤ v_iv (n_v vs 2) ∧ v_iv (n_v vs 2) ≤ 7 := vc_Gr_perform_at_kx_3_r0 (v_iv (n_v vs 1)) (v_iv (n_v vs 2)) (v_iv (n_v vs 3)) (w_fi ws (n_v vs 0) 0) (w_fi ws (n_v vs 0) 1) (w_fi ws (n_v vs 0) 2) k1 k2 k3 f4 kz_0_0 kz_0_1 kz_0_2
  have e_0 : n_v (vs ++ [Value.int x]) 0 = n_v vs 0 := n_v_old (by rw [hl]; decide)
  have e_10 : n_v (vs ++ [Value.int x]) 10 = n_v vs 10 := n_v_old (by rw [hl]; decide)
  have e_11 : n_v (vs ++ [Value.int x]) 11 = n_v vs 11 := n_v_old (by rw [hl]; decide)
  have e_12 : n_v (vs ++ [Value.int x]) 12 = Value.int x := n_v_new hl
  have nf0 : fc_1 PRD (21, [11, 10], [3]) ws (vs ++ [Value.int x]) := by
    refine ⟨nf_inA hl rfl, sgq_174 ?_⟩
    · show v_iv (n_v (vs ++ [Value.int x]) 11) + v_iv (n_v (vs ++ [Value.int x]) 10) ≤ 3
      simp only [e_10, e_11]
      exact vc_Gr_perform_at_kx_3_0 (v_iv (n_v vs 10)) (v_iv (n_v vs 11)) k10 k11
  have nf1 : fc_1 PRD (20, [0, 12], [50, 1, 0, 0, 1, 3, 2, 0, 0, 1, 1]) ws (vs ++ [Value.int x]) := by
    refine ⟨nf_inA hl rfl, sgq_570 ?_⟩
    · show w_fi ws (n_v (vs ++ [Value.int x]) 0) 0 = v_iv (n_v (vs ++ [Value.int x]) 12)
      simp only [e_0, e_12]
      exact vc_Gr_perform_at_kx_3_1 (w_fi ws (n_v vs 0) 0) (v_iv (Value.int x)) kz_0_0 ex2
  have nf2 : fc_1 PRD (20, [0], [50, 1, 0, 0, 0, 3, 2, 0, 0, 0, 23]) ws (vs ++ [Value.int x]) := by
    refine ⟨nf_inA hl rfl, sgq_832 ?_⟩
    · show w_fi ws (n_v (vs ++ [Value.int x]) 0) 0 ≤ 23
      rw [e_0]
      exact vc_Gr_perform_at_kx_3_2 (v_iv (n_v vs 4)) (w_fi ws (n_v vs 0) 0) (v_iv (Value.int x)) k4 g0 kz_0_0 ex2
  have nf3 : fc_1 PRD (20, [0], [60, 2, 3, 670, 0, 1, 14, 7, 8]) ws (vs ++ [Value.int x]) := by
    refine ⟨nf_inA hl rfl, sgq_825 ?_⟩
    · show GNB (w_fi ws (n_v (vs ++ [Value.int x]) 0) 0) (w_fi ws (n_v (vs ++ [Value.int x]) 0) 1) (w_ei ws (w_ar ws (n_v (vs ++ [Value.int x]) 0) 14)) (w_ei ws (w_ar ws (n_v (vs ++ [Value.int x]) 0) 7)) (w_ei ws (w_ar ws (n_v (vs ++ [Value.int x]) 0) 8))
      rw [e_0]
      exact vc_Gr_perform_at_kx_3_3 (w_fi ws (n_v vs 0) 0) (w_fi ws (n_v vs 0) 1) (w_ei ws (w_ar ws (n_v vs 0) 14)) (w_ei ws (w_ar ws (n_v vs 0) 7)) (w_ei ws (w_ar ws (n_v vs 0) 8)) f5 kz_0_0 kz_0_1
  have nf4 : fc_1 PRD (20, [0], [60, 2, 2, 596, 0, 1, 7, 8]) ws (vs ++ [Value.int x]) := by
    refine ⟨nf_inA hl rfl, sgq_386 ?_⟩
    · show GKE (w_fi ws (n_v (vs ++ [Value.int x]) 0) 0) (w_fi ws (n_v (vs ++ [Value.int x]) 0) 1) (w_ei ws (w_ar ws (n_v (vs ++ [Value.int x]) 0) 7)) (w_ei ws (w_ar ws (n_v (vs ++ [Value.int x]) 0) 8))
      rw [e_0]
      exact vc_Gr_perform_at_kx_3_4 (w_fi ws (n_v vs 0) 0) (w_fi ws (n_v vs 0) 1) (w_ei ws (w_ar ws (n_v vs 0) 7)) (w_ei ws (w_ar ws (n_v vs 0) 8)) f6 kz_0_0 kz_0_1
  have rf2 : tv_ok ta (0, 0, 7, []) (n_v vs 2) := tv_in t2 (by first | omega | grind) (by first | omega | grind)
  exact ⟨List.forall_mem_cons.mpr ⟨rf2, (fun _ h => (by cases h))⟩, [Value.int x], ag_one hx, List.forall_mem_cons.mpr ⟨⟨show (21 : Nat) < 100 from by decide, nf0⟩, List.forall_mem_cons.mpr ⟨⟨show (20 : Nat) < 100 from by decide, nf1⟩, List.forall_mem_cons.mpr ⟨⟨show (20 : Nat) < 100 from by decide, nf2⟩, List.forall_mem_cons.mpr ⟨⟨show (20 : Nat) < 100 from by decide, nf3⟩, List.forall_mem_cons.mpr ⟨⟨show (20 : Nat) < 100 from by decide, nf4⟩, (fun _ h => (by cases h))⟩⟩⟩⟩⟩, (fun _ h => (by cases h))⟩
set_option maxHeartbeats 4000000 in
theorem vc_Gr_perform_at_kx_4_r0 (x1 : Int) (x2 : Int) (x3 : Int) (x4 : Int) (nodes_0 : Int) (edges_0 : Int) (groups_0 : Int) (k1 : 1 ≤ x1 ∧ x1 ≤ 1) (k2 : (-2147483648) ≤ x2 ∧ x2 ≤ 2147483647) (k3 : (-2147483648) ≤ x3 ∧ x3 ≤ 2147483647) (k4 : 0 ≤ x4 ∧ x4 ≤ 24) (g0 : x4 = nodes_0) (f4 : ((x1 = 0) ∧ ((0 ≤ x2) ∧ (((x2 + 1) ≤ groups_0) ∧ (nodes_0 ≤ 23)))) ∨ (((x1 = 1) ∧ ((0 ≤ x2) ∧ (((x2 + 1) ≤ nodes_0) ∧ ((0 ≤ x3) ∧ (((x3 + 1) ≤ nodes_0) ∧ ((edges_0 ≤ 47) ∧ (((x2 + 1) ≤ x3) ∨ ((x3 + 1) ≤ x2)))))))) ∨ (((x1 = 2) ∧ ((0 ≤ x2) ∧ ((x2 + 1) ≤ edges_0))) ∨ (((x1 = 3) ∧ ((0 ≤ x2) ∧ ((x2 + 1) ≤ nodes_0))) ∨ (((x1 = 4) ∧ ((0 ≤ x2) ∧ (((x2 + 1) ≤ nodes_0) ∧ ((1 ≤ x3) ∧ (x3 ≤ 99))))) ∨ (((x1 = 5) ∧ ((0 ≤ x2) ∧ (((x2 + 1) ≤ edges_0) ∧ ((1 ≤ x3) ∧ (x3 ≤ 9))))) ∨ (((x1 = 6) ∧ ((0 ≤ x2) ∧ (((x2 + 1) ≤ nodes_0) ∧ ((0 ≤ x3) ∧ ((x3 + 1) ≤ groups_0))))) ∨ ((x1 = 7) ∧ ((0 ≤ x2) ∧ (((x2 + 1) ≤ edges_0) ∧ ((0 ≤ x3) ∧ (x3 ≤ 1)))))))))))) (kz_0_0 : 0 ≤ nodes_0 ∧ nodes_0 ≤ 24) (kz_0_1 : 0 ≤ edges_0 ∧ edges_0 ≤ 48) (kz_0_2 : 0 ≤ groups_0 ∧ groups_0 ≤ 8) : 0 ≤ x3 ∧ x3 ≤ 23 := by
  first
    | omega
  
set_option maxHeartbeats 4000000 in
theorem vc_Gr_perform_at_kx_4_r1 (x1 : Int) (x2 : Int) (x3 : Int) (x4 : Int) (nodes_0 : Int) (edges_0 : Int) (groups_0 : Int) (k1 : 1 ≤ x1 ∧ x1 ≤ 1) (k2 : (-2147483648) ≤ x2 ∧ x2 ≤ 2147483647) (k3 : (-2147483648) ≤ x3 ∧ x3 ≤ 2147483647) (k4 : 0 ≤ x4 ∧ x4 ≤ 24) (g0 : x4 = nodes_0) (f4 : ((x1 = 0) ∧ ((0 ≤ x2) ∧ (((x2 + 1) ≤ groups_0) ∧ (nodes_0 ≤ 23)))) ∨ (((x1 = 1) ∧ ((0 ≤ x2) ∧ (((x2 + 1) ≤ nodes_0) ∧ ((0 ≤ x3) ∧ (((x3 + 1) ≤ nodes_0) ∧ ((edges_0 ≤ 47) ∧ (((x2 + 1) ≤ x3) ∨ ((x3 + 1) ≤ x2)))))))) ∨ (((x1 = 2) ∧ ((0 ≤ x2) ∧ ((x2 + 1) ≤ edges_0))) ∨ (((x1 = 3) ∧ ((0 ≤ x2) ∧ ((x2 + 1) ≤ nodes_0))) ∨ (((x1 = 4) ∧ ((0 ≤ x2) ∧ (((x2 + 1) ≤ nodes_0) ∧ ((1 ≤ x3) ∧ (x3 ≤ 99))))) ∨ (((x1 = 5) ∧ ((0 ≤ x2) ∧ (((x2 + 1) ≤ edges_0) ∧ ((1 ≤ x3) ∧ (x3 ≤ 9))))) ∨ (((x1 = 6) ∧ ((0 ≤ x2) ∧ (((x2 + 1) ≤ nodes_0) ∧ ((0 ≤ x3) ∧ ((x3 + 1) ≤ groups_0))))) ∨ ((x1 = 7) ∧ ((0 ≤ x2) ∧ (((x2 + 1) ≤ edges_0) ∧ ((0 ≤ x3) ∧ (x3 ≤ 1)))))))))))) (kz_0_0 : 0 ≤ nodes_0 ∧ nodes_0 ≤ 24) (kz_0_1 : 0 ≤ edges_0 ∧ edges_0 ≤ 48) (kz_0_2 : 0 ≤ groups_0 ∧ groups_0 ≤ 8) : 0 ≤ x2 ∧ x2 ≤ 23 := by
  first
    | omega
  
set_option maxHeartbeats 4000000 in
theorem vc_Gr_perform_at_kx_4_r2 (x1 : Int) (x2 : Int) (x3 : Int) (x5 : Int) (nodes_0 : Int) (edges_0 : Int) (groups_0 : Int) (k1 : 1 ≤ x1 ∧ x1 ≤ 1) (k2 : (-2147483648) ≤ x2 ∧ x2 ≤ 2147483647) (k3 : (-2147483648) ≤ x3 ∧ x3 ≤ 2147483647) (k5 : 0 ≤ x5 ∧ x5 ≤ 48) (g1 : x5 = edges_0) (f4 : ((x1 = 0) ∧ ((0 ≤ x2) ∧ (((x2 + 1) ≤ groups_0) ∧ (nodes_0 ≤ 23)))) ∨ (((x1 = 1) ∧ ((0 ≤ x2) ∧ (((x2 + 1) ≤ nodes_0) ∧ ((0 ≤ x3) ∧ (((x3 + 1) ≤ nodes_0) ∧ ((edges_0 ≤ 47) ∧ (((x2 + 1) ≤ x3) ∨ ((x3 + 1) ≤ x2)))))))) ∨ (((x1 = 2) ∧ ((0 ≤ x2) ∧ ((x2 + 1) ≤ edges_0))) ∨ (((x1 = 3) ∧ ((0 ≤ x2) ∧ ((x2 + 1) ≤ nodes_0))) ∨ (((x1 = 4) ∧ ((0 ≤ x2) ∧ (((x2 + 1) ≤ nodes_0) ∧ ((1 ≤ x3) ∧ (x3 ≤ 99))))) ∨ (((x1 = 5) ∧ ((0 ≤ x2) ∧ (((x2 + 1) ≤ edges_0) ∧ ((1 ≤ x3) ∧ (x3 ≤ 9))))) ∨ (((x1 = 6) ∧ ((0 ≤ x2) ∧ (((x2 + 1) ≤ nodes_0) ∧ ((0 ≤ x3) ∧ ((x3 + 1) ≤ groups_0))))) ∨ ((x1 = 7) ∧ ((0 ≤ x2) ∧ (((x2 + 1) ≤ edges_0) ∧ ((0 ≤ x3) ∧ (x3 ≤ 1)))))))))))) (kz_0_0 : 0 ≤ nodes_0 ∧ nodes_0 ≤ 24) (kz_0_1 : 0 ≤ edges_0 ∧ edges_0 ≤ 48) (kz_0_2 : 0 ≤ groups_0 ∧ groups_0 ≤ 8) : 0 ≤ x5 ∧ x5 ≤ 47 := by
  first
    | omega
  
set_option maxHeartbeats 4000000 in
theorem vc_Gr_perform_at_kx_4_0 (x1 : Int) (x2 : Int) (x3 : Int) (nodes_0 : Int) (edges_0 : Int) (groups_0 : Int) (k1 : 1 ≤ x1 ∧ x1 ≤ 1) (k2 : (-2147483648) ≤ x2 ∧ x2 ≤ 2147483647) (k3 : (-2147483648) ≤ x3 ∧ x3 ≤ 2147483647) (f4 : ((x1 = 0) ∧ ((0 ≤ x2) ∧ (((x2 + 1) ≤ groups_0) ∧ (nodes_0 ≤ 23)))) ∨ (((x1 = 1) ∧ ((0 ≤ x2) ∧ (((x2 + 1) ≤ nodes_0) ∧ ((0 ≤ x3) ∧ (((x3 + 1) ≤ nodes_0) ∧ ((edges_0 ≤ 47) ∧ (((x2 + 1) ≤ x3) ∨ ((x3 + 1) ≤ x2)))))))) ∨ (((x1 = 2) ∧ ((0 ≤ x2) ∧ ((x2 + 1) ≤ edges_0))) ∨ (((x1 = 3) ∧ ((0 ≤ x2) ∧ ((x2 + 1) ≤ nodes_0))) ∨ (((x1 = 4) ∧ ((0 ≤ x2) ∧ (((x2 + 1) ≤ nodes_0) ∧ ((1 ≤ x3) ∧ (x3 ≤ 99))))) ∨ (((x1 = 5) ∧ ((0 ≤ x2) ∧ (((x2 + 1) ≤ edges_0) ∧ ((1 ≤ x3) ∧ (x3 ≤ 9))))) ∨ (((x1 = 6) ∧ ((0 ≤ x2) ∧ (((x2 + 1) ≤ nodes_0) ∧ ((0 ≤ x3) ∧ ((x3 + 1) ≤ groups_0))))) ∨ ((x1 = 7) ∧ ((0 ≤ x2) ∧ (((x2 + 1) ≤ edges_0) ∧ ((0 ≤ x3) ∧ (x3 ≤ 1)))))))))))) (kz_0_0 : 0 ≤ nodes_0 ∧ nodes_0 ≤ 24) (kz_0_1 : 0 ≤ edges_0 ∧ edges_0 ≤ 48) (kz_0_2 : 0 ≤ groups_0 ∧ groups_0 ≤ 8) : (0 ≤ x2) ∧ (((x2 + 1) ≤ nodes_0) ∧ ((0 ≤ x3) ∧ (((x3 + 1) ≤ nodes_0) ∧ (((x2 + 1) ≤ x3) ∨ ((x3 + 1) ≤ x2))))) := by
  first
    | omega
  
def o_Gr_perform_at_kx_4 : or_T := (72, 9, [(0, (2, 0, 0, [3])), (1, (0, 1, 1, [])), (2, (0, -2147483648, 2147483647, [])), (3, (0, -2147483648, 2147483647, [])), (4, (0, 0, 24, [])), (5, (0, 0, 48, [])), (6, (2, 0, 0, [52])), (7, (2, 0, 0, [53]))], [(9, [4, 0], [0]), (9, [5, 0], [1]), (9, [6, 0], [7]), (9, [7, 0], [8]), (20, [1, 2, 0, 3], [50, 3, 0, 2002, 2000, 2001, 3, 36, 2, 6, 1, 2, 1, 0, 0, 0, 2, 6, 0, 2, 0, 0, 1, 1, 2, 11, 0, 6, 4, 2, 1, 1, 0, 1, 2, 2, 2, 0, 3, 2, 2, 0, 0, 23, 3, 81, 2, 6, 1, 2, 1, 0, 0, 1, 2, 6, 0, 2, 0, 0, 1, 1, 2, 11, 0, 6, 4, 2, 1, 1, 0, 1, 2, 2, 0, 2, 6, 0, 2, 0, 0, 1, 3, 2, 11, 0, 6, 4, 2, 1, 3, 0, 1, 2, 2, 0, 2, 7, 0, 3, 2, 2, 1, 0, 47, 3, 10, 0, 6, 4, 2, 1, 1, 0, 1, 1, 3, 0, 6, 4, 2, 1, 3, 0, 1, 1, 1, 3, 27, 2, 6, 1, 2, 1, 0, 0, 2, 2, 6, 0, 2, 0, 0, 1, 1, 0, 6, 4, 2, 1, 1, 0, 1, 2, 2, 1, 3, 27, 2, 6, 1, 2, 1, 0, 0, 3, 2, 6, 0, 2, 0, 0, 1, 1, 0, 6, 4, 2, 1, 1, 0, 1, 2, 2, 0, 3, 43, 2, 6, 1, 2, 1, 0, 0, 4, 2, 6, 0, 2, 0, 0, 1, 1, 2, 11, 0, 6, 4, 2, 1, 1, 0, 1, 2, 2, 0, 2, 6, 0, 2, 0, 1, 1, 3, 0, 2, 1, 3, 0, 99, 3, 43, 2, 6, 1, 2, 1, 0, 0, 5, 2, 6, 0, 2, 0, 0, 1, 1, 2, 11, 0, 6, 4, 2, 1, 1, 0, 1, 2, 2, 1, 2, 6, 0, 2, 0, 1, 1, 3, 0, 2, 1, 3, 0, 9, 3, 48, 2, 6, 1, 2, 1, 0, 0, 6, 2, 6, 0, 2, 0, 0, 1, 1, 2, 11, 0, 6, 4, 2, 1, 1, 0, 1, 2, 2, 0, 2, 6, 0, 2, 0, 0, 1, 3, 0, 6, 4, 2, 1, 3, 0, 1, 2, 2, 2, 2, 6, 1, 2, 1, 0, 0, 7, 2, 6, 0, 2, 0, 0, 1, 1, 2, 11, 0, 6, 4, 2, 1, 1, 0, 1, 2, 2, 1, 2, 6, 0, 2, 0, 0, 1, 3, 0, 2, 1, 3, 0, 1]), (20, [0], [60, 2, 3, 670, 0, 1, 14, 7, 8]), (20, [0], [60, 2, 2, 596, 0, 1, 7, 8])], [(3, (0, 0, 23, [])), (2, (0, 0, 23, [])), (5, (0, 0, 47, []))], [], [(20, [2, 0, 3], [50, 1, 0, 1000, 2, 6, 0, 2, 0, 0, 1, 0, 2, 11, 0, 6, 4, 2, 1, 0, 0, 1, 2, 1, 0, 2, 6, 0, 2, 0, 0, 1, 2, 2, 11, 0, 6, 4, 2, 1, 2, 0, 1, 2, 1, 0, 3, 10, 0, 6, 4, 2, 1, 0, 0, 1, 1, 2, 0, 6, 4, 2, 1, 2, 0, 1, 1, 0])], [], [])
theorem oo_Gr_perform_at_kx_4 {kA : Nat → ClassId} : or_ok PRD kA GG o_Gr_perform_at_kx_4 := by
  refine or_mk fun A ta ws vs hD hth hl => ?_
  intro t0 r0 t1 k1 t2 k2 t3 k3 t4 k4 t5 k5 t6 r6 t7 r7 f0 f1 f2 f3 f4 f5 f6
  replace f0 := shm_163 f0
  replace f1 := shm_215 f1
  have g0 : v_iv (n_v vs 4) = w_fi ws (n_v vs 0) 0 := congrArg v_iv f0
  have g1 : v_iv (n_v vs 5) = w_fi ws (n_v vs 0) 1 := congrArg v_iv f1
  have kz_0_0 := fdq_21 hD hth r0
  have kz_0_1 := fdq_30 hD hth r0
  have kz_0_2 := fdq_20 hD hth r0
  have hrf0 : 0 ≤ v_iv (n_v vs 3) ∧ v_iv (n_v vs 3) ≤ 23 := vc_Gr_perform_at_kx_4_r0 (v_iv (n_v vs 1)) (v_iv (n_v vs 2)) (v_iv (n_v vs 3)) (v_iv (n_v vs 4)) (w_fi ws (n_v vs 0) 0) (w_fi ws (n_v vs 0) 1) (w_fi ws (n_v vs 0) 2) k1 k2 k3 k4 g0 (shm_1808 f4) kz_0_0 kz_0_1 kz_0_2
  have hrf1 : 0 ≤ v_iv (n_v vs 2) ∧ v_iv (n_v vs 2) ≤ 23 := vc_Gr_perform_at_kx_4_r1 (v_iv (n_v vs 1)) (v_iv (n_v vs 2)) (v_iv (n_v vs 3)) (v_iv (n_v vs 4)) (w_fi ws (n_v vs 0) 0) (w_fi ws (n_v vs 0) 1) (w_fi ws (n_v vs 0) 2) k1 k2 k3 k4 g0 (shm_1808 f4) kz_0_0 kz_0_1 kz_0_2
  have hrf2 : 0 ≤ v_iv (n_v vs 5) ∧ v_iv (n_v vs 5) ≤ 47 := vc_Gr_perform_at_kx_4_r2 (v_iv (n_v vs 1)) (v_iv (n_v vs 2)) (v_iv (n_v vs 3)) (v_iv (n_v vs 5)) (w_fi ws (n_v vs 0) 0) (w_fi ws (n_v vs 0) 1) (w_fi ws (n_v vs 0) 2) k1 k2 k3 k5 g1 (shm_1808 f4) kz_0_0 kz_0_1 kz_0_2
  have nf0 : fc_1 PRD (20, [2, 0, 3], [50, 1, 0, 1000, 2, 6, 0, 2, 0, 0, 1, 0, 2, 11, 0, 6, 4, 2, 1, 0, 0, 1, 2, 1, 0, 2, 6, 0, 2, 0, 0, 1, 2, 2, 11, 0, 6, 4, 2, 1, 2, 0, 1, 2, 1, 0, 3, 10, 0, 6, 4, 2, 1, 0, 0, 1, 1, 2, 0, 6, 4, 2, 1, 2, 0, 1, 1, 0]) ws (vs) := ⟨nf_in hl rfl, sgq_824 (vc_Gr_perform_at_kx_4_0 (v_iv (n_v vs 1)) (v_iv (n_v vs 2)) (v_iv (n_v vs 3)) (w_fi ws (n_v vs 0) 0) (w_fi ws (n_v vs 0) 1) (w_fi ws (n_v vs 0) 2) k1 k2 k3 (shm_1808 f4) kz_0_0 kz_0_1 kz_0_2)⟩
  have rf3 : tv_ok ta (0, 0, 23, []) (n_v vs 3) := tv_in t3 (by first | omega | grind) (by first | omega | grind)
  have rf2 : tv_ok ta (0, 0, 23, []) (n_v vs 2) := tv_in t2 (by first | omega | grind) (by first | omega | grind)
  have rf5 : tv_ok ta (0, 0, 47, []) (n_v vs 5) := tv_in t5 (by first | omega | grind) (by first | omega | grind)
  refine ⟨List.forall_mem_cons.mpr ⟨rf3, List.forall_mem_cons.mpr ⟨rf2, List.forall_mem_cons.mpr ⟨rf5, (fun _ h => (by cases h))⟩⟩⟩, [], trivial, ?_, (fun _ h => (by cases h))⟩
  rw [List.append_nil]
  exact List.forall_mem_cons.mpr ⟨⟨show (20 : Nat) < 100 from by decide, nf0⟩, (fun _ h => (by cases h))⟩
set_option maxHeartbeats 4000000 in
theorem vc_Gr_perform_at_kx_5_r0 (x1 : Int) (x2 : Int) (x3 : Int) (x5 : Int) (nodes_0 : Int) (edges_0 : Int) (groups_0 : Int) (k1 : 2 ≤ x1 ∧ x1 ≤ 2) (k2 : (-2147483648) ≤ x2 ∧ x2 ≤ 2147483647) (k3 : (-2147483648) ≤ x3 ∧ x3 ≤ 2147483647) (k5 : 0 ≤ x5 ∧ x5 ≤ 48) (g1 : x5 = edges_0) (f4 : ((x1 = 0) ∧ ((0 ≤ x2) ∧ (((x2 + 1) ≤ groups_0) ∧ (nodes_0 ≤ 23)))) ∨ (((x1 = 1) ∧ ((0 ≤ x2) ∧ (((x2 + 1) ≤ nodes_0) ∧ ((0 ≤ x3) ∧ (((x3 + 1) ≤ nodes_0) ∧ ((edges_0 ≤ 47) ∧ (((x2 + 1) ≤ x3) ∨ ((x3 + 1) ≤ x2)))))))) ∨ (((x1 = 2) ∧ ((0 ≤ x2) ∧ ((x2 + 1) ≤ edges_0))) ∨ (((x1 = 3) ∧ ((0 ≤ x2) ∧ ((x2 + 1) ≤ nodes_0))) ∨ (((x1 = 4) ∧ ((0 ≤ x2) ∧ (((x2 + 1) ≤ nodes_0) ∧ ((1 ≤ x3) ∧ (x3 ≤ 99))))) ∨ (((x1 = 5) ∧ ((0 ≤ x2) ∧ (((x2 + 1) ≤ edges_0) ∧ ((1 ≤ x3) ∧ (x3 ≤ 9))))) ∨ (((x1 = 6) ∧ ((0 ≤ x2) ∧ (((x2 + 1) ≤ nodes_0) ∧ ((0 ≤ x3) ∧ ((x3 + 1) ≤ groups_0))))) ∨ ((x1 = 7) ∧ ((0 ≤ x2) ∧ (((x2 + 1) ≤ edges_0) ∧ ((0 ≤ x3) ∧ (x3 ≤ 1)))))))))))) (kz_0_0 : 0 ≤ nodes_0 ∧ nodes_0 ≤ 24) (kz_0_1 : 0 ≤ edges_0 ∧ edges_0 ≤ 48) (kz_0_2 : 0 ≤ groups_0 ∧ groups_0 ≤ 8) : 0 ≤ x2 ∧ x2 ≤ 47 := by
  first
    | omega
  
set_option maxHeartbeats 4000000 in
theorem vc_Gr_perform_at_kx_5_r1 (x1 : Int) (x2 : Int) (x3 : Int) (x5 : Int) (nodes_0 : Int) (edges_0 : Int) (groups_0 : Int) (k1 : 2 ≤ x1 ∧ x1 ≤ 2) (k2 : (-2147483648) ≤ x2 ∧ x2 ≤ 2147483647) (k3 : (-2147483648) ≤ x3 ∧ x3 ≤ 2147483647) (k5 : 0 ≤ x5 ∧ x5 ≤ 48) (g1 : x5 = edges_0) (f4 : ((x1 = 0) ∧ ((0 ≤ x2) ∧ (((x2 + 1) ≤ groups_0) ∧ (nodes_0 ≤ 23)))) ∨ (((x1 = 1) ∧ ((0 ≤ x2) ∧ (((x2 + 1) ≤ nodes_0) ∧ ((0 ≤ x3) ∧ (((x3 + 1) ≤ nodes_0) ∧ ((edges_0 ≤ 47) ∧ (((x2 + 1) ≤ x3) ∨ ((x3 + 1) ≤ x2)))))))) ∨ (((x1 = 2) ∧ ((0 ≤ x2) ∧ ((x2 + 1) ≤ edges_0))) ∨ (((x1 = 3) ∧ ((0 ≤ x2) ∧ ((x2 + 1) ≤ nodes_0))) ∨ (((x1 = 4) ∧ ((0 ≤ x2) ∧ (((x2 + 1) ≤ nodes_0) ∧ ((1 ≤ x3) ∧ (x3 ≤ 99))))) ∨ (((x1 = 5) ∧ ((0 ≤ x2) ∧ (((x2 + 1) ≤ edges_0) ∧ ((1 ≤ x3) ∧ (x3 ≤ 9))))) ∨ (((x1 = 6) ∧ ((0 ≤ x2) ∧ (((x2 + 1) ≤ nodes_0) ∧ ((0 ≤ x3) ∧ ((x3 + 1) ≤ groups_0))))) ∨ ((x1 = 7) ∧ ((0 ≤ x2) ∧ (((x2 + 1) ≤ edges_0) ∧ ((0 ≤ x3) ∧ (x3 ≤ 1)))))))))))) (kz_0_0 : 0 ≤ nodes_0 ∧ nodes_0 ≤ 24) (kz_0_1 : 0 ≤ edges_0 ∧ edges_0 ≤ 48) (kz_0_2 : 0 ≤ groups_0 ∧ groups_0 ≤ 8) : 1 ≤ x5 ∧ x5 ≤ 48 := by
  first
    | omega
  
set_option maxHeartbeats 4000000 in
theorem vc_Gr_perform_at_kx_5_0 (x1 : Int) (x2 : Int) (x3 : Int) (nodes_0 : Int) (edges_0 : Int) (groups_0 : Int) (k1 : 2 ≤ x1 ∧ x1 ≤ 2) (k2 : (-2147483648) ≤ x2 ∧ x2 ≤ 2147483647) (k3 : (-2147483648) ≤ x3 ∧ x3 ≤ 2147483647) (f4 : ((x1 = 0) ∧ ((0 ≤ x2) ∧ (((x2 + 1) ≤ groups_0) ∧ (nodes_0 ≤ 23)))) ∨ (((x1 = 1) ∧ ((0 ≤ x2) ∧ (((x2 + 1) ≤ nodes_0) ∧ ((0 ≤ x3) ∧ (((x3 + 1) ≤ nodes_0) ∧ ((edges_0 ≤ 47) ∧ (((x2 + 1) ≤ x3) ∨ ((x3 + 1) ≤ x2)))))))) ∨ (((x1 = 2) ∧ ((0 ≤ x2) ∧ ((x2 + 1) ≤ edges_0))) ∨ (((x1 = 3) ∧ ((0 ≤ x2) ∧ ((x2 + 1) ≤ nodes_0))) ∨ (((x1 = 4) ∧ ((0 ≤ x2) ∧ (((x2 + 1) ≤ nodes_0) ∧ ((1 ≤ x3) ∧ (x3 ≤ 99))))) ∨ (((x1 = 5) ∧ ((0 ≤ x2) ∧ (((x2 + 1) ≤ edges_0) ∧ ((1 ≤ x3) ∧ (x3 ≤ 9))))) ∨ (((x1 = 6) ∧ ((0 ≤ x2) ∧ (((x2 + 1) ≤ nodes_0) ∧ ((0 ≤ x3) ∧ ((x3 + 1) ≤ groups_0))))) ∨ ((x1 = 7) ∧ ((0 ≤ x2) ∧ (((x2 + 1) ≤ edges_0) ∧ ((0 ≤ x3) ∧ (x3 ≤ 1)))))))))))) (kz_0_0 : 0 ≤ nodes_0 ∧ nodes_0 ≤ 24) (kz_0_1 : 0 ≤ edges_0 ∧ edges_0 ≤ 48) (kz_0_2 : 0 ≤ groups_0 ∧ groups_0 ≤ 8) : (0 ≤ x2) ∧ ((x2 + 1) ≤ edges_0) := by
  first
    | omega
  
def o_Gr_perform_at_kx_5 : or_T := (78, 8, [(0, (2, 0, 0, [3])), (1, (0, 2, 2, [])), (2, (0, -2147483648, 2147483647, [])), (3, (0, -2147483648, 2147483647, [])), (4, (0, 0, 24, [])), (5, (0, 0, 48, [])), (6, (2, 0, 0, [52])), (7, (2, 0, 0, [53]))], [(9, [4, 0], [0]), (9, [5, 0], [1]), (9, [6, 0], [7]), (9, [7, 0], [8]), (20, [1, 2, 0, 3], [50, 3, 0, 2002, 2000, 2001, 3, 36, 2, 6, 1, 2, 1, 0, 0, 0, 2, 6, 0, 2, 0, 0, 1, 1, 2, 11, 0, 6, 4, 2, 1, 1, 0, 1, 2, 2, 2, 0, 3, 2, 2, 0, 0, 23, 3, 81, 2, 6, 1, 2, 1, 0, 0, 1, 2, 6, 0, 2, 0, 0, 1, 1, 2, 11, 0, 6, 4, 2, 1, 1, 0, 1, 2, 2, 0, 2, 6, 0, 2, 0, 0, 1, 3, 2, 11, 0, 6, 4, 2, 1, 3, 0, 1, 2, 2, 0, 2, 7, 0, 3, 2, 2, 1, 0, 47, 3, 10, 0, 6, 4, 2, 1, 1, 0, 1, 1, 3, 0, 6, 4, 2, 1, 3, 0, 1, 1, 1, 3, 27, 2, 6, 1, 2, 1, 0, 0, 2, 2, 6, 0, 2, 0, 0, 1, 1, 0, 6, 4, 2, 1, 1, 0, 1, 2, 2, 1, 3, 27, 2, 6, 1, 2, 1, 0, 0, 3, 2, 6, 0, 2, 0, 0, 1, 1, 0, 6, 4, 2, 1, 1, 0, 1, 2, 2, 0, 3, 43, 2, 6, 1, 2, 1, 0, 0, 4, 2, 6, 0, 2, 0, 0, 1, 1, 2, 11, 0, 6, 4, 2, 1, 1, 0, 1, 2, 2, 0, 2, 6, 0, 2, 0, 1, 1, 3, 0, 2, 1, 3, 0, 99, 3, 43, 2, 6, 1, 2, 1, 0, 0, 5, 2, 6, 0, 2, 0, 0, 1, 1, 2, 11, 0, 6, 4, 2, 1, 1, 0, 1, 2, 2, 1, 2, 6, 0, 2, 0, 1, 1, 3, 0, 2, 1, 3, 0, 9, 3, 48, 2, 6, 1, 2, 1, 0, 0, 6, 2, 6, 0, 2, 0, 0, 1, 1, 2, 11, 0, 6, 4, 2, 1, 1, 0, 1, 2, 2, 0, 2, 6, 0, 2, 0, 0, 1, 3, 0, 6, 4, 2, 1, 3, 0, 1, 2, 2, 2, 2, 6, 1, 2, 1, 0, 0, 7, 2, 6, 0, 2, 0, 0, 1, 1, 2, 11, 0, 6, 4, 2, 1, 1, 0, 1, 2, 2, 1, 2, 6, 0, 2, 0, 0, 1, 3, 0, 2, 1, 3, 0, 1]), (20, [0], [60, 2, 3, 670, 0, 1, 14, 7, 8]), (20, [0], [60, 2, 2, 596, 0, 1, 7, 8])], [(2, (0, 0, 47, [])), (5, (0, 1, 48, []))], [], [(20, [2, 0], [50, 1, 0, 1001, 2, 6, 0, 2, 0, 0, 1, 0, 0, 6, 4, 2, 1, 0, 0, 1, 2, 1, 1])], [], [])
theorem oo_Gr_perform_at_kx_5 {kA : Nat → ClassId} : or_ok PRD kA GG o_Gr_perform_at_kx_5 := by
  refine or_mk fun A ta ws vs hD hth hl => ?_
  intro t0 r0 t1 k1 t2 k2 t3 k3 t4 k4 t5 k5 t6 r6 t7 r7 f0 f1 f2 f3 f4 f5 f6
  replace f1 := shm_215 f1
  have g1 : v_iv (n_v vs 5) = w_fi ws (n_v vs 0) 1 := congrArg v_iv f1
  have kz_0_0 := fdq_21 hD hth r0
  have kz_0_1 := fdq_30 hD hth r0
  have kz_0_2 := fdq_20 hD hth r0
  have hrf0 : 0 ≤ v_iv (n_v vs 2) ∧ v_iv (n_v vs 2) ≤ 47 := vc_Gr_perform_at_kx_5_r0 (v_iv (n_v vs 1)) (v_iv (n_v vs 2)) (v_iv (n_v vs 3)) (v_iv (n_v vs 5)) (w_fi ws (n_v vs 0) 0) (w_fi ws (n_v vs 0) 1) (w_fi ws (n_v vs 0) 2) k1 k2 k3 k5 g1 (shm_1808 f4) kz_0_0 kz_0_1 kz_0_2
  have hrf1 : 1 ≤ v_iv (n_v vs 5) ∧ v_iv (n_v vs 5) ≤ 48 := vc_Gr_perform_at_kx_5_r1 (v_iv (n_v vs 1)) (v_iv (n_v vs 2)) (v_iv (n_v vs 3)) (v_iv (n_v vs 5)) (w_fi ws (n_v vs 0) 0) (w_fi ws (n_v vs 0) 1) (w_fi ws (n_v vs 0) 2) k1 k2 k3 k5 g1 (shm_1808 f4) kz_0_0 kz_0_1 kz_0_2
  have nf0 : fc_1 PRD (20, [2, 0], [50, 1, 0, 1001, 2, 6, 0, 2, 0, 0, 1, 0, 0, 6, 4, 2, 1, 0, 0, 1, 2, 1, 1]) ws (vs) := ⟨nf_in hl rfl, sgq_387 (vc_Gr_perform_at_kx_5_0 (v_iv (n_v vs 1)) (v_iv (n_v vs 2)) (v_iv (n_v vs 3)) (w_fi ws (n_v vs 0) 0) (w_fi ws (n_v vs 0) 1) (w_fi ws (n_v vs 0) 2) k1 k2 k3 (shm_1808 f4) kz_0_0 kz_0_1 kz_0_2)⟩
  have rf2 : tv_ok ta (0, 0, 47, []) (n_v vs 2) := tv_in t2 (by first | omega | grind) (by first | omega | grind)
  have rf5 : tv_ok ta (0, 1, 48, []) (n_v vs 5) := tv_in t5 (by first | omega | grind) (by first | omega | grind)
  refine ⟨List.forall_mem_cons.mpr ⟨rf2, List.forall_mem_cons.mpr ⟨rf5, (fun _ h => (by cases h))⟩⟩, [], trivial, ?_, (fun _ h => (by cases h))⟩
  rw [List.append_nil]
  exact List.forall_mem_cons.mpr ⟨⟨show (20 : Nat) < 100 from by decide, nf0⟩, (fun _ h => (by cases h))⟩
set_option maxHeartbeats 4000000 in
theorem vc_Gr_perform_at_kx_6_r0 (x1 : Int) (x2 : Int) (x3 : Int) (x4 : Int) (nodes_0 : Int) (edges_0 : Int) (groups_0 : Int) (k1 : 3 ≤ x1 ∧ x1 ≤ 3) (k2 : (-2147483648) ≤ x2 ∧ x2 ≤ 2147483647) (k3 : (-2147483648) ≤ x3 ∧ x3 ≤ 2147483647) (k4 : 0 ≤ x4 ∧ x4 ≤ 24) (g0 : x4 = nodes_0) (f4 : ((x1 = 0) ∧ ((0 ≤ x2) ∧ (((x2 + 1) ≤ groups_0) ∧ (nodes_0 ≤ 23)))) ∨ (((x1 = 1) ∧ ((0 ≤ x2) ∧ (((x2 + 1) ≤ nodes_0) ∧ ((0 ≤ x3) ∧ (((x3 + 1) ≤ nodes_0) ∧ ((edges_0 ≤ 47) ∧ (((x2 + 1) ≤ x3) ∨ ((x3 + 1) ≤ x2)))))))) ∨ (((x1 = 2) ∧ ((0 ≤ x2) ∧ ((x2 + 1) ≤ edges_0))) ∨ (((x1 = 3) ∧ ((0 ≤ x2) ∧ ((x2 + 1) ≤ nodes_0))) ∨ (((x1 = 4) ∧ ((0 ≤ x2) ∧ (((x2 + 1) ≤ nodes_0) ∧ ((1 ≤ x3) ∧ (x3 ≤ 99))))) ∨ (((x1 = 5) ∧ ((0 ≤ x2) ∧ (((x2 + 1) ≤ edges_0) ∧ ((1 ≤ x3) ∧ (x3 ≤ 9))))) ∨ (((x1 = 6) ∧ ((0 ≤ x2) ∧ (((x2 + 1) ≤ nodes_0) ∧ ((0 ≤ x3) ∧ ((x3 + 1) ≤ groups_0))))) ∨ ((x1 = 7) ∧ ((0 ≤ x2) ∧ (((x2 + 1) ≤ edges_0) ∧ ((0 ≤ x3) ∧ (x3 ≤ 1)))))))))))) (kz_0_0 : 0 ≤ nodes_0 ∧ nodes_0 ≤ 24) (kz_0_1 : 0 ≤ edges_0 ∧ edges_0 ≤ 48) (kz_0_2 : 0 ≤ groups_0 ∧ groups_0 ≤ 8) : 0 ≤ x2 ∧ x2 ≤ 23 := by
  first
    | omega
  
set_option maxHeartbeats 4000000 in
theorem vc_Gr_perform_at_kx_6_0 (x1 : Int) (x2 : Int) (x3 : Int) (nodes_0 : Int) (edges_0 : Int) (groups_0 : Int) (k1 : 3 ≤ x1 ∧ x1 ≤ 3) (k2 : (-2147483648) ≤ x2 ∧ x2 ≤ 2147483647) (k3 : (-2147483648) ≤ x3 ∧ x3 ≤ 2147483647) (f4 : ((x1 = 0) ∧ ((0 ≤ x2) ∧ (((x2 + 1) ≤ groups_0) ∧ (nodes_0 ≤ 23)))) ∨ (((x1 = 1) ∧ ((0 ≤ x2) ∧ (((x2 + 1) ≤ nodes_0) ∧ ((0 ≤ x3) ∧ (((x3 + 1) ≤ nodes_0) ∧ ((edges_0 ≤ 47) ∧ (((x2 + 1) ≤ x3) ∨ ((x3 + 1) ≤ x2)))))))) ∨ (((x1 = 2) ∧ ((0 ≤ x2) ∧ ((x2 + 1) ≤ edges_0))) ∨ (((x1 = 3) ∧ ((0 ≤ x2) ∧ ((x2 + 1) ≤ nodes_0))) ∨ (((x1 = 4) ∧ ((0 ≤ x2) ∧ (((x2 + 1) ≤ nodes_0) ∧ ((1 ≤ x3) ∧ (x3 ≤ 99))))) ∨ (((x1 = 5) ∧ ((0 ≤ x2) ∧ (((x2 + 1) ≤ edges_0) ∧ ((1 ≤ x3) ∧ (x3 ≤ 9))))) ∨ (((x1 = 6) ∧ ((0 ≤ x2) ∧ (((x2 + 1) ≤ nodes_0) ∧ ((0 ≤ x3) ∧ ((x3 + 1) ≤ groups_0))))) ∨ ((x1 = 7) ∧ ((0 ≤ x2) ∧ (((x2 + 1) ≤ edges_0) ∧ ((0 ≤ x3) ∧ (x3 ≤ 1)))))))))))) (kz_0_0 : 0 ≤ nodes_0 ∧ nodes_0 ≤ 24) (kz_0_1 : 0 ≤ edges_0 ∧ edges_0 ≤ 48) (kz_0_2 : 0 ≤ groups_0 ∧ groups_0 ≤ 8) : (0 ≤ x2) ∧ ((x2 + 1) ≤ nodes_0) := by
  first
    | omega
  
def o_Gr_perform_at_kx_6 : or_T := (90, 8, [(0, (2, 0, 0, [3])), (1, (0, 3, 3, [])), (2, (0, -2147483648, 2147483647, [])), (3, (0, -2147483648, 2147483647, [])), (4, (0, 0, 24, [])), (5, (0, 0, 48, [])), (6, (2, 0, 0, [52])), (7, (2, 0, 0, [53]))], [(9, [4, 0], [0]), (9, [5, 0], [1]), (9, [6, 0], [7]), (9, [7, 0], [8]), (20, [1, 2, 0, 3], [50, 3, 0, 2002, 2000, 2001, 3, 36, 2, 6, 1, 2, 1, 0, 0, 0, 2, 6, 0, 2, 0, 0, 1, 1, 2, 11, 0, 6, 4, 2, 1, 1, 0, 1, 2, 2, 2, 0, 3, 2, 2, 0, 0, 23, 3, 81, 2, 6, 1, 2, 1, 0, 0, 1, 2, 6, 0, 2, 0, 0, 1, 1, 2, 11, 0, 6, 4, 2, 1, 1, 0, 1, 2, 2, 0, 2, 6, 0, 2, 0, 0, 1, 3, 2, 11, 0, 6, 4, 2, 1, 3, 0, 1, 2, 2, 0, 2, 7, 0, 3, 2, 2, 1, 0, 47, 3, 10, 0, 6, 4, 2, 1, 1, 0, 1, 1, 3, 0, 6, 4, 2, 1, 3, 0, 1, 1, 1, 3, 27, 2, 6, 1, 2, 1, 0, 0, 2, 2, 6, 0, 2, 0, 0, 1, 1, 0, 6, 4, 2, 1, 1, 0, 1, 2, 2, 1, 3, 27, 2, 6, 1, 2, 1, 0, 0, 3, 2, 6, 0, 2, 0, 0, 1, 1, 0, 6, 4, 2, 1, 1, 0, 1, 2, 2, 0, 3, 43, 2, 6, 1, 2, 1, 0, 0, 4, 2, 6, 0, 2, 0, 0, 1, 1, 2, 11, 0, 6, 4, 2, 1, 1, 0, 1, 2, 2, 0, 2, 6, 0, 2, 0, 1, 1, 3, 0, 2, 1, 3, 0, 99, 3, 43, 2, 6, 1, 2, 1, 0, 0, 5, 2, 6, 0, 2, 0, 0, 1, 1, 2, 11, 0, 6, 4, 2, 1, 1, 0, 1, 2, 2, 1, 2, 6, 0, 2, 0, 1, 1, 3, 0, 2, 1, 3, 0, 9, 3, 48, 2, 6, 1, 2, 1, 0, 0, 6, 2, 6, 0, 2, 0, 0, 1, 1, 2, 11, 0, 6, 4, 2, 1, 1, 0, 1, 2, 2, 0, 2, 6, 0, 2, 0, 0, 1, 3, 0, 6, 4, 2, 1, 3, 0, 1, 2, 2, 2, 2, 6, 1, 2, 1, 0, 0, 7, 2, 6, 0, 2, 0, 0, 1, 1, 2, 11, 0, 6, 4, 2, 1, 1, 0, 1, 2, 2, 1, 2, 6, 0, 2, 0, 0, 1, 3, 0, 2, 1, 3, 0, 1]), (20, [0], [60, 2, 3, 670, 0, 1, 14, 7, 8]), (20, [0], [60, 2, 2, 596, 0, 1, 7, 8])], [(2, (0, 0, 23, []))], [], [(20, [2, 0], [50, 1, 0, 1000, 2, 6, 0, 2, 0, 0, 1, 0, 0, 6, 4, 2, 1, 0, 0, 1, 2, 1, 0])], [], [])
theorem oo_Gr_perform_at_kx_6 {kA : Nat → ClassId} : or_ok PRD kA GG o_Gr_perform_at_kx_6 := by
  refine or_mk fun A ta ws vs hD hth hl => ?_
  intro t0 r0 t1 k1 t2 k2 t3 k3 t4 k4 t5 k5 t6 r6 t7 r7 f0 f1 f2 f3 f4 f5 f6
  replace f0 := shm_163 f0
  have g0 : v_iv (n_v vs 4) = w_fi ws (n_v vs 0) 0 := congrArg v_iv f0
  have kz_0_0 := fdq_21 hD hth r0
  have kz_0_1 := fdq_30 hD hth r0
  have kz_0_2 := fdq_20 hD hth r0
  have hrf0 : 0 ≤ v_iv (n_v vs 2) ∧ v_iv (n_v vs 2) ≤ 23 := vc_Gr_perform_at_kx_6_r0 (v_iv (n_v vs 1)) (v_iv (n_v vs 2)) (v_iv (n_v vs 3)) (v_iv (n_v vs 4)) (w_fi ws (n_v vs 0) 0) (w_fi ws (n_v vs 0) 1) (w_fi ws (n_v vs 0) 2) k1 k2 k3 k4 g0 (shm_1808 f4) kz_0_0 kz_0_1 kz_0_2
  have nf0 : fc_1 PRD (20, [2, 0], [50, 1, 0, 1000, 2, 6, 0, 2, 0, 0, 1, 0, 0, 6, 4, 2, 1, 0, 0, 1, 2, 1, 0]) ws (vs) := ⟨nf_in hl rfl, sgq_416 (vc_Gr_perform_at_kx_6_0 (v_iv (n_v vs 1)) (v_iv (n_v vs 2)) (v_iv (n_v vs 3)) (w_fi ws (n_v vs 0) 0) (w_fi ws (n_v vs 0) 1) (w_fi ws (n_v vs 0) 2) k1 k2 k3 (shm_1808 f4) kz_0_0 kz_0_1 kz_0_2)⟩
  have rf2 : tv_ok ta (0, 0, 23, []) (n_v vs 2) := tv_in t2 (by first | omega | grind) (by first | omega | grind)
  refine ⟨List.forall_mem_cons.mpr ⟨rf2, (fun _ h => (by cases h))⟩, [], trivial, ?_, (fun _ h => (by cases h))⟩
  rw [List.append_nil]
  exact List.forall_mem_cons.mpr ⟨⟨show (20 : Nat) < 100 from by decide, nf0⟩, (fun _ h => (by cases h))⟩
set_option maxHeartbeats 4000000 in
theorem vc_Gr_perform_at_kx_7_r0 (x1 : Int) (x2 : Int) (x3 : Int) (x4 : Int) (nodes_0 : Int) (edges_0 : Int) (groups_0 : Int) (k1 : 4 ≤ x1 ∧ x1 ≤ 4) (k2 : (-2147483648) ≤ x2 ∧ x2 ≤ 2147483647) (k3 : (-2147483648) ≤ x3 ∧ x3 ≤ 2147483647) (k4 : 0 ≤ x4 ∧ x4 ≤ 24) (g0 : x4 = nodes_0) (f4 : ((x1 = 0) ∧ ((0 ≤ x2) ∧ (((x2 + 1) ≤ groups_0) ∧ (nodes_0 ≤ 23)))) ∨ (((x1 = 1) ∧ ((0 ≤ x2) ∧ (((x2 + 1) ≤ nodes_0) ∧ ((0 ≤ x3) ∧ (((x3 + 1) ≤ nodes_0) ∧ ((edges_0 ≤ 47) ∧ (((x2 + 1) ≤ x3) ∨ ((x3 + 1) ≤ x2)))))))) ∨ (((x1 = 2) ∧ ((0 ≤ x2) ∧ ((x2 + 1) ≤ edges_0))) ∨ (((x1 = 3) ∧ ((0 ≤ x2) ∧ ((x2 + 1) ≤ nodes_0))) ∨ (((x1 = 4) ∧ ((0 ≤ x2) ∧ (((x2 + 1) ≤ nodes_0) ∧ ((1 ≤ x3) ∧ (x3 ≤ 99))))) ∨ (((x1 = 5) ∧ ((0 ≤ x2) ∧ (((x2 + 1) ≤ edges_0) ∧ ((1 ≤ x3) ∧ (x3 ≤ 9))))) ∨ (((x1 = 6) ∧ ((0 ≤ x2) ∧ (((x2 + 1) ≤ nodes_0) ∧ ((0 ≤ x3) ∧ ((x3 + 1) ≤ groups_0))))) ∨ ((x1 = 7) ∧ ((0 ≤ x2) ∧ (((x2 + 1) ≤ edges_0) ∧ ((0 ≤ x3) ∧ (x3 ≤ 1)))))))))))) (kz_0_0 : 0 ≤ nodes_0 ∧ nodes_0 ≤ 24) (kz_0_1 : 0 ≤ edges_0 ∧ edges_0 ≤ 48) (kz_0_2 : 0 ≤ groups_0 ∧ groups_0 ≤ 8) : 0 ≤ x2 ∧ x2 ≤ 23 := by
  first
    | omega
  
set_option maxHeartbeats 4000000 in
theorem vc_Gr_perform_at_kx_7_r1 (x1 : Int) (x2 : Int) (x3 : Int) (nodes_0 : Int) (edges_0 : Int) (groups_0 : Int) (k1 : 4 ≤ x1 ∧ x1 ≤ 4) (k2 : (-2147483648) ≤ x2 ∧ x2 ≤ 2147483647) (k3 : (-2147483648) ≤ x3 ∧ x3 ≤ 2147483647) (f4 : ((x1 = 0) ∧ ((0 ≤ x2) ∧ (((x2 + 1) ≤ groups_0) ∧ (nodes_0 ≤ 23)))) ∨ (((x1 = 1) ∧ ((0 ≤ x2) ∧ (((x2 + 1) ≤ nodes_0) ∧ ((0 ≤ x3) ∧ (((x3 + 1) ≤ nodes_0) ∧ ((edges_0 ≤ 47) ∧ (((x2 + 1) ≤ x3) ∨ ((x3 + 1) ≤ x2)))))))) ∨ (((x1 = 2) ∧ ((0 ≤ x2) ∧ ((x2 + 1) ≤ edges_0))) ∨ (((x1 = 3) ∧ ((0 ≤ x2) ∧ ((x2 + 1) ≤ nodes_0))) ∨ (((x1 = 4) ∧ ((0 ≤ x2) ∧ (((x2 + 1) ≤ nodes_0) ∧ ((1 ≤ x3) ∧ (x3 ≤ 99))))) ∨ (((x1 = 5) ∧ ((0 ≤ x2) ∧ (((x2 + 1) ≤ edges_0) ∧ ((1 ≤ x3) ∧ (x3 ≤ 9))))) ∨ (((x1 = 6) ∧ ((0 ≤ x2) ∧ (((x2 + 1) ≤ nodes_0) ∧ ((0 ≤ x3) ∧ ((x3 + 1) ≤ groups_0))))) ∨ ((x1 = 7) ∧ ((0 ≤ x2) ∧ (((x2 + 1) ≤ edges_0) ∧ ((0 ≤ x3) ∧ (x3 ≤ 1)))))))))))) (kz_0_0 : 0 ≤ nodes_0 ∧ nodes_0 ≤ 24) (kz_0_1 : 0 ≤ edges_0 ∧ edges_0 ≤ 48) (kz_0_2 : 0 ≤ groups_0 ∧ groups_0 ≤ 8) : 1 ≤ x3 ∧ x3 ≤ 99 := by
  first
    | omega
  
def o_Gr_perform_at_kx_7 : or_T := (102, 9, [(0, (2, 0, 0, [3])), (1, (0, 4, 4, [])), (2, (0, -2147483648, 2147483647, [])), (3, (0, -2147483648, 2147483647, [])), (4, (0, 0, 24, [])), (5, (0, 0, 48, [])), (6, (2, 0, 0, [52])), (7, (2, 0, 0, [53]))], [(9, [4, 0], [0]), (9, [5, 0], [1]), (9, [6, 0], [7]), (9, [7, 0], [8]), (20, [1, 2, 0, 3], [50, 3, 0, 2002, 2000, 2001, 3, 36, 2, 6, 1, 2, 1, 0, 0, 0, 2, 6, 0, 2, 0, 0, 1, 1, 2, 11, 0, 6, 4, 2, 1, 1, 0, 1, 2, 2, 2, 0, 3, 2, 2, 0, 0, 23, 3, 81, 2, 6, 1, 2, 1, 0, 0, 1, 2, 6, 0, 2, 0, 0, 1, 1, 2, 11, 0, 6, 4, 2, 1, 1, 0, 1, 2, 2, 0, 2, 6, 0, 2, 0, 0, 1, 3, 2, 11, 0, 6, 4, 2, 1, 3, 0, 1, 2, 2, 0, 2, 7, 0, 3, 2, 2, 1, 0, 47, 3, 10, 0, 6, 4, 2, 1, 1, 0, 1, 1, 3, 0, 6, 4, 2, 1, 3, 0, 1, 1, 1, 3, 27, 2, 6, 1, 2, 1, 0, 0, 2, 2, 6, 0, 2, 0, 0, 1, 1, 0, 6, 4, 2, 1, 1, 0, 1, 2, 2, 1, 3, 27, 2, 6, 1, 2, 1, 0, 0, 3, 2, 6, 0, 2, 0, 0, 1, 1, 0, 6, 4, 2, 1, 1, 0, 1, 2, 2, 0, 3, 43, 2, 6, 1, 2, 1, 0, 0, 4, 2, 6, 0, 2, 0, 0, 1, 1, 2, 11, 0, 6, 4, 2, 1, 1, 0, 1, 2, 2, 0, 2, 6, 0, 2, 0, 1, 1, 3, 0, 2, 1, 3, 0, 99, 3, 43, 2, 6, 1, 2, 1, 0, 0, 5, 2, 6, 0, 2, 0, 0, 1, 1, 2, 11, 0, 6, 4, 2, 1, 1, 0, 1, 2, 2, 1, 2, 6, 0, 2, 0, 1, 1, 3, 0, 2, 1, 3, 0, 9, 3, 48, 2, 6, 1, 2, 1, 0, 0, 6, 2, 6, 0, 2, 0, 0, 1, 1, 2, 11, 0, 6, 4, 2, 1, 1, 0, 1, 2, 2, 0, 2, 6, 0, 2, 0, 0, 1, 3, 0, 6, 4, 2, 1, 3, 0, 1, 2, 2, 2, 2, 6, 1, 2, 1, 0, 0, 7, 2, 6, 0, 2, 0, 0, 1, 1, 2, 11, 0, 6, 4, 2, 1, 1, 0, 1, 2, 2, 1, 2, 6, 0, 2, 0, 0, 1, 3, 0, 2, 1, 3, 0, 1]), (20, [0], [60, 2, 3, 670, 0, 1, 14, 7, 8]), (20, [0], [60, 2, 2, 596, 0, 1, 7, 8])], [(2, (0, 0, 23, [])), (3, (0, 1, 99, []))], [], [], [], [])
theorem oo_Gr_perform_at_kx_7 {kA : Nat → ClassId} : or_ok PRD kA GG o_Gr_perform_at_kx_7 := by
  refine or_mk fun A ta ws vs hD hth hl => ?_
  intro t0 r0 t1 k1 t2 k2 t3 k3 t4 k4 t5 k5 t6 r6 t7 r7 f0 f1 f2 f3 f4 f5 f6
  replace f0 := shm_163 f0
  have g0 : v_iv (n_v vs 4) = w_fi ws (n_v vs 0) 0 := congrArg v_iv f0
  have kz_0_0 := fdq_21 hD hth r0
  have kz_0_1 := fdq_30 hD hth r0
  have kz_0_2 := fdq_20 hD hth r0
  have hrf0 : 0 ≤ v_iv (n_v vs 2) ∧ v_iv (n_v vs 2) ≤ 23 := vc_Gr_perform_at_kx_7_r0 (v_iv (n_v vs 1)) (v_iv (n_v vs 2)) (v_iv (n_v vs 3)) (v_iv (n_v vs 4)) (w_fi ws (n_v vs 0) 0) (w_fi ws (n_v vs 0) 1) (w_fi ws (n_v vs 0) 2) k1 k2 k3 k4 g0 (shm_1808 f4) kz_0_0 kz_0_1 kz_0_2
  have hrf1 : 1 ≤ v_iv (n_v vs 3) ∧ v_iv (n_v vs 3) ≤ 99 := vc_Gr_perform_at_kx_7_r1 (v_iv (n_v vs 1)) (v_iv (n_v vs 2)) (v_iv (n_v vs 3)) (w_fi ws (n_v vs 0) 0) (w_fi ws (n_v vs 0) 1) (w_fi ws (n_v vs 0) 2) k1 k2 k3 (shm_1808 f4) kz_0_0 kz_0_1 kz_0_2
  have rf2 : tv_ok ta (0, 0, 23, []) (n_v vs 2) := tv_in t2 (by first | omega | grind) (by first | omega | grind)
  have rf3 : tv_ok ta (0, 1, 99, []) (n_v vs 3) := tv_in t3 (by first | omega | grind) (by first | omega | grind)
  refine ⟨List.forall_mem_cons.mpr ⟨rf2, List.forall_mem_cons.mpr ⟨rf3, (fun _ h => (by cases h))⟩⟩, [], trivial, ?_, (fun _ h => (by cases h))⟩
  rw [List.append_nil]
  exact (fun _ h => (by cases h))
set_option maxHeartbeats 4000000 in
theorem vc_Gr_perform_at_kx_8_r0 (x1 : Int) (x2 : Int) (x3 : Int) (x5 : Int) (nodes_0 : Int) (edges_0 : Int) (groups_0 : Int) (k1 : 5 ≤ x1 ∧ x1 ≤ 5) (k2 : (-2147483648) ≤ x2 ∧ x2 ≤ 2147483647) (k3 : (-2147483648) ≤ x3 ∧ x3 ≤ 2147483647) (k5 : 0 ≤ x5 ∧ x5 ≤ 48) (g1 : x5 = edges_0) (f4 : ((x1 = 0) ∧ ((0 ≤ x2) ∧ (((x2 + 1) ≤ groups_0) ∧ (nodes_0 ≤ 23)))) ∨ (((x1 = 1) ∧ ((0 ≤ x2) ∧ (((x2 + 1) ≤ nodes_0) ∧ ((0 ≤ x3) ∧ (((x3 + 1) ≤ nodes_0) ∧ ((edges_0 ≤ 47) ∧ (((x2 + 1) ≤ x3) ∨ ((x3 + 1) ≤ x2)))))))) ∨ (((x1 = 2) ∧ ((0 ≤ x2) ∧ ((x2 + 1) ≤ edges_0))) ∨ (((x1 = 3) ∧ ((0 ≤ x2) ∧ ((x2 + 1) ≤ nodes_0))) ∨ (((x1 = 4) ∧ ((0 ≤ x2) ∧ (((x2 + 1) ≤ nodes_0) ∧ ((1 ≤ x3) ∧ (x3 ≤ 99))))) ∨ (((x1 = 5) ∧ ((0 ≤ x2) ∧ (((x2 + 1) ≤ edges_0) ∧ ((1 ≤ x3) ∧ (x3 ≤ 9))))) ∨ (((x1 = 6) ∧ ((0 ≤ x2) ∧ (((x2 + 1) ≤ nodes_0) ∧ ((0 ≤ x3) ∧ ((x3 + 1) ≤ groups_0))))) ∨ ((x1 = 7) ∧ ((0 ≤ x2) ∧ (((x2 + 1) ≤ edges_0) ∧ ((0 ≤ x3) ∧ (x3 ≤ 1)))))))))))) (kz_0_0 : 0 ≤ nodes_0 ∧ nodes_0 ≤ 24) (kz_0_1 : 0 ≤ edges_0 ∧ edges_0 ≤ 48) (kz_0_2 : 0 ≤ groups_0 ∧ groups_0 ≤ 8) : 0 ≤ x2 ∧ x2 ≤ 47 := by
  first
    | omega
  
set_option maxHeartbeats 4000000 in
theorem vc_Gr_perform_at_kx_8_r1 (x1 : Int) (x2 : Int) (x3 : Int) (nodes_0 : Int) (edges_0 : Int) (groups_0 : Int) (k1 : 5 ≤ x1 ∧ x1 ≤ 5) (k2 : (-2147483648) ≤ x2 ∧ x2 ≤ 2147483647) (k3 : (-2147483648) ≤ x3 ∧ x3 ≤ 2147483647) (f4 : ((x1 = 0) ∧ ((0 ≤ x2) ∧ (((x2 + 1) ≤ groups_0) ∧ (nodes_0 ≤ 23)))) ∨ (((x1 = 1) ∧ ((0 ≤ x2) ∧ (((x2 + 1) ≤ nodes_0) ∧ ((0 ≤ x3) ∧ (((x3 + 1) ≤ nodes_0) ∧ ((edges_0 ≤ 47) ∧ (((x2 + 1) ≤ x3) ∨ ((x3 + 1) ≤ x2)))))))) ∨ (((x1 = 2) ∧ ((0 ≤ x2) ∧ ((x2 + 1) ≤ edges_0))) ∨ (((x1 = 3) ∧ ((0 ≤ x2) ∧ ((x2 + 1) ≤ nodes_0))) ∨ (((x1 = 4) ∧ ((0 ≤ x2) ∧ (((x2 + 1) ≤ nodes_0) ∧ ((1 ≤ x3) ∧ (x3 ≤ 99))))) ∨ (((x1 = 5) ∧ ((0 ≤ x2) ∧ (((x2 + 1) ≤ edges_0) ∧ ((1 ≤ x3) ∧ (x3 ≤ 9))))) ∨ (((x1 = 6) ∧ ((0 ≤ x2) ∧ (((x2 + 1) ≤ nodes_0) ∧ ((0 ≤ x3) ∧ ((x3 + 1) ≤ groups_0))))) ∨ ((x1 = 7) ∧ ((0 ≤ x2) ∧ (((x2 + 1) ≤ edges_0) ∧ ((0 ≤ x3) ∧ (x3 ≤ 1)))))))))))) (kz_0_0 : 0 ≤ nodes_0 ∧ nodes_0 ≤ 24) (kz_0_1 : 0 ≤ edges_0 ∧ edges_0 ≤ 48) (kz_0_2 : 0 ≤ groups_0 ∧ groups_0 ≤ 8) : 1 ≤ x3 ∧ x3 ≤ 9 := by
  first
    | omega
  
def o_Gr_perform_at_kx_8 : or_T := (112, 9, [(0, (2, 0, 0, [3])), (1, (0, 5, 5, [])), (2, (0, -2147483648, 2147483647, [])), (3, (0, -2147483648, 2147483647, [])), (4, (0, 0, 24, [])), (5, (0, 0, 48, [])), (6, (2, 0, 0, [52])), (7, (2, 0, 0, [53]))], [(9, [4, 0], [0]), (9, [5, 0], [1]), (9, [6, 0], [7]), (9, [7, 0], [8]), (20, [1, 2, 0, 3], [50, 3, 0, 2002, 2000, 2001, 3, 36, 2, 6, 1, 2, 1, 0, 0, 0, 2, 6, 0, 2, 0, 0, 1, 1, 2, 11, 0, 6, 4, 2, 1, 1, 0, 1, 2, 2, 2, 0, 3, 2, 2, 0, 0, 23, 3, 81, 2, 6, 1, 2, 1, 0, 0, 1, 2, 6, 0, 2, 0, 0, 1, 1, 2, 11, 0, 6, 4, 2, 1, 1, 0, 1, 2, 2, 0, 2, 6, 0, 2, 0, 0, 1, 3, 2, 11, 0, 6, 4, 2, 1, 3, 0, 1, 2, 2, 0, 2, 7, 0, 3, 2, 2, 1, 0, 47, 3, 10, 0, 6, 4, 2, 1, 1, 0, 1, 1, 3, 0, 6, 4, 2, 1, 3, 0, 1, 1, 1, 3, 27, 2, 6, 1, 2, 1, 0, 0, 2, 2, 6, 0, 2, 0, 0, 1, 1, 0, 6, 4, 2, 1, 1, 0, 1, 2, 2, 1, 3, 27, 2, 6, 1, 2, 1, 0, 0, 3, 2, 6, 0, 2, 0, 0, 1, 1, 0, 6, 4, 2, 1, 1, 0, 1, 2, 2, 0, 3, 43, 2, 6, 1, 2, 1, 0, 0, 4, 2, 6, 0, 2, 0, 0, 1, 1, 2, 11, 0, 6, 4, 2, 1, 1, 0, 1, 2, 2, 0, 2, 6, 0, 2, 0, 1, 1, 3, 0, 2, 1, 3, 0, 99, 3, 43, 2, 6, 1, 2, 1, 0, 0, 5, 2, 6, 0, 2, 0, 0, 1, 1, 2, 11, 0, 6, 4, 2, 1, 1, 0, 1, 2, 2, 1, 2, 6, 0, 2, 0, 1, 1, 3, 0, 2, 1, 3, 0, 9, 3, 48, 2, 6, 1, 2, 1, 0, 0, 6, 2, 6, 0, 2, 0, 0, 1, 1, 2, 11, 0, 6, 4, 2, 1, 1, 0, 1, 2, 2, 0, 2, 6, 0, 2, 0, 0, 1, 3, 0, 6, 4, 2, 1, 3, 0, 1, 2, 2, 2, 2, 6, 1, 2, 1, 0, 0, 7, 2, 6, 0, 2, 0, 0, 1, 1, 2, 11, 0, 6, 4, 2, 1, 1, 0, 1, 2, 2, 1, 2, 6, 0, 2, 0, 0, 1, 3, 0, 2, 1, 3, 0, 1]), (20, [0], [60, 2, 3, 670, 0, 1, 14, 7, 8]), (20, [0], [60, 2, 2, 596, 0, 1, 7, 8])], [(2, (0, 0, 47, [])), (3, (0, 1, 9, []))], [], [], [], [])
theorem oo_Gr_perform_at_kx_8 {kA : Nat → ClassId} : or_ok PRD kA GG o_Gr_perform_at_kx_8 := by
  refine or_mk fun A ta ws vs hD hth hl => ?_
  intro t0 r0 t1 k1 t2 k2 t3 k3 t4 k4 t5 k5 t6 r6 t7 r7 f0 f1 f2 f3 f4 f5 f6
  replace f1 := shm_215 f1
  have g1 : v_iv (n_v vs 5) = w_fi ws (n_v vs 0) 1 := congrArg v_iv f1
  have kz_0_0 := fdq_21 hD hth r0
  have kz_0_1 := fdq_30 hD hth r0
  have kz_0_2 := fdq_20 hD hth r0
  have hrf0 : 0 ≤ v_iv (n_v vs 2) ∧ v_iv (n_v vs 2) ≤ 47 := vc_Gr_perform_at_kx_8_r0 (v_iv (n_v vs 1)) (v_iv (n_v vs 2)) (v_iv (n_v vs 3)) (v_iv (n_v vs 5)) (w_fi ws (n_v vs 0) 0) (w_fi ws (n_v vs 0) 1) (w_fi ws (n_v vs 0) 2) k1 k2 k3 k5 g1 (shm_1808 f4) kz_0_0 kz_0_1 kz_0_2
  have hrf1 : 1 ≤ v_iv (n_v vs 3) ∧ v_iv (n_v vs 3) ≤ 9 := vc_Gr_perform_at_kx_8_r1 (v_iv (n_v vs 1)) (v_iv (n_v vs 2)) (v_iv (n_v vs 3)) (w_fi ws (n_v vs 0) 0) (w_fi ws (n_v vs 0) 1) (w_fi ws (n_v vs 0) 2) k1 k2 k3 (shm_1808 f4) kz_0_0 kz_0_1 kz_0_2
  have rf2 : tv_ok ta (0, 0, 47, []) (n_v vs 2) := tv_in t2 (by first | omega | grind) (by first | omega | grind)
  have rf3 : tv_ok ta (0, 1, 9, []) (n_v vs 3) := tv_in t3 (by first | omega | grind) (by first | omega | grind)
  refine ⟨List.forall_mem_cons.mpr ⟨rf2, List.forall_mem_cons.mpr ⟨rf3, (fun _ h => (by cases h))⟩⟩, [], trivial, ?_, (fun _ h => (by cases h))⟩
  rw [List.append_nil]
  exact (fun _ h => (by cases h))
set_option maxHeartbeats 4000000 in
theorem vc_Gr_perform_at_kx_9_r0 (x1 : Int) (x2 : Int) (x3 : Int) (x4 : Int) (nodes_0 : Int) (edges_0 : Int) (groups_0 : Int) (k1 : 6 ≤ x1 ∧ x1 ≤ 6) (k2 : (-2147483648) ≤ x2 ∧ x2 ≤ 2147483647) (k3 : (-2147483648) ≤ x3 ∧ x3 ≤ 2147483647) (k4 : 0 ≤ x4 ∧ x4 ≤ 24) (g0 : x4 = nodes_0) (f4 : ((x1 = 0) ∧ ((0 ≤ x2) ∧ (((x2 + 1) ≤ groups_0) ∧ (nodes_0 ≤ 23)))) ∨ (((x1 = 1) ∧ ((0 ≤ x2) ∧ (((x2 + 1) ≤ nodes_0) ∧ ((0 ≤ x3) ∧ (((x3 + 1) ≤ nodes_0) ∧ ((edges_0 ≤ 47) ∧ (((x2 + 1) ≤ x3) ∨ ((x3 + 1) ≤ x2)))))))) ∨ (((x1 = 2) ∧ ((0 ≤ x2) ∧ ((x2 + 1) ≤ edges_0))) ∨ (((x1 = 3) ∧ ((0 ≤ x2) ∧ ((x2 + 1) ≤ nodes_0))) ∨ (((x1 = 4) ∧ ((0 ≤ x2) ∧ (((x2 + 1) ≤ nodes_0) ∧ ((1 ≤ x3) ∧ (x3 ≤ 99))))) ∨ (((x1 = 5) ∧ ((0 ≤ x2) ∧ (((x2 + 1) ≤ edges_0) ∧ ((1 ≤ x3) ∧ (x3 ≤ 9))))) ∨ (((x1 = 6) ∧ ((0 ≤ x2) ∧ (((x2 + 1) ≤ nodes_0) ∧ ((0 ≤ x3) ∧ ((x3 + 1) ≤ groups_0))))) ∨ ((x1 = 7) ∧ ((0 ≤ x2) ∧ (((x2 + 1) ≤ edges_0) ∧ ((0 ≤ x3) ∧ (x3 ≤ 1)))))))))))) (kz_0_0 : 0 ≤ nodes_0 ∧ nodes_0 ≤ 24) (kz_0_1 : 0 ≤ edges_0 ∧ edges_0 ≤ 48) (kz_0_2 : 0 ≤ groups_0 ∧ groups_0 ≤ 8) : 0 ≤ x2 ∧ x2 ≤ 23 := by
  first
    | omega
  
set_option maxHeartbeats 4000000 in
theorem vc_Gr_perform_at_kx_9_r1 (x1 : Int) (x2 : Int) (x3 : Int) (nodes_0 : Int) (edges_0 : Int) (groups_0 : Int) (k1 : 6 ≤ x1 ∧ x1 ≤ 6) (k2 : (-2147483648) ≤ x2 ∧ x2 ≤ 2147483647) (k3 : (-2147483648) ≤ x3 ∧ x3 ≤ 2147483647) (f4 : ((x1 = 0) ∧ ((0 ≤ x2) ∧ (((x2 + 1) ≤ groups_0) ∧ (nodes_0 ≤ 23)))) ∨ (((x1 = 1) ∧ ((0 ≤ x2) ∧ (((x2 + 1) ≤ nodes_0) ∧ ((0 ≤ x3) ∧ (((x3 + 1) ≤ nodes_0) ∧ ((edges_0 ≤ 47) ∧ (((x2 + 1) ≤ x3) ∨ ((x3 + 1) ≤ x2)))))))) ∨ (((x1 = 2) ∧ ((0 ≤ x2) ∧ ((x2 + 1) ≤ edges_0))) ∨ (((x1 = 3) ∧ ((0 ≤ x2) ∧ ((x2 + 1) ≤ nodes_0))) ∨ (((x1 = 4) ∧ ((0 ≤ x2) ∧ (((x2 + 1) ≤ nodes_0) ∧ ((1 ≤ x3) ∧ (x3 ≤ 99))))) ∨ (((x1 = 5) ∧ ((0 ≤ x2) ∧ (((x2 + 1) ≤ edges_0) ∧ ((1 ≤ x3) ∧ (x3 ≤ 9))))) ∨ (((x1 = 6) ∧ ((0 ≤ x2) ∧ (((x2 + 1) ≤ nodes_0) ∧ ((0 ≤ x3) ∧ ((x3 + 1) ≤ groups_0))))) ∨ ((x1 = 7) ∧ ((0 ≤ x2) ∧ (((x2 + 1) ≤ edges_0) ∧ ((0 ≤ x3) ∧ (x3 ≤ 1)))))))))))) (kz_0_0 : 0 ≤ nodes_0 ∧ nodes_0 ≤ 24) (kz_0_1 : 0 ≤ edges_0 ∧ edges_0 ≤ 48) (kz_0_2 : 0 ≤ groups_0 ∧ groups_0 ≤ 8) : 0 ≤ x3 ∧ x3 ≤ 7 := by
  first
    | omega
  
def o_Gr_perform_at_kx_9 : or_T := (122, 9, [(0, (2, 0, 0, [3])), (1, (0, 6, 6, [])), (2, (0, -2147483648, 2147483647, [])), (3, (0, -2147483648, 2147483647, [])), (4, (0, 0, 24, [])), (5, (0, 0, 48, [])), (6, (2, 0, 0, [52])), (7, (2, 0, 0, [53]))], [(9, [4, 0], [0]), (9, [5, 0], [1]), (9, [6, 0], [7]), (9, [7, 0], [8]), (20, [1, 2, 0, 3], [50, 3, 0, 2002, 2000, 2001, 3, 36, 2, 6, 1, 2, 1, 0, 0, 0, 2, 6, 0, 2, 0, 0, 1, 1, 2, 11, 0, 6, 4, 2, 1, 1, 0, 1, 2, 2, 2, 0, 3, 2, 2, 0, 0, 23, 3, 81, 2, 6, 1, 2, 1, 0, 0, 1, 2, 6, 0, 2, 0, 0, 1, 1, 2, 11, 0, 6, 4, 2, 1, 1, 0, 1, 2, 2, 0, 2, 6, 0, 2, 0, 0, 1, 3, 2, 11, 0, 6, 4, 2, 1, 3, 0, 1, 2, 2, 0, 2, 7, 0, 3, 2, 2, 1, 0, 47, 3, 10, 0, 6, 4, 2, 1, 1, 0, 1, 1, 3, 0, 6, 4, 2, 1, 3, 0, 1, 1, 1, 3, 27, 2, 6, 1, 2, 1, 0, 0, 2, 2, 6, 0, 2, 0, 0, 1, 1, 0, 6, 4, 2, 1, 1, 0, 1, 2, 2, 1, 3, 27, 2, 6, 1, 2, 1, 0, 0, 3, 2, 6, 0, 2, 0, 0, 1, 1, 0, 6, 4, 2, 1, 1, 0, 1, 2, 2, 0, 3, 43, 2, 6, 1, 2, 1, 0, 0, 4, 2, 6, 0, 2, 0, 0, 1, 1, 2, 11, 0, 6, 4, 2, 1, 1, 0, 1, 2, 2, 0, 2, 6, 0, 2, 0, 1, 1, 3, 0, 2, 1, 3, 0, 99, 3, 43, 2, 6, 1, 2, 1, 0, 0, 5, 2, 6, 0, 2, 0, 0, 1, 1, 2, 11, 0, 6, 4, 2, 1, 1, 0, 1, 2, 2, 1, 2, 6, 0, 2, 0, 1, 1, 3, 0, 2, 1, 3, 0, 9, 3, 48, 2, 6, 1, 2, 1, 0, 0, 6, 2, 6, 0, 2, 0, 0, 1, 1, 2, 11, 0, 6, 4, 2, 1, 1, 0, 1, 2, 2, 0, 2, 6, 0, 2, 0, 0, 1, 3, 0, 6, 4, 2, 1, 3, 0, 1, 2, 2, 2, 2, 6, 1, 2, 1, 0, 0, 7, 2, 6, 0, 2, 0, 0, 1, 1, 2, 11, 0, 6, 4, 2, 1, 1, 0, 1, 2, 2, 1, 2, 6, 0, 2, 0, 0, 1, 3, 0, 2, 1, 3, 0, 1]), (20, [0], [60, 2, 3, 670, 0, 1, 14, 7, 8]), (20, [0], [60, 2, 2, 596, 0, 1, 7, 8])], [(2, (0, 0, 23, [])), (3, (0, 0, 7, []))], [], [], [], [])
theorem oo_Gr_perform_at_kx_9 {kA : Nat → ClassId} : or_ok PRD kA GG o_Gr_perform_at_kx_9 := by
  refine or_mk fun A ta ws vs hD hth hl => ?_
  intro t0 r0 t1 k1 t2 k2 t3 k3 t4 k4 t5 k5 t6 r6 t7 r7 f0 f1 f2 f3 f4 f5 f6
  replace f0 := shm_163 f0
  have g0 : v_iv (n_v vs 4) = w_fi ws (n_v vs 0) 0 := congrArg v_iv f0
  have kz_0_0 := fdq_21 hD hth r0
  have kz_0_1 := fdq_30 hD hth r0
  have kz_0_2 := fdq_20 hD hth r0
  have hrf0 : 0 ≤ v_iv (n_v vs 2) ∧ v_iv (n_v vs 2) ≤ 23 := vc_Gr_perform_at_kx_9_r0 (v_iv (n_v vs 1)) (v_iv (n_v vs 2)) (v_iv (n_v vs 3)) (v_iv (n_v vs 4)) (w_fi ws (n_v vs 0) 0) (w_fi ws (n_v vs 0) 1) (w_fi ws (n_v vs 0) 2) k1 k2 k3 k4 g0 (shm_1808 f4) kz_0_0 kz_0_1 kz_0_2
  have hrf1 : 0 ≤ v_iv (n_v vs 3) ∧ v_iv (n_v vs 3) ≤ 7 := vc_Gr_perform_at_kx_9_r1 (v_iv (n_v vs 1)) (v_iv (n_v vs 2)) (v_iv (n_v vs 3)) (w_fi ws (n_v vs 0) 0) (w_fi ws (n_v vs 0) 1) (w_fi ws (n_v vs 0) 2) k1 k2 k3 (shm_1808 f4) kz_0_0 kz_0_1 kz_0_2
  have rf2 : tv_ok ta (0, 0, 23, []) (n_v vs 2) := tv_in t2 (by first | omega | grind) (by first | omega | grind)
  have rf3 : tv_ok ta (0, 0, 7, []) (n_v vs 3) := tv_in t3 (by first | omega | grind) (by first | omega | grind)
  refine ⟨List.forall_mem_cons.mpr ⟨rf2, List.forall_mem_cons.mpr ⟨rf3, (fun _ h => (by cases h))⟩⟩, [], trivial, ?_, (fun _ h => (by cases h))⟩
  rw [List.append_nil]
  exact (fun _ h => (by cases h))
def n_Gr_perform_at_kx_an : List an_T := []
def t_Gr_perform_at_kx_ct : ct_L := [(1, 83, e_Gr_relink), (1, 118, e_Gr_nextName), (1, 143, e_Gr_removeNode), (196, 133, e_Gr_addNode_at_Gr_newGrperform45), (220, 137, e_Gr_addEdge_at_Gr), (238, 140, e_Gr_removeEdge_at_gx)]
set_option maxRecDepth 100000 in
theorem c_Gr_perform_at_kx {l : Launch} {D : va_G} {kA : Nat → ClassId} (h_Gr_addEdge_at_Gr : ct_ok PRD l D kA GG y_Gr_addEdge_at_Gr z_Gr_addEdge_at_Gr e_Gr_addEdge_at_Gr) (h_Gr_addNode_at_Gr_newGrperform45 : ct_ok PRD l D kA GG y_Gr_addNode_at_Gr_newGrperform45 z_Gr_addNode_at_Gr_newGrperform45 e_Gr_addNode_at_Gr_newGrperform45) (h_Gr_nextName : ct_ok PRD l D kA GG y_Gr_nextName z_Gr_nextName e_Gr_nextName) (h_Gr_relink : ct_ok PRD l D kA GG y_Gr_relink z_Gr_relink e_Gr_relink) (h_Gr_removeEdge_at_gx : ct_ok PRD l D kA GG y_Gr_removeEdge_at_gx z_Gr_removeEdge_at_gx e_Gr_removeEdge_at_gx) (h_Gr_removeNode : ct_ok PRD l D kA GG y_Gr_removeNode z_Gr_removeNode e_Gr_removeNode) : ct_ok PRD l D kA GG y_Gr_perform_at_kx z_Gr_perform_at_kx e_Gr_perform_at_kx := chk_all_ok (FT := [(29, 3, 5), (32, 3, 6), (41, 3, 9), (44, 3, 10)]) (PT := []) (CT := t_Gr_perform_at_kx_ct) (KT := []) (NT := [(45, 297, .byte)]) (AN := n_Gr_perform_at_kx_an) (OT := [o_Gr_perform_at_kx_0, o_Gr_perform_at_kx_1, o_Gr_perform_at_kx_2, o_Gr_perform_at_kx_3, o_Gr_perform_at_kx_4, o_Gr_perform_at_kx_5, o_Gr_perform_at_kx_6, o_Gr_perform_at_kx_7, o_Gr_perform_at_kx_8, o_Gr_perform_at_kx_9]) 0 268 (List.forall_mem_cons.mpr ⟨oo_Gr_perform_at_kx_0, List.forall_mem_cons.mpr ⟨oo_Gr_perform_at_kx_1, List.forall_mem_cons.mpr ⟨oo_Gr_perform_at_kx_2, List.forall_mem_cons.mpr ⟨oo_Gr_perform_at_kx_3, List.forall_mem_cons.mpr ⟨oo_Gr_perform_at_kx_4, List.forall_mem_cons.mpr ⟨oo_Gr_perform_at_kx_5, List.forall_mem_cons.mpr ⟨oo_Gr_perform_at_kx_6, List.forall_mem_cons.mpr ⟨oo_Gr_perform_at_kx_7, List.forall_mem_cons.mpr ⟨oo_Gr_perform_at_kx_8, List.forall_mem_cons.mpr ⟨oo_Gr_perform_at_kx_9, List.forall_mem_nil _⟩⟩⟩⟩⟩⟩⟩⟩⟩⟩) (by decide +kernel) ⟨List.forall_mem_cons.mpr ⟨gf_Gr_29, List.forall_mem_cons.mpr ⟨gf_Gr_32, List.forall_mem_cons.mpr ⟨gf_Gr_41, List.forall_mem_cons.mpr ⟨gf_Gr_44, List.forall_mem_nil _⟩⟩⟩⟩, List.forall_mem_nil _, List.forall_mem_cons.mpr ⟨cl_virtual (y := y_Gr_relink) (ci := 3) rfl rfl ⟨_, _, rfl⟩ (by decide +kernel) h_Gr_relink wm_785 wm_3 wm_782 wm_784 wv_1_12 ⟨by decide, by decide, by decide +kernel⟩ (by decide), List.forall_mem_cons.mpr ⟨cl_virtual (y := y_Gr_nextName) (ci := 3) rfl rfl ⟨_, _, rfl⟩ (by decide +kernel) h_Gr_nextName wm_967 wm_3 wm_964 wm_966 wv_2_13 ⟨by decide, by decide, by decide +kernel⟩ (by decide), List.forall_mem_cons.mpr ⟨cl_virtual (y := y_Gr_removeNode) (ci := 3) rfl rfl ⟨_, _, rfl⟩ (by decide +kernel) h_Gr_removeNode wm_997 wm_3 wm_994 wm_996 wv_3_2 ⟨by decide, by decide, by decide +kernel⟩ (by decide), List.forall_mem_cons.mpr ⟨cl_virtual (y := y_Gr_addNode_at_Gr_newGrperform45) (ci := 3) rfl rfl ⟨_, _, rfl⟩ (by decide +kernel) h_Gr_addNode_at_Gr_newGrperform45 wm_747 wm_3 wm_988 wm_745 wm_746 ⟨by decide, by decide, by decide +kernel⟩ (by decide), List.forall_mem_cons.mpr ⟨cl_virtual (y := y_Gr_addEdge_at_Gr) (ci := 3) rfl rfl ⟨_, _, rfl⟩ (by decide +kernel) h_Gr_addEdge_at_Gr wm_772 wm_3 wm_989 wm_770 wm_771 ⟨by decide, by decide, by decide +kernel⟩ (by decide), List.forall_mem_cons.mpr ⟨cl_virtual (y := y_Gr_removeEdge_at_gx) (ci := 3) rfl rfl ⟨_, _, rfl⟩ (by decide +kernel) h_Gr_removeEdge_at_gx wm_993 wm_3 wm_990 wm_992 wv_3_1 ⟨by decide, by decide, by decide +kernel⟩ (by decide), List.forall_mem_nil _⟩⟩⟩⟩⟩⟩, List.forall_mem_nil _, List.forall_mem_cons.mpr ⟨wm_192, List.forall_mem_nil _⟩, GG_pl⟩ (by decide +kernel)
set_option maxHeartbeats 4000000 in
theorem vc_Mo_matrix_0_0 (x2 : Int) (all_0 : Int → Int) (r_0 : Int) (k2 : 0 ≤ x2 ∧ x2 ≤ 24) (f0 : 1 * x2 + ((-1) * all_0 (r_0 + 0) + 0) ≤ 0) (f1 : (-1) * x2 + (1 * all_0 (r_0 + 0) + 0) ≤ 0) : x2 = all_0 ((r_0 + 0)) := by
  first | assumption | omega | grind
def o_Mo_matrix_0 : or_T := (5, 3, [(2, (0, 0, 24, []))], [(20, [2, 0], [30, 0, 1, 0, 0, -1, 3, 2005000]), (20, [2, 0], [30, 0, -1, 0, 0, 1, 3, 2005000])], [], [], [(20, [2, 0], [50, 1, 1, 1005, 1002, 1, 2, 1, 0, 3, 1, 2, 4, 3, 2, 1, 5, 0, 0])], [], [])
set_option maxHeartbeats 8000000 in
theorem oo_Mo_matrix_0 {kA : Nat → ClassId} : or_ok PRD kA GG o_Mo_matrix_0 := by
  refine or_mk fun A ta ws vs hD hth hl => ?_
  intro t2 k2 f0 f1
  have nf0 : fc_1 PRD (20, [2, 0], [50, 1, 1, 1005, 1002, 1, 2, 1, 0, 3, 1, 2, 4, 3, 2, 1, 5, 0, 0]) ws (vs) := ⟨nf_in hl rfl, sgq_1809 (vc_Mo_matrix_0_0 (v_iv (n_v vs 2)) (w_ei ws (w_ar ws (n_v vs 0) 2)) (w_fi ws (n_v vs 0) 5) k2 (shm_126 f0) (shm_127 f1))⟩
  refine ⟨(fun _ h => (by cases h)), [], trivial, ?_, (fun _ h => (by cases h))⟩
  rw [List.append_nil]
  exact List.forall_mem_cons.mpr ⟨⟨show (20 : Nat) < 100 from by decide, nf0⟩, (fun _ h => (by cases h))⟩
set_option maxHeartbeats 4000000 in
theorem vc_Mo_matrix_1_0 (x2 : Int) (x5 : Int) (all_0 : Int → Int) (r_0 : Int) (left_0 : Int → Int) (k2 : 0 ≤ x2 ∧ x2 ≤ 24) (k5 : 0 ≤ x5 ∧ x5 ≤ 0) (f0 : x2 = all_0 ((r_0 + 0))) (f1 : 1 * x2 + ((-1) * all_0 (r_0 + 0) + 0) ≤ 0) (f2 : (-1) * x2 + (1 * all_0 (r_0 + 0) + 0) ≤ 0) (hK_0_22 : ∀ j : Int, 0 ≤ j → j < 25 → 0 ≤ left_0 j ∧ left_0 j ≤ 1) : ∀ j0 : Int, 0 ≤ j0 → j0 < x5 → (left_0 (j0) = 1) := by
  first | assumption | grind | omega
def o_Mo_matrix_1 : or_T := (13, 6, [(0, (2, 0, 0, [165])), (2, (0, 0, 24, [])), (5, (0, 0, 0, []))], [(20, [2, 0], [50, 1, 1, 1005, 1002, 1, 2, 1, 0, 3, 1, 2, 4, 3, 2, 1, 5, 0, 0]), (20, [2, 0], [30, 0, 1, 0, 0, -1, 3, 2005000]), (20, [2, 0], [30, 0, -1, 0, 0, 1, 3, 2005000])], [], [], [(20, [5, 0], [50, 0, 1, 1022, 5, 2, 1, 0, 1, 5, 3, 1, 22, 7, 0, 0, 1])], [], [])
set_option maxHeartbeats 8000000 in
theorem oo_Mo_matrix_1 {kA : Nat → ClassId} : or_ok PRD kA GG o_Mo_matrix_1 := by
  refine or_mk fun A ta ws vs hD hth hl => ?_
  intro t0 r0 t2 k2 t5 k5 f0 f1 f2
  have cr_0_22 := fdq_240 hD hth r0
  have hK_0_22 := elq_148 hD hth cr_0_22
  have nf0 : fc_1 PRD (20, [5, 0], [50, 0, 1, 1022, 5, 2, 1, 0, 1, 5, 3, 1, 22, 7, 0, 0, 1]) ws (vs) := ⟨nf_in hl rfl, sgq_1810 (vc_Mo_matrix_1_0 (v_iv (n_v vs 2)) (v_iv (n_v vs 5)) (w_ei ws (w_ar ws (n_v vs 0) 2)) (w_fi ws (n_v vs 0) 5) (w_ei ws (w_ar ws (n_v vs 0) 22)) k2 k5 (shm_1809 f0) (shm_126 f1) (shm_127 f2) hK_0_22)⟩
  refine ⟨(fun _ h => (by cases h)), [], trivial, ?_, (fun _ h => (by cases h))⟩
  rw [List.append_nil]
  exact List.forall_mem_cons.mpr ⟨⟨show (20 : Nat) < 100 from by decide, nf0⟩, (fun _ h => (by cases h))⟩
def o_Mo_matrix_2 : or_T := (33, 6, [(0, (2, 0, 0, [165])), (2, (0, 0, 24, [])), (3, (0, 0, 0, [])), (4, (0, 0, 0, [])), (5, (0, 0, 24, []))], [(7, [5, 2], [3]), (20, [2, 0], [50, 1, 1, 1005, 1002, 1, 2, 1, 0, 3, 1, 2, 4, 3, 2, 1, 5, 0, 0]), (20, [5, 0], [50, 0, 1, 1022, 5, 2, 1, 0, 1, 5, 3, 1, 22, 7, 0, 0, 1])], [], [(0, 0, 24, [])], [(20, [2, 0], [50, 1, 1, 1005, 1002, 1, 2, 1, 0, 3, 1, 2, 4, 3, 2, 1, 5, 0, 0]), (20, [0, 2, 3], [50, 0, 1, 22, 1, 8, 15, 0, 22, 2, 1, 1, 0, 0, 1, 2]), (23, [4, 3], [0, 1, -1]), (23, [3, 2], [0, 1, -1]), (20, [6, 4], [30, 24, 1, 0, 0, 1, 0, 0]), (20, [6, 4], [30, -24, -1, 0, 0, -1, 0, 0])], [], [(5, 2, 0, 4294967296), (5, 2, -4294967296, 0)])
set_option maxHeartbeats 8000000 in
theorem oo_Mo_matrix_2 {kA : Nat → ClassId} : or_ok PRD kA GG o_Mo_matrix_2 := by
  refine or_mk fun A ta ws vs hD hth hl => ?_
  intro t0 r0 t2 k2 t3 k3 t4 k4 t5 k5 d0 d1 f0 f1 f2
  replace f0 := shm_2 f0
  replace f1 := shm_1809 f1
  replace f2 := shm_1810 f2
  have cr_0_2 := fdq_10 hD hth r0
  have cr_0_22 := fdq_240 hD hth r0
  have hK_0_22 := elq_148 hD hth cr_0_22
  first | have hCb0_0 := cnt_bd (w_ei ws (w_ar ws (n_v vs 0) 22)) (0) (n := (v_iv (n_v vs 2))) (by omega) | skip
  have hN : (∀ j : Int, 0 ≤ j → j < v_iv (n_v vs 2) → w_ei ws (w_ar ws (n_v vs 0) 22) j = 1) → cntE (w_ei ws (w_ar ws (n_v vs 0) 22)) 0 (v_iv (n_v vs 2)) = 0 := fun h => cnt_none (fun j h0 h1 => by have := h j h0 (by omega); omega)
  obtain ⟨x, ex, hx⟩ := iv_ex (ta := ta) (lo := 0) (hi := 24) (z := 24 + ((-1) * v_iv (n_v vs 4) + 0)) (by omega) (by omega) (by omega) (by omega)
  have ex2 : v_iv (Value.int x) = 24 + ((-1) * v_iv (n_v vs 4) + 0) := ex
  have ex3 : 0 ≤ v_iv (Value.int x) ∧ v_iv (Value.int x) ≤ 24 := tv_rng hx
  have e_0 : n_v (vs ++ [Value.int x]) 0 = n_v vs 0 := n_v_old (by rw [hl]; decide)
  have e_2 : n_v (vs ++ [Value.int x]) 2 = n_v vs 2 := n_v_old (by rw [hl]; decide)
  have e_3 : n_v (vs ++ [Value.int x]) 3 = n_v vs 3 := n_v_old (by rw [hl]; decide)
  have e_4 : n_v (vs ++ [Value.int x]) 4 = n_v vs 4 := n_v_old (by rw [hl]; decide)
  have e_6 : n_v (vs ++ [Value.int x]) 6 = Value.int x := n_v_new hl
  have nf0 : fc_1 PRD (20, [2, 0], [50, 1, 1, 1005, 1002, 1, 2, 1, 0, 3, 1, 2, 4, 3, 2, 1, 5, 0, 0]) ws (vs ++ [Value.int x]) := by
    refine ⟨nf_inA hl rfl, sgq_1809 ?_⟩
    · show v_iv (n_v (vs ++ [Value.int x]) 2) = w_ei ws (w_ar ws (n_v (vs ++ [Value.int x]) 0) 2) ((w_fi ws (n_v (vs ++ [Value.int x]) 0) 5 + 0))
      simp only [e_0, e_2]
      first | (omega) | (set_option maxHeartbeats 200000 in grind)
  have nf1 : fc_1 PRD (20, [0, 2, 3], [50, 0, 1, 22, 1, 8, 15, 0, 22, 2, 1, 1, 0, 0, 1, 2]) ws (vs ++ [Value.int x]) := by
    refine ⟨nf_inA hl rfl, sgq_1811 ?_⟩
    · show cntE (w_ei ws (w_ar ws (n_v (vs ++ [Value.int x]) 0) 22)) (0) (v_iv (n_v (vs ++ [Value.int x]) 2)) = v_iv (n_v (vs ++ [Value.int x]) 3)
      simp only [e_0, e_2, e_3]
      first | (omega) | (set_option maxHeartbeats 200000 in grind)
  have nf2 : fc_1 PRD (23, [4, 3], [0, 1, -1]) ws (vs ++ [Value.int x]) := by
    refine ⟨nf_inA hl rfl, sgq_7 ?_⟩
    · show 1 * v_iv (n_v (vs ++ [Value.int x]) 4) + ((-1) * v_iv (n_v (vs ++ [Value.int x]) 3) + 0) ≤ 0
      simp only [e_3, e_4]
      omega
  have nf3 : fc_1 PRD (23, [3, 2], [0, 1, -1]) ws (vs ++ [Value.int x]) := by
    refine ⟨nf_inA hl rfl, sgq_7 ?_⟩
    · show 1 * v_iv (n_v (vs ++ [Value.int x]) 3) + ((-1) * v_iv (n_v (vs ++ [Value.int x]) 2) + 0) ≤ 0
      simp only [e_2, e_3]
      omega
  have nf4 : fc_1 PRD (20, [6, 4], [30, 24, 1, 0, 0, 1, 0, 0]) ws (vs ++ [Value.int x]) := by
    refine ⟨nf_inA hl rfl, sgq_1812 ?_⟩
    · show 1 * v_iv (n_v (vs ++ [Value.int x]) 6) + (1 * v_iv (n_v (vs ++ [Value.int x]) 4) + 0) ≤ 24
      simp only [e_4, e_6]
      omega
  have nf5 : fc_1 PRD (20, [6, 4], [30, -24, -1, 0, 0, -1, 0, 0]) ws (vs ++ [Value.int x]) := by
    refine ⟨nf_inA hl rfl, sgq_1813 ?_⟩
    · show (-1) * v_iv (n_v (vs ++ [Value.int x]) 6) + ((-1) * v_iv (n_v (vs ++ [Value.int x]) 4) + 0) ≤ (-24)
      simp only [e_4, e_6]
      omega
  exact ⟨(fun _ h => (by cases h)), [Value.int x], ag_one hx, List.forall_mem_cons.mpr ⟨⟨show (20 : Nat) < 100 from by decide, nf0⟩, List.forall_mem_cons.mpr ⟨⟨show (20 : Nat) < 100 from by decide, nf1⟩, List.forall_mem_cons.mpr ⟨⟨show (23 : Nat) < 100 from by decide, nf2⟩, List.forall_mem_cons.mpr ⟨⟨show (23 : Nat) < 100 from by decide, nf3⟩, List.forall_mem_cons.mpr ⟨⟨show (20 : Nat) < 100 from by decide, nf4⟩, List.forall_mem_cons.mpr ⟨⟨show (20 : Nat) < 100 from by decide, nf5⟩, (fun _ h => (by cases h))⟩⟩⟩⟩⟩⟩, (fun _ h => (by cases h))⟩
set_option maxHeartbeats 4000000 in
theorem vc_Mo_matrix_3_0 (x2 : Int) (x5 : Int) (x7 : Int) (x8 : Int) (all_0 : Int → Int) (r_0 : Int) (all_1 : Int → Int) (r_1 : Int) (left_1 : Int → Int) (left_0 : Int → Int) (k2 : 1 ≤ x2 ∧ x2 ≤ 24) (k5 : 0 ≤ x5 ∧ x5 ≤ 23) (k7 : 1 ≤ x7 ∧ x7 ≤ 1) (k8 : 1 ≤ x8 ∧ x8 ≤ 24) (d0 : x5 + 1 ≤ x8 ∧ x8 ≤ x5 + 1) (d1 : x2 + (-4294967296) ≤ x8 ∧ x8 ≤ x2 + 0) (d2 : x2 + (-4294967296) ≤ x8 ∧ x8 ≤ x2 + 1) (d3 : x2 + (-4294967296) ≤ x5 ∧ x5 ≤ x2 + (-1)) (d4 : x2 + (-4294967296) ≤ x5 ∧ x5 ≤ x2 + 0) (f0 : x8 = x5 + 1) (f1 : x2 = all_0 ((r_0 + 0))) (f4 : x5 < x2) (f5 : x2 = all_1 ((r_1 + 0))) (f6 : ∀ j0 : Int, 0 ≤ j0 → j0 < x5 → (left_1 (j0) = 1)) (fe_0_5_1 : r_0 = r_1) (hE_0_2_1 : ∀ j : Int, all_0 j = all_1 j) (hE_0_22_1 : ∀ j : Int, 0 ≤ j → (j = x5 → left_0 j = x7) ∧ (j ≠ x5 → left_0 j = left_1 j)) (hK_0_22 : ∀ j : Int, 0 ≤ j → j < 25 → 0 ≤ left_0 j ∧ left_0 j ≤ 1) : ∀ j0 : Int, 0 ≤ j0 → j0 < x8 → (left_0 (j0) = 1) := by
  subst fe_0_5_1
  have e_hE_0_2_1 := funext hE_0_2_1; subst e_hE_0_2_1
  first | assumption | grind | omega
def o_Mo_matrix_3 : or_T := (13, 9, [(0, (2, 0, 0, [165])), (2, (0, 1, 24, [])), (5, (0, 0, 23, [])), (6, (2, 0, 0, [177])), (7, (0, 1, 1, [])), (8, (0, 1, 24, []))], [(6, [8, 5], [1]), (20, [2, 0], [50, 1, 1, 1005, 1002, 1, 2, 1, 0, 3, 1, 2, 4, 3, 2, 1, 5, 0, 0]), (100, [6, 5, 7], []), (9, [6, 0], [22]), (7, [5, 2], [2]), (20, [2, 0], [50, 1, 1, 1005, 1002, 1, 2, 1, 0, 3, 1, 2, 4, 3, 2, 1, 5, 0, 0]), (20, [5, 0], [50, 0, 1, 1022, 5, 2, 1, 0, 1, 5, 3, 1, 22, 7, 0, 0, 1])], [], [], [(20, [8, 0], [50, 0, 1, 1022, 5, 2, 1, 0, 1, 5, 3, 1, 22, 7, 0, 0, 1])], [], [(8, 5, 1, 1), (8, 2, -4294967296, 0), (8, 2, -4294967296, 1), (5, 2, -4294967296, -1), (5, 2, -4294967296, 0)])
set_option maxHeartbeats 8000000 in
theorem oo_Mo_matrix_3 {kA : Nat → ClassId} : or_ok PRD kA GG o_Mo_matrix_3 := by
  refine or_mk fun A ta ws vs hD hth hl => ?_
  intro t0 r0 t2 k2 t5 k5 t6 r6 t7 k7 t8 k8 d0 d1 d2 d3 d4 f0 f1 ta1 w1 le1 s1 f3 f4 f5 f6
  replace f0 := shm_4 f0
  replace f1 := shm_1809 f1
  have s1 : (∀ b j, w_el ws b j = if b = v_ad (n_v vs 6) ∧ j = (v_iv (n_v vs 5)).toNat then v_iv (n_v vs 7) else w_el w1 b j) ∧ ∀ b k, w_fd ws b k = w_fd w1 b k := s1.2
  replace f3 := shm_1026 f3
  replace f4 := shm_6 f4
  replace f5 := shm_1809 f5
  replace f6 := shm_1810 f6
  have ar_0_2_1 : w_ar w1 (n_v vs 0) 2 = w_ar ws (n_v vs 0) 2 := congrArg v_ad (s1.2 _ _).symm
  have cr_0_2 := fdq_10 hD hth r0
  have ar_0_22_1 : w_ar w1 (n_v vs 0) 22 = w_ar ws (n_v vs 0) 22 := congrArg v_ad (s1.2 _ _).symm
  have cr_0_22 := fdq_240 hD hth r0
  have ad_6 : v_ad (n_v vs 6) = w_ar ws (n_v vs 0) 22 := (congrArg v_ad f3).trans ar_0_22_1
  simp only [ar_0_2_1, ar_0_22_1] at f5 f6
  have fe_0_5_1 : w_fi ws (n_v vs 0) 5 = w_fi w1 (n_v vs 0) 5 := congrArg v_iv (s1.2 _ _)
  have hE_0_2_1 : ∀ j : Int, w_ei ws (w_ar ws (n_v vs 0) 2) j = w_ei w1 (w_ar ws (n_v vs 0) 2) j := el_kp s1.1 r6 cr_0_2 (by decide)
  have hE_0_22_1 : ∀ j : Int, 0 ≤ j → (j = v_iv (n_v vs 5) → w_ei ws (w_ar ws (n_v vs 0) 22) j = v_iv (n_v vs 7)) ∧ (j ≠ v_iv (n_v vs 5) → w_ei ws (w_ar ws (n_v vs 0) 22) j = w_ei w1 (w_ar ws (n_v vs 0) 22) j) := fun j hj => ⟨fun h => by unfold w_ei; rw [s1.1, if_pos ⟨ad_6.symm, by rw [h]⟩], fun h => by unfold w_ei; rw [s1.1, if_neg (fun e => h (by have := e.2; omega))]⟩
  have hK_0_22 := elq_148 hD hth cr_0_22
  first | have qi1 := (hE_0_22_1 (v_iv (n_v vs 5)) (by omega)).1 (by omega) | have qi1 := (hE_0_22_1 (v_iv (n_v vs 5)) (by omega)).2 (by omega) | skip
  first | have qi2 := f6 (v_iv (n_v vs 5)) (by omega) (by omega) | skip
  first | have qi3 := hK_0_22 (v_iv (n_v vs 5)) (by omega) (by omega) | skip
  have nf0 : fc_1 PRD (20, [8, 0], [50, 0, 1, 1022, 5, 2, 1, 0, 1, 5, 3, 1, 22, 7, 0, 0, 1]) ws (vs) := ⟨nf_in hl rfl, sgq_1810 (vc_Mo_matrix_3_0 (v_iv (n_v vs 2)) (v_iv (n_v vs 5)) (v_iv (n_v vs 7)) (v_iv (n_v vs 8)) (w_ei ws (w_ar ws (n_v vs 0) 2)) (w_fi ws (n_v vs 0) 5) (w_ei w1 (w_ar ws (n_v vs 0) 2)) (w_fi w1 (n_v vs 0) 5) (w_ei w1 (w_ar ws (n_v vs 0) 22)) (w_ei ws (w_ar ws (n_v vs 0) 22)) k2 k5 k7 k8 d0 d1 d2 d3 d4 f0 f1 f4 f5 f6 fe_0_5_1 hE_0_2_1 hE_0_22_1 hK_0_22)⟩
  refine ⟨(fun _ h => (by cases h)), [], trivial, ?_, (fun _ h => (by cases h))⟩
  rw [List.append_nil]
  exact List.forall_mem_cons.mpr ⟨⟨show (20 : Nat) < 100 from by decide, nf0⟩, (fun _ h => (by cases h))⟩
def o_Mo_matrix_4 : or_T := (76, 8, [(0, (2, 0, 0, [165])), (2, (0, 1, 24, [])), (3, (0, 0, 23, [])), (4, (0, 0, 24, [])), (6, (0, 0, 24, []))], [(7, [4, 3], [1]), (7, [3, 2], [2]), (20, [2, 0], [50, 1, 1, 1005, 1002, 1, 2, 1, 0, 3, 1, 2, 4, 3, 2, 1, 5, 0, 0]), (20, [0, 2, 3], [50, 0, 1, 22, 1, 8, 15, 0, 22, 2, 1, 1, 0, 0, 1, 2]), (23, [4, 3], [0, 1, -1]), (23, [3, 2], [0, 1, -1]), (20, [6, 4], [30, 24, 1, 0, 0, 1, 0, 0]), (20, [6, 4], [30, -24, -1, 0, 0, -1, 0, 0])], [(4, (0, 0, 23, []))], [], [], [], [(3, 2, -4294967296, -1)])
set_option maxHeartbeats 8000000 in
theorem oo_Mo_matrix_4 {kA : Nat → ClassId} : or_ok PRD kA GG o_Mo_matrix_4 := by
  refine or_mk fun A ta ws vs hD hth hl => ?_
  intro t0 r0 t2 k2 t3 k3 t4 k4 t6 k6 d0 f0 f1 f2 f3 f4 f5 f6 f7
  replace f0 := shm_40 f0
  replace f1 := shm_6 f1
  replace f2 := shm_1809 f2
  replace f3 := shm_1811 f3
  replace f4 := shm_7 f4
  replace f5 := shm_7 f5
  replace f6 := shm_1812 f6
  replace f7 := shm_1813 f7
  have cr_0_2 := fdq_10 hD hth r0
  have cr_0_22 := fdq_240 hD hth r0
  have hK_0_22 := elq_148 hD hth cr_0_22
  first | have hCb0_0 := cnt_bd (w_ei ws (w_ar ws (n_v vs 0) 22)) (0) (n := (v_iv (n_v vs 2))) (by omega) | skip
  have rf4 : tv_ok ta (0, 0, 23, []) (n_v vs 4) := tv_in t4 (by first | omega | (omega) | (set_option maxHeartbeats 200000 in grind)) (by first | omega | (omega) | (set_option maxHeartbeats 200000 in grind))
  refine ⟨List.forall_mem_cons.mpr ⟨rf4, (fun _ h => (by cases h))⟩, [], trivial, ?_, (fun _ h => (by cases h))⟩
  rw [List.append_nil]
  exact (fun _ h => (by cases h))
def o_Mo_matrix_5 : or_T := (90, 11, [(0, (2, 0, 0, [165])), (2, (0, 1, 24, [])), (3, (0, 0, 23, [])), (4, (0, 0, 23, [])), (6, (0, 0, 24, [])), (7, (2, 0, 0, [232])), (8, (0, 0, 25, [])), (9, (0, 1, 24, [])), (10, (0, -1, 23, []))], [(20, [10, 0], [50, 1, 2, 1005, 1002, 1022, 3, 6, 1, 2, 1, 0, 0, -1, 2, 6, 0, 2, 0, 0, 1, 0, 2, 18, 0, 6, 4, 2, 1, 0, 0, 1, 3, 1, 2, 4, 3, 2, 1, 5, 0, 0, 1, 5, 3, 1, 22, 1, 0, 0, 1]), (20, [8, 10, 0], [50, 1, 2, 2005, 2022, 2002, 4, 14, 2, 6, 0, 2, 1, 0, 0, -1, 1, 2, 1, 1, 0, -1, 1, 16, 15, 2, 22, 10, 3, 2, 2, 4, 3, 2, 2, 5, 0, 0, 0, 0, 3, 2, 2, 4, 3, 2, 2, 5, 0, 0]), (6, [9, 4], [1]), (10, [8, 7, 4], []), (9, [7, 0], [96]), (7, [4, 3], [1]), (7, [3, 2], [2]), (20, [2, 0], [50, 1, 1, 1005, 1002, 1, 2, 1, 0, 3, 1, 2, 4, 3, 2, 1, 5, 0, 0]), (20, [0, 2, 3], [50, 0, 1, 22, 1, 8, 15, 0, 22, 2, 1, 1, 0, 0, 1, 2]), (23, [4, 3], [0, 1, -1]), (23, [3, 2], [0, 1, -1]), (20, [6, 4], [30, 24, 1, 0, 0, 1, 0, 0]), (20, [6, 4], [30, -24, -1, 0, 0, -1, 0, 0])], [], [(0, 0, 24, [])], [(20, [2, 0], [50, 1, 1, 1005, 1002, 1, 2, 1, 0, 3, 1, 2, 4, 3, 2, 1, 5, 0, 0]), (20, [0, 2, 3], [50, 0, 1, 22, 1, 8, 15, 0, 22, 2, 1, 1, 0, 0, 1, 2]), (23, [9, 3], [0, 1, -1]), (23, [3, 2], [0, 1, -1]), (20, [10, 2, 0], [50, 0, 1, 2022, 3, 6, 1, 2, 1, 0, 0, -1, 2, 6, 0, 2, 0, 0, 1, 0, 2, 10, 0, 6, 4, 2, 1, 0, 0, 1, 1, 1, 1, 5, 3, 2, 22, 1, 0, 0, 1]), (20, [11, 9], [30, -25, -1, 0, 0, -1, 0, 0])], [(11, 6, 0, 0)], [(9, 4, 1, 1), (3, 2, -4294967296, -1)])
set_option maxHeartbeats 8000000 in
theorem oo_Mo_matrix_5 {kA : Nat → ClassId} : or_ok PRD kA GG o_Mo_matrix_5 := by
  refine or_mk fun A ta ws vs hD hth hl => ?_
  intro t0 r0 t2 k2 t3 k3 t4 k4 t6 k6 t7 r7 t8 k8 t9 k9 t10 k10 d0 d1 f0 f1 f2 f3 f4 f5 f6 f7 f8 f9 f10 f11 f12
  replace f0 := shm_1699 f0
  replace f1 := shm_1701 f1
  replace f2 := shm_4 f2
  replace f3 := shm_107 f3
  replace f4 := shm_666 f4
  replace f5 := shm_40 f5
  replace f6 := shm_6 f6
  replace f7 := shm_1809 f7
  replace f8 := shm_1811 f8
  replace f9 := shm_7 f9
  replace f10 := shm_7 f10
  replace f11 := shm_1812 f11
  replace f12 := shm_1813 f12
  have cr_0_2 := fdq_10 hD hth r0
  have cr_0_22 := fdq_240 hD hth r0
  have cr_0_96 := fdq_166 hD hth r0
  have ad_7 : v_ad (n_v vs 7) = w_ar ws (n_v vs 0) 96 := congrArg v_ad f4
  simp only [ad_7] at f3
  have h3 : v_iv (n_v vs 8) = w_ei ws (w_ar ws (n_v vs 0) 96) (v_iv (n_v vs 4)) := f3
  have hK_0_22 := elq_148 hD hth cr_0_22
  first | have hCb0_0 := cnt_bd (w_ei ws (w_ar ws (n_v vs 0) 22)) (0) (n := (w_ei ws (w_ar ws (n_v vs 0) 2) ((w_fi ws (n_v vs 0) 5 + 0)))) (by omega) | skip
  first | have hCb1_0 := cnt_bd (w_ei ws (w_ar ws (n_v vs 0) 22)) (0) (n := (v_iv (n_v vs 2))) (by omega) | skip
  obtain ⟨x, ex, hx⟩ := iv_ex (ta := ta) (lo := 0) (hi := 24) (z := 0 + (1 * v_iv (n_v vs 6) + 0)) (by omega) (by omega) (by omega) (by omega)
  have ex2 : v_iv (Value.int x) = 0 + (1 * v_iv (n_v vs 6) + 0) := ex
  have ex3 : 0 ≤ v_iv (Value.int x) ∧ v_iv (Value.int x) ≤ 24 := tv_rng hx
  have e_0 : n_v (vs ++ [Value.int x]) 0 = n_v vs 0 := n_v_old (by rw [hl]; decide)
  have e_2 : n_v (vs ++ [Value.int x]) 2 = n_v vs 2 := n_v_old (by rw [hl]; decide)
  have e_3 : n_v (vs ++ [Value.int x]) 3 = n_v vs 3 := n_v_old (by rw [hl]; decide)
  have e_9 : n_v (vs ++ [Value.int x]) 9 = n_v vs 9 := n_v_old (by rw [hl]; decide)
  have e_10 : n_v (vs ++ [Value.int x]) 10 = n_v vs 10 := n_v_old (by rw [hl]; decide)
  have e_11 : n_v (vs ++ [Value.int x]) 11 = Value.int x := n_v_new hl
  have nf0 : fc_1 PRD (20, [2, 0], [50, 1, 1, 1005, 1002, 1, 2, 1, 0, 3, 1, 2, 4, 3, 2, 1, 5, 0, 0]) ws (vs ++ [Value.int x]) := by
    refine ⟨nf_inA hl rfl, sgq_1809 ?_⟩
    · show v_iv (n_v (vs ++ [Value.int x]) 2) = w_ei ws (w_ar ws (n_v (vs ++ [Value.int x]) 0) 2) ((w_fi ws (n_v (vs ++ [Value.int x]) 0) 5 + 0))
      simp only [e_0, e_2]
      first | (omega) | (set_option maxHeartbeats 200000 in grind)
  have nf1 : fc_1 PRD (20, [0, 2, 3], [50, 0, 1, 22, 1, 8, 15, 0, 22, 2, 1, 1, 0, 0, 1, 2]) ws (vs ++ [Value.int x]) := by
    refine ⟨nf_inA hl rfl, sgq_1811 ?_⟩
    · show cntE (w_ei ws (w_ar ws (n_v (vs ++ [Value.int x]) 0) 22)) (0) (v_iv (n_v (vs ++ [Value.int x]) 2)) = v_iv (n_v (vs ++ [Value.int x]) 3)
      simp only [e_0, e_2, e_3]
      first | (omega) | (set_option maxHeartbeats 200000 in grind)
  have nf2 : fc_1 PRD (23, [9, 3], [0, 1, -1]) ws (vs ++ [Value.int x]) := by
    refine ⟨nf_inA hl rfl, sgq_7 ?_⟩
    · show 1 * v_iv (n_v (vs ++ [Value.int x]) 9) + ((-1) * v_iv (n_v (vs ++ [Value.int x]) 3) + 0) ≤ 0
      simp only [e_3, e_9]
      omega
  have nf3 : fc_1 PRD (23, [3, 2], [0, 1, -1]) ws (vs ++ [Value.int x]) := by
    refine ⟨nf_inA hl rfl, sgq_7 ?_⟩
    · show 1 * v_iv (n_v (vs ++ [Value.int x]) 3) + ((-1) * v_iv (n_v (vs ++ [Value.int x]) 2) + 0) ≤ 0
      simp only [e_2, e_3]
      omega
  have nf4 : fc_1 PRD (20, [10, 2, 0], [50, 0, 1, 2022, 3, 6, 1, 2, 1, 0, 0, -1, 2, 6, 0, 2, 0, 0, 1, 0, 2, 10, 0, 6, 4, 2, 1, 0, 0, 1, 1, 1, 1, 5, 3, 2, 22, 1, 0, 0, 1]) ws (vs ++ [Value.int x]) := by
    refine ⟨nf_inA hl rfl, sgq_1814 ?_⟩
    · show (v_iv (n_v (vs ++ [Value.int x]) 10) = (-1)) ∨ ((0 ≤ v_iv (n_v (vs ++ [Value.int x]) 10)) ∧ (((v_iv (n_v (vs ++ [Value.int x]) 10) + 1) ≤ v_iv (n_v (vs ++ [Value.int x]) 2)) ∧ (w_ei ws (w_ar ws (n_v (vs ++ [Value.int x]) 0) 22) (v_iv (n_v (vs ++ [Value.int x]) 10)) = 1)))
      simp only [e_0, e_2, e_10]
      first | (omega) | (set_option maxHeartbeats 200000 in grind)
  have nf5 : fc_1 PRD (20, [11, 9], [30, -25, -1, 0, 0, -1, 0, 0]) ws (vs ++ [Value.int x]) := by
    refine ⟨nf_inA hl rfl, sgq_1815 ?_⟩
    · show (-1) * v_iv (n_v (vs ++ [Value.int x]) 11) + ((-1) * v_iv (n_v (vs ++ [Value.int x]) 9) + 0) ≤ (-25)
      simp only [e_9, e_11]
      omega
  obtain ⟨x0, e0, _, _⟩ := tv_int t6 rfl
  have e1 : v_iv (n_v vs 6) = x0.toInt := by rw [e0]; rfl
  have ho : sy_ofs (vs ++ [Value.int x]) (11, 6, 0, 0) := by
    refine ⟨x, x0, by rw [List.getElem?_append_right (by rw [hl]; decide), hl]; rfl, ?_, ?_, ?_⟩
    · rw [List.getElem?_append_left (by rw [hl]; decide)]; exact n_v_some (by rw [hl]; decide) e0
    · show x0.toInt + 0 ≤ x.toInt; omega
    · show x.toInt ≤ x0.toInt + 0; omega
  exact ⟨(fun _ h => (by cases h)), [Value.int x], ag_one hx, List.forall_mem_cons.mpr ⟨⟨show (20 : Nat) < 100 from by decide, nf0⟩, List.forall_mem_cons.mpr ⟨⟨show (20 : Nat) < 100 from by decide, nf1⟩, List.forall_mem_cons.mpr ⟨⟨show (23 : Nat) < 100 from by decide, nf2⟩, List.forall_mem_cons.mpr ⟨⟨show (23 : Nat) < 100 from by decide, nf3⟩, List.forall_mem_cons.mpr ⟨⟨show (20 : Nat) < 100 from by decide, nf4⟩, List.forall_mem_cons.mpr ⟨⟨show (20 : Nat) < 100 from by decide, nf5⟩, (fun _ h => (by cases h))⟩⟩⟩⟩⟩⟩, List.forall_mem_cons.mpr ⟨ho, (fun _ h => (by cases h))⟩⟩
def o_Mo_matrix_6 : or_T := (58, 10, [(0, (2, 0, 0, [165])), (2, (0, 1, 24, [])), (3, (0, 0, 23, [])), (4, (0, 0, 23, [])), (6, (0, 0, 24, [])), (7, (0, -1, -1, [])), (8, (0, -1, 23, []))], [(20, [8, 0], [50, 1, 2, 1005, 1002, 1022, 3, 6, 1, 2, 1, 0, 0, -1, 2, 6, 0, 2, 0, 0, 1, 0, 2, 18, 0, 6, 4, 2, 1, 0, 0, 1, 3, 1, 2, 4, 3, 2, 1, 5, 0, 0, 1, 5, 3, 1, 22, 1, 0, 0, 1]), (20, [7, 8, 0], [50, 1, 2, 2005, 2022, 2002, 4, 14, 2, 6, 0, 2, 1, 0, 0, -1, 1, 2, 1, 1, 0, -1, 1, 16, 15, 2, 22, 10, 3, 2, 2, 4, 3, 2, 2, 5, 0, 0, 0, 0, 3, 2, 2, 4, 3, 2, 2, 5, 0, 0]), (7, [4, 3], [0]), (7, [3, 2], [2]), (20, [2, 0], [50, 1, 1, 1005, 1002, 1, 2, 1, 0, 3, 1, 2, 4, 3, 2, 1, 5, 0, 0]), (20, [0, 2, 3], [50, 0, 1, 22, 1, 8, 15, 0, 22, 2, 1, 1, 0, 0, 1, 2]), (23, [4, 3], [0, 1, -1]), (23, [3, 2], [0, 1, -1]), (20, [6, 4], [30, 24, 1, 0, 0, 1, 0, 0]), (20, [6, 4], [30, -24, -1, 0, 0, -1, 0, 0])], [(8, (0, 0, 23, []))], [], [], [], [(4, 3, 0, 0), (3, 2, -4294967296, -1)])
set_option maxHeartbeats 8000000 in
theorem oo_Mo_matrix_6 {kA : Nat → ClassId} : or_ok PRD kA GG o_Mo_matrix_6 := by
  refine or_mk fun A ta ws vs hD hth hl => ?_
  intro t0 r0 t2 k2 t3 k3 t4 k4 t6 k6 t7 k7 t8 k8 d0 d1 f0 f1 f2 f3 f4 f5 f6 f7 f8 f9
  replace f0 := shm_1699 f0
  replace f1 := shm_1701 f1
  replace f2 := shm_37 f2
  replace f3 := shm_6 f3
  replace f4 := shm_1809 f4
  replace f5 := shm_1811 f5
  replace f6 := shm_7 f6
  replace f7 := shm_7 f7
  replace f8 := shm_1812 f8
  replace f9 := shm_1813 f9
  have cr_0_2 := fdq_10 hD hth r0
  have cr_0_22 := fdq_240 hD hth r0
  have hK_0_22 := elq_148 hD hth cr_0_22
  first | have hCb0_0 := cnt_bd (w_ei ws (w_ar ws (n_v vs 0) 22)) (0) (n := (w_ei ws (w_ar ws (n_v vs 0) 2) ((w_fi ws (n_v vs 0) 5 + 0)))) (by omega) | skip
  first | have hCb1_0 := cnt_bd (w_ei ws (w_ar ws (n_v vs 0) 22)) (0) (n := (v_iv (n_v vs 2))) (by omega) | skip
  have rf8 : tv_ok ta (0, 0, 23, []) (n_v vs 8) := tv_in t8 (by first | omega | (omega) | (set_option maxHeartbeats 200000 in grind)) (by first | omega | (omega) | (set_option maxHeartbeats 200000 in grind))
  refine ⟨List.forall_mem_cons.mpr ⟨rf8, (fun _ h => (by cases h))⟩, [], trivial, ?_, (fun _ h => (by cases h))⟩
  rw [List.append_nil]
  exact (fun _ h => (by cases h))
def o_Mo_matrix_7 : or_T := (90, 16, [(0, (2, 0, 0, [165])), (2, (0, 1, 24, [])), (3, (0, 0, 23, [])), (4, (0, 0, 23, [])), (6, (0, 0, 24, [])), (7, (0, -1, -1, [])), (8, (0, 0, 23, [])), (9, (2, 0, 0, [232])), (10, (2, 0, 0, [177])), (11, (0, 0, 0, [])), (12, (0, 1, 24, [])), (13, (0, 0, 25, [])), (14, (0, 1, 24, [])), (15, (0, -1, 23, []))], [(20, [15, 0], [50, 1, 2, 1005, 1002, 1022, 3, 6, 1, 2, 1, 0, 0, -1, 2, 6, 0, 2, 0, 0, 1, 0, 2, 18, 0, 6, 4, 2, 1, 0, 0, 1, 3, 1, 2, 4, 3, 2, 1, 5, 0, 0, 1, 5, 3, 1, 22, 1, 0, 0, 1]), (20, [13, 15, 0], [50, 1, 2, 2005, 2022, 2002, 4, 14, 2, 6, 0, 2, 1, 0, 0, -1, 1, 2, 1, 1, 0, -1, 1, 16, 15, 2, 22, 10, 3, 2, 2, 4, 3, 2, 2, 5, 0, 0, 0, 0, 3, 2, 2, 4, 3, 2, 2, 5, 0, 0]), (6, [14, 4], [1]), (10, [13, 9, 4], []), (9, [9, 0], [96]), (6, [12, 3], [1]), (20, [2, 0], [50, 1, 1, 1005, 1002, 1, 2, 1, 0, 3, 1, 2, 4, 3, 2, 1, 5, 0, 0]), (23, [4, 3], [0, 1, -1]), (23, [3, 2], [0, 1, -1]), (20, [6, 4], [30, 24, 1, 0, 0, 1, 0, 0]), (20, [6, 4], [30, -24, -1, 0, 0, -1, 0, 0]), (100, [10, 8, 11], []), (9, [10, 0], [22]), (20, [8, 0], [50, 1, 2, 1005, 1002, 1022, 3, 6, 1, 2, 1, 0, 0, -1, 2, 6, 0, 2, 0, 0, 1, 0, 2, 18, 0, 6, 4, 2, 1, 0, 0, 1, 3, 1, 2, 4, 3, 2, 1, 5, 0, 0, 1, 5, 3, 1, 22, 1, 0, 0, 1]), (20, [7, 8, 0], [50, 1, 2, 2005, 2022, 2002, 4, 14, 2, 6, 0, 2, 1, 0, 0, -1, 1, 2, 1, 1, 0, -1, 1, 16, 15, 2, 22, 10, 3, 2, 2, 4, 3, 2, 2, 5, 0, 0, 0, 0, 3, 2, 2, 4, 3, 2, 2, 5, 0, 0]), (20, [2, 0], [50, 1, 1, 1005, 1002, 1, 2, 1, 0, 3, 1, 2, 4, 3, 2, 1, 5, 0, 0]), (20, [0, 2, 3], [50, 0, 1, 22, 1, 8, 15, 0, 22, 2, 1, 1, 0, 0, 1, 2]), (23, [4, 3], [0, 1, -1]), (23, [3, 2], [0, 1, -1]), (20, [6, 4], [30, 24, 1, 0, 0, 1, 0, 0]), (20, [6, 4], [30, -24, -1, 0, 0, -1, 0, 0]), (100, [9, 3, 8], []), (20, [8, 0], [50, 1, 2, 1005, 1002, 1022, 3, 6, 1, 2, 1, 0, 0, -1, 2, 6, 0, 2, 0, 0, 1, 0, 2, 18, 0, 6, 4, 2, 1, 0, 0, 1, 3, 1, 2, 4, 3, 2, 1, 5, 0, 0, 1, 5, 3, 1, 22, 1, 0, 0, 1]), (20, [7, 8, 0], [50, 1, 2, 2005, 2022, 2002, 4, 14, 2, 6, 0, 2, 1, 0, 0, -1, 1, 2, 1, 1, 0, -1, 1, 16, 15, 2, 22, 10, 3, 2, 2, 4, 3, 2, 2, 5, 0, 0, 0, 0, 3, 2, 2, 4, 3, 2, 2, 5, 0, 0]), (7, [4, 3], [0]), (7, [3, 2], [2]), (20, [2, 0], [50, 1, 1, 1005, 1002, 1, 2, 1, 0, 3, 1, 2, 4, 3, 2, 1, 5, 0, 0]), (20, [0, 2, 3], [50, 0, 1, 22, 1, 8, 15, 0, 22, 2, 1, 1, 0, 0, 1, 2]), (23, [4, 3], [0, 1, -1]), (23, [3, 2], [0, 1, -1]), (20, [6, 4], [30, 24, 1, 0, 0, 1, 0, 0]), (20, [6, 4], [30, -24, -1, 0, 0, -1, 0, 0])], [], [(0, 0, 24, [])], [(20, [2, 0], [50, 1, 1, 1005, 1002, 1, 2, 1, 0, 3, 1, 2, 4, 3, 2, 1, 5, 0, 0]), (20, [0, 2, 12], [50, 0, 1, 22, 1, 8, 15, 0, 22, 2, 1, 1, 0, 0, 1, 2]), (23, [14, 12], [0, 1, -1]), (23, [12, 2], [0, 1, -1]), (20, [15, 2, 0], [50, 0, 1, 2022, 3, 6, 1, 2, 1, 0, 0, -1, 2, 6, 0, 2, 0, 0, 1, 0, 2, 10, 0, 6, 4, 2, 1, 0, 0, 1, 1, 1, 1, 5, 3, 2, 22, 1, 0, 0, 1]), (20, [16, 14], [30, -25, -1, 0, 0, -1, 0, 0])], [(16, 6, 0, 0)], [(14, 4, 1, 1), (14, 3, 1, 1), (12, 3, 1, 1), (12, 2, -4294967296, 0), (4, 3, 0, 0), (3, 2, -4294967296, -1)])
set_option maxHeartbeats 8000000 in
theorem oo_Mo_matrix_7 {kA : Nat → ClassId} : or_ok PRD kA GG o_Mo_matrix_7 := by
  refine or_mk fun A ta ws vs hD hth hl => ?_
  intro t0 r0 t2 k2 t3 k3 t4 k4 t6 k6 t7 k7 t8 k8 t9 r9 t10 r10 t11 k11 t12 k12 t13 k13 t14 k14 t15 k15 d0 d1 d2 d3 d4 d5 f0 f1 f2 f3 f4 f5 f6 f7 f8 f9 f10 ta1 w1 le1 s1 f12 f13 f14 f15 f16 f17 f18 f19 f20 ta2 w2 le2 s2 f22 f23 f24 f25 f26 f27 f28 f29 f30 f31
  replace f0 := shm_1699 f0
  replace f1 := shm_1701 f1
  replace f2 := shm_4 f2
  replace f3 := shm_107 f3
  replace f4 := shm_666 f4
  replace f5 := shm_4 f5
  replace f6 := shm_1809 f6
  replace f7 := shm_7 f7
  replace f8 := shm_7 f8
  replace f9 := shm_1812 f9
  replace f10 := shm_1813 f10
  have s1 : (∀ b j, w_el ws b j = if b = v_ad (n_v vs 10) ∧ j = (v_iv (n_v vs 8)).toNat then v_iv (n_v vs 11) else w_el w1 b j) ∧ ∀ b k, w_fd ws b k = w_fd w1 b k := s1.2
  replace f12 := shm_1026 f12
  replace f13 := shm_1699 f13
  replace f14 := shm_1701 f14
  replace f15 := shm_1809 f15
  replace f16 := shm_1811 f16
  replace f17 := shm_7 f17
  replace f18 := shm_7 f18
  replace f19 := shm_1812 f19
  replace f20 := shm_1813 f20
  have s2 : (∀ b j, w_el w1 b j = if b = v_ad (n_v vs 9) ∧ j = (v_iv (n_v vs 3)).toNat then v_iv (n_v vs 8) else w_el w2 b j) ∧ ∀ b k, w_fd w1 b k = w_fd w2 b k := s2.2
  replace f22 := shm_1699 f22
  replace f23 := shm_1701 f23
  replace f24 := shm_37 f24
  replace f25 := shm_6 f25
  replace f26 := shm_1809 f26
  replace f27 := shm_1811 f27
  replace f28 := shm_7 f28
  replace f29 := shm_7 f29
  replace f30 := shm_1812 f30
  replace f31 := shm_1813 f31
  have ar_0_2_1 : w_ar w1 (n_v vs 0) 2 = w_ar ws (n_v vs 0) 2 := congrArg v_ad (s1.2 _ _).symm
  have ar_0_2_2 : w_ar w2 (n_v vs 0) 2 = w_ar ws (n_v vs 0) 2 := by rw [← ar_0_2_1]; show v_ad (w_fd w2 _ _) = v_ad (w_fd w1 _ _); rw [s2.2]
  have cr_0_2 := fdq_10 hD hth r0
  have ar_0_22_1 : w_ar w1 (n_v vs 0) 22 = w_ar ws (n_v vs 0) 22 := congrArg v_ad (s1.2 _ _).symm
  have ar_0_22_2 : w_ar w2 (n_v vs 0) 22 = w_ar ws (n_v vs 0) 22 := by rw [← ar_0_22_1]; show v_ad (w_fd w2 _ _) = v_ad (w_fd w1 _ _); rw [s2.2]
  have cr_0_22 := fdq_240 hD hth r0
  have ar_0_96_1 : w_ar w1 (n_v vs 0) 96 = w_ar ws (n_v vs 0) 96 := congrArg v_ad (s1.2 _ _).symm
  have ar_0_96_2 : w_ar w2 (n_v vs 0) 96 = w_ar ws (n_v vs 0) 96 := by rw [← ar_0_96_1]; show v_ad (w_fd w2 _ _) = v_ad (w_fd w1 _ _); rw [s2.2]
  have cr_0_96 := fdq_166 hD hth r0
  have ad_9 : v_ad (n_v vs 9) = w_ar ws (n_v vs 0) 96 := congrArg v_ad f4
  have ad_10 : v_ad (n_v vs 10) = w_ar ws (n_v vs 0) 22 := (congrArg v_ad f12).trans ar_0_22_1
  simp only [ad_9] at f3
  have h3 : v_iv (n_v vs 13) = w_ei ws (w_ar ws (n_v vs 0) 96) (v_iv (n_v vs 4)) := f3
  simp only [ar_0_2_1, ar_0_22_1, ar_0_2_2, ar_0_22_2] at f13 f14 f15 f16 f22 f23 f26 f27
  have fe_0_5_1 : w_fi ws (n_v vs 0) 5 = w_fi w1 (n_v vs 0) 5 := congrArg v_iv (s1.2 _ _)
  have ee_0_96_4_1 : w_el ws (w_ar ws (n_v vs 0) 96) (v_iv (n_v vs 4)).toNat = w_el w1 (w_ar ws (n_v vs 0) 96) (v_iv (n_v vs 4)).toNat := by rw [s1.1, if_neg (fun e => by have e1 := e.1; rw [← e1] at r10; rw [cr_0_96] at r10; exact absurd (Option.some.inj r10) (by decide))]
  have fe_0_5_2 : w_fi w1 (n_v vs 0) 5 = w_fi w2 (n_v vs 0) 5 := congrArg v_iv (s2.2 _ _)
  first | (have ee_0_96_4_2 : w_el w1 (w_ar ws (n_v vs 0) 96) (v_iv (n_v vs 4)).toNat = w_el w2 (w_ar ws (n_v vs 0) 96) (v_iv (n_v vs 4)).toNat := by rw [s2.1, if_neg (fun e => absurd e.2 (by omega))]) | (have ee_0_96_4_2 : w_el w1 (w_ar ws (n_v vs 0) 96) (v_iv (n_v vs 4)).toNat = v_iv (n_v vs 8) := by rw [s2.1, if_pos ⟨ad_9.symm, by omega⟩]) | have ee_0_96_4_2 : ((v_iv (n_v vs 4)).toNat = (v_iv (n_v vs 3)).toNat → w_el w1 (w_ar ws (n_v vs 0) 96) (v_iv (n_v vs 4)).toNat = v_iv (n_v vs 8)) ∧ ((v_iv (n_v vs 4)).toNat ≠ (v_iv (n_v vs 3)).toNat → w_el w1 (w_ar ws (n_v vs 0) 96) (v_iv (n_v vs 4)).toNat = w_el w2 (w_ar ws (n_v vs 0) 96) (v_iv (n_v vs 4)).toNat) := ⟨fun h => by rw [s2.1, if_pos ⟨ad_9.symm, h⟩], fun h => by rw [s2.1, if_neg (fun e => h e.2)]⟩
  have hE_0_2_1 : ∀ j : Int, w_ei ws (w_ar ws (n_v vs 0) 2) j = w_ei w1 (w_ar ws (n_v vs 0) 2) j := el_kp s1.1 r10 cr_0_2 (by decide)
  have hE_0_2_2 : ∀ j : Int, w_ei w1 (w_ar ws (n_v vs 0) 2) j = w_ei w2 (w_ar ws (n_v vs 0) 2) j := el_kp s2.1 r9 cr_0_2 (by decide)
  have hE_0_22_1 : ∀ j : Int, 0 ≤ j → (j = v_iv (n_v vs 8) → w_ei ws (w_ar ws (n_v vs 0) 22) j = v_iv (n_v vs 11)) ∧ (j ≠ v_iv (n_v vs 8) → w_ei ws (w_ar ws (n_v vs 0) 22) j = w_ei w1 (w_ar ws (n_v vs 0) 22) j) := fun j hj => ⟨fun h => by unfold w_ei; rw [s1.1, if_pos ⟨ad_10.symm, by rw [h]⟩], fun h => by unfold w_ei; rw [s1.1, if_neg (fun e => h (by have := e.2; omega))]⟩
  have hE_0_22_2 : ∀ j : Int, w_ei w1 (w_ar ws (n_v vs 0) 22) j = w_ei w2 (w_ar ws (n_v vs 0) 22) j := el_kp s2.1 r9 cr_0_22 (by decide)
  have hK_0_22 := elq_148 hD hth cr_0_22
  first | have qi1 := (hE_0_22_1 (v_iv (n_v vs 8)) (by omega)).1 (by omega) | have qi1 := (hE_0_22_1 (v_iv (n_v vs 8)) (by omega)).2 (by omega) | skip
  have qi2 := hE_0_22_2 (v_iv (n_v vs 8))
  first | have qi3 := hK_0_22 (v_iv (n_v vs 8)) (by omega) (by omega) | skip
  first | have hC1 := cnt_setD (t := 0) (n := (w_ei ws (w_ar ws (n_v vs 0) 2) ((w_fi ws (n_v vs 0) 5 + 0)))) (f1 := w_ei ws (w_ar ws (n_v vs 0) 22)) (f0 := w_ei w1 (w_ar ws (n_v vs 0) 22)) hE_0_22_1 (by omega) (by omega) | skip
  have hC2 : cntE (w_ei w1 (w_ar ws (n_v vs 0) 22)) (0) (w_ei ws (w_ar ws (n_v vs 0) 2) ((w_fi ws (n_v vs 0) 5 + 0))) = cntE (w_ei w2 (w_ar ws (n_v vs 0) 22)) (0) (w_ei ws (w_ar ws (n_v vs 0) 2) ((w_fi ws (n_v vs 0) 5 + 0))) := cnt_eq (fun j _ _ => hE_0_22_2 j)
  first | have hCb2_0 := cnt_bd (w_ei ws (w_ar ws (n_v vs 0) 22)) (0) (n := (w_ei ws (w_ar ws (n_v vs 0) 2) ((w_fi ws (n_v vs 0) 5 + 0)))) (by omega) | skip
  first | have hCb2_2 := cnt_bd (w_ei w2 (w_ar ws (n_v vs 0) 22)) (0) (n := (w_ei ws (w_ar ws (n_v vs 0) 2) ((w_fi ws (n_v vs 0) 5 + 0)))) (by omega) | skip
  first | have hC4 := cnt_setD (t := 0) (n := (v_iv (n_v vs 2))) (f1 := w_ei ws (w_ar ws (n_v vs 0) 22)) (f0 := w_ei w1 (w_ar ws (n_v vs 0) 22)) hE_0_22_1 (by omega) (by omega) | skip
  have hC5 : cntE (w_ei w1 (w_ar ws (n_v vs 0) 22)) (0) (v_iv (n_v vs 2)) = cntE (w_ei w2 (w_ar ws (n_v vs 0) 22)) (0) (v_iv (n_v vs 2)) := cnt_eq (fun j _ _ => hE_0_22_2 j)
  first | have hCb5_0 := cnt_bd (w_ei ws (w_ar ws (n_v vs 0) 22)) (0) (n := (v_iv (n_v vs 2))) (by omega) | skip
  first | have hCb5_2 := cnt_bd (w_ei w2 (w_ar ws (n_v vs 0) 22)) (0) (n := (v_iv (n_v vs 2))) (by omega) | skip
  obtain ⟨x, ex, hx⟩ := iv_ex (ta := ta) (lo := 0) (hi := 24) (z := 0 + (1 * v_iv (n_v vs 6) + 0)) (by omega) (by omega) (by omega) (by omega)
  have ex2 : v_iv (Value.int x) = 0 + (1 * v_iv (n_v vs 6) + 0) := ex
  have ex3 : 0 ≤ v_iv (Value.int x) ∧ v_iv (Value.int x) ≤ 24 := tv_rng hx
  have e_0 : n_v (vs ++ [Value.int x]) 0 = n_v vs 0 := n_v_old (by rw [hl]; decide)
  have e_2 : n_v (vs ++ [Value.int x]) 2 = n_v vs 2 := n_v_old (by rw [hl]; decide)
  have e_12 : n_v (vs ++ [Value.int x]) 12 = n_v vs 12 := n_v_old (by rw [hl]; decide)
  have e_14 : n_v (vs ++ [Value.int x]) 14 = n_v vs 14 := n_v_old (by rw [hl]; decide)
  have e_15 : n_v (vs ++ [Value.int x]) 15 = n_v vs 15 := n_v_old (by rw [hl]; decide)
  have e_16 : n_v (vs ++ [Value.int x]) 16 = Value.int x := n_v_new hl
  have nf0 : fc_1 PRD (20, [2, 0], [50, 1, 1, 1005, 1002, 1, 2, 1, 0, 3, 1, 2, 4, 3, 2, 1, 5, 0, 0]) ws (vs ++ [Value.int x]) := by
    refine ⟨nf_inA hl rfl, sgq_1809 ?_⟩
    · show v_iv (n_v (vs ++ [Value.int x]) 2) = w_ei ws (w_ar ws (n_v (vs ++ [Value.int x]) 0) 2) ((w_fi ws (n_v (vs ++ [Value.int x]) 0) 5 + 0))
      simp only [e_0, e_2]
      first | (omega) | (set_option maxHeartbeats 200000 in grind)
  have nf1 : fc_1 PRD (20, [0, 2, 12], [50, 0, 1, 22, 1, 8, 15, 0, 22, 2, 1, 1, 0, 0, 1, 2]) ws (vs ++ [Value.int x]) := by
    refine ⟨nf_inA hl rfl, sgq_1811 ?_⟩
    · show cntE (w_ei ws (w_ar ws (n_v (vs ++ [Value.int x]) 0) 22)) (0) (v_iv (n_v (vs ++ [Value.int x]) 2)) = v_iv (n_v (vs ++ [Value.int x]) 12)
      simp only [e_0, e_2, e_12]
      first | (omega) | (set_option maxHeartbeats 200000 in grind)
  have nf2 : fc_1 PRD (23, [14, 12], [0, 1, -1]) ws (vs ++ [Value.int x]) := by
    refine ⟨nf_inA hl rfl, sgq_7 ?_⟩
    · show 1 * v_iv (n_v (vs ++ [Value.int x]) 14) + ((-1) * v_iv (n_v (vs ++ [Value.int x]) 12) + 0) ≤ 0
      simp only [e_12, e_14]
      omega
  have nf3 : fc_1 PRD (23, [12, 2], [0, 1, -1]) ws (vs ++ [Value.int x]) := by
    refine ⟨nf_inA hl rfl, sgq_7 ?_⟩
    · show 1 * v_iv (n_v (vs ++ [Value.int x]) 12) + ((-1) * v_iv (n_v (vs ++ [Value.int x]) 2) + 0) ≤ 0
      simp only [e_2, e_12]
      omega
  have nf4 : fc_1 PRD (20, [15, 2, 0], [50, 0, 1, 2022, 3, 6, 1, 2, 1, 0, 0, -1, 2, 6, 0, 2, 0, 0, 1, 0, 2, 10, 0, 6, 4, 2, 1, 0, 0, 1, 1, 1, 1, 5, 3, 2, 22, 1, 0, 0, 1]) ws (vs ++ [Value.int x]) := by
    refine ⟨nf_inA hl rfl, sgq_1814 ?_⟩
    · show (v_iv (n_v (vs ++ [Value.int x]) 15) = (-1)) ∨ ((0 ≤ v_iv (n_v (vs ++ [Value.int x]) 15)) ∧ (((v_iv (n_v (vs ++ [Value.int x]) 15) + 1) ≤ v_iv (n_v (vs ++ [Value.int x]) 2)) ∧ (w_ei ws (w_ar ws (n_v (vs ++ [Value.int x]) 0) 22) (v_iv (n_v (vs ++ [Value.int x]) 15)) = 1)))
      simp only [e_0, e_2, e_15]
      first | (omega) | (set_option maxHeartbeats 200000 in grind)
  have nf5 : fc_1 PRD (20, [16, 14], [30, -25, -1, 0, 0, -1, 0, 0]) ws (vs ++ [Value.int x]) := by
    refine ⟨nf_inA hl rfl, sgq_1815 ?_⟩
    · show (-1) * v_iv (n_v (vs ++ [Value.int x]) 16) + ((-1) * v_iv (n_v (vs ++ [Value.int x]) 14) + 0) ≤ (-25)
      simp only [e_14, e_16]
      omega
  obtain ⟨x0, e0, _, _⟩ := tv_int t6 rfl
  have e1 : v_iv (n_v vs 6) = x0.toInt := by rw [e0]; rfl
  have ho : sy_ofs (vs ++ [Value.int x]) (16, 6, 0, 0) := by
    refine ⟨x, x0, by rw [List.getElem?_append_right (by rw [hl]; decide), hl]; rfl, ?_, ?_, ?_⟩
    · rw [List.getElem?_append_left (by rw [hl]; decide)]; exact n_v_some (by rw [hl]; decide) e0
    · show x0.toInt + 0 ≤ x.toInt; omega
    · show x.toInt ≤ x0.toInt + 0; omega
  exact ⟨(fun _ h => (by cases h)), [Value.int x], ag_one hx, List.forall_mem_cons.mpr ⟨⟨show (20 : Nat) < 100 from by decide, nf0⟩, List.forall_mem_cons.mpr ⟨⟨show (20 : Nat) < 100 from by decide, nf1⟩, List.forall_mem_cons.mpr ⟨⟨show (23 : Nat) < 100 from by decide, nf2⟩, List.forall_mem_cons.mpr ⟨⟨show (23 : Nat) < 100 from by decide, nf3⟩, List.forall_mem_cons.mpr ⟨⟨show (20 : Nat) < 100 from by decide, nf4⟩, List.forall_mem_cons.mpr ⟨⟨show (20 : Nat) < 100 from by decide, nf5⟩, (fun _ h => (by cases h))⟩⟩⟩⟩⟩⟩, List.forall_mem_cons.mpr ⟨ho, (fun _ h => (by cases h))⟩⟩
def o_Mo_matrix_8 : or_T := (33, 8, [(0, (2, 0, 0, [165])), (2, (0, 1, 24, [])), (3, (0, 0, 24, [])), (4, (0, 1, 24, [])), (6, (0, -1, -1, [])), (7, (0, 0, 24, []))], [(8, [6], [2]), (20, [2, 0], [50, 1, 1, 1005, 1002, 1, 2, 1, 0, 3, 1, 2, 4, 3, 2, 1, 5, 0, 0]), (20, [0, 2, 3], [50, 0, 1, 22, 1, 8, 15, 0, 22, 2, 1, 1, 0, 0, 1, 2]), (23, [4, 3], [0, 1, -1]), (23, [3, 2], [0, 1, -1]), (20, [6, 2, 0], [50, 0, 1, 2022, 3, 6, 1, 2, 1, 0, 0, -1, 2, 6, 0, 2, 0, 0, 1, 0, 2, 10, 0, 6, 4, 2, 1, 0, 0, 1, 1, 1, 1, 5, 3, 2, 22, 1, 0, 0, 1]), (20, [7, 4], [30, -25, -1, 0, 0, -1, 0, 0])], [], [(0, 0, 24, [])], [(20, [2, 0], [50, 1, 1, 1005, 1002, 1, 2, 1, 0, 3, 1, 2, 4, 3, 2, 1, 5, 0, 0]), (20, [0, 2, 3], [50, 0, 1, 22, 1, 8, 15, 0, 22, 2, 1, 1, 0, 0, 1, 2]), (23, [4, 3], [0, 1, -1]), (23, [3, 2], [0, 1, -1]), (20, [8, 4], [30, 24, 1, 0, 0, 1, 0, 0]), (20, [8, 4], [30, -24, -1, 0, 0, -1, 0, 0])], [(8, 7, -1000000000000, -1)], [])
set_option maxHeartbeats 8000000 in
theorem oo_Mo_matrix_8 {kA : Nat → ClassId} : or_ok PRD kA GG o_Mo_matrix_8 := by
  refine or_mk fun A ta ws vs hD hth hl => ?_
  intro t0 r0 t2 k2 t3 k3 t4 k4 t6 k6 t7 k7 f0 f1 f2 f3 f4 f5 f6
  replace f0 := shm_39 f0
  replace f1 := shm_1809 f1
  replace f2 := shm_1811 f2
  replace f3 := shm_7 f3
  replace f4 := shm_7 f4
  replace f5 := shm_1814 f5
  replace f6 := shm_1815 f6
  have cr_0_2 := fdq_10 hD hth r0
  have cr_0_22 := fdq_240 hD hth r0
  have hK_0_22 := elq_148 hD hth cr_0_22
  first | have hCb0_0 := cnt_bd (w_ei ws (w_ar ws (n_v vs 0) 22)) (0) (n := (v_iv (n_v vs 2))) (by omega) | skip
  have hN : (∀ j : Int, 0 ≤ j → j < v_iv (n_v vs 2) → w_ei ws (w_ar ws (n_v vs 0) 22) j = 1) → cntE (w_ei ws (w_ar ws (n_v vs 0) 22)) 0 (v_iv (n_v vs 2)) = 0 := fun h => cnt_none (fun j h0 h1 => by have := h j h0 (by omega); omega)
  obtain ⟨x, ex, hx⟩ := iv_ex (ta := ta) (lo := 0) (hi := 24) (z := 24 + ((-1) * v_iv (n_v vs 4) + 0)) (by omega) (by omega) (by omega) (by omega)
  have ex2 : v_iv (Value.int x) = 24 + ((-1) * v_iv (n_v vs 4) + 0) := ex
  have ex3 : 0 ≤ v_iv (Value.int x) ∧ v_iv (Value.int x) ≤ 24 := tv_rng hx
  have e_0 : n_v (vs ++ [Value.int x]) 0 = n_v vs 0 := n_v_old (by rw [hl]; decide)
  have e_2 : n_v (vs ++ [Value.int x]) 2 = n_v vs 2 := n_v_old (by rw [hl]; decide)
  have e_3 : n_v (vs ++ [Value.int x]) 3 = n_v vs 3 := n_v_old (by rw [hl]; decide)
  have e_4 : n_v (vs ++ [Value.int x]) 4 = n_v vs 4 := n_v_old (by rw [hl]; decide)
  have e_8 : n_v (vs ++ [Value.int x]) 8 = Value.int x := n_v_new hl
  have nf0 : fc_1 PRD (20, [2, 0], [50, 1, 1, 1005, 1002, 1, 2, 1, 0, 3, 1, 2, 4, 3, 2, 1, 5, 0, 0]) ws (vs ++ [Value.int x]) := by
    refine ⟨nf_inA hl rfl, sgq_1809 ?_⟩
    · show v_iv (n_v (vs ++ [Value.int x]) 2) = w_ei ws (w_ar ws (n_v (vs ++ [Value.int x]) 0) 2) ((w_fi ws (n_v (vs ++ [Value.int x]) 0) 5 + 0))
      simp only [e_0, e_2]
      first | (omega) | (set_option maxHeartbeats 200000 in grind)
  have nf1 : fc_1 PRD (20, [0, 2, 3], [50, 0, 1, 22, 1, 8, 15, 0, 22, 2, 1, 1, 0, 0, 1, 2]) ws (vs ++ [Value.int x]) := by
    refine ⟨nf_inA hl rfl, sgq_1811 ?_⟩
    · show cntE (w_ei ws (w_ar ws (n_v (vs ++ [Value.int x]) 0) 22)) (0) (v_iv (n_v (vs ++ [Value.int x]) 2)) = v_iv (n_v (vs ++ [Value.int x]) 3)
      simp only [e_0, e_2, e_3]
      first | (omega) | (set_option maxHeartbeats 200000 in grind)
  have nf2 : fc_1 PRD (23, [4, 3], [0, 1, -1]) ws (vs ++ [Value.int x]) := by
    refine ⟨nf_inA hl rfl, sgq_7 ?_⟩
    · show 1 * v_iv (n_v (vs ++ [Value.int x]) 4) + ((-1) * v_iv (n_v (vs ++ [Value.int x]) 3) + 0) ≤ 0
      simp only [e_3, e_4]
      omega
  have nf3 : fc_1 PRD (23, [3, 2], [0, 1, -1]) ws (vs ++ [Value.int x]) := by
    refine ⟨nf_inA hl rfl, sgq_7 ?_⟩
    · show 1 * v_iv (n_v (vs ++ [Value.int x]) 3) + ((-1) * v_iv (n_v (vs ++ [Value.int x]) 2) + 0) ≤ 0
      simp only [e_2, e_3]
      omega
  have nf4 : fc_1 PRD (20, [8, 4], [30, 24, 1, 0, 0, 1, 0, 0]) ws (vs ++ [Value.int x]) := by
    refine ⟨nf_inA hl rfl, sgq_1812 ?_⟩
    · show 1 * v_iv (n_v (vs ++ [Value.int x]) 8) + (1 * v_iv (n_v (vs ++ [Value.int x]) 4) + 0) ≤ 24
      simp only [e_4, e_8]
      omega
  have nf5 : fc_1 PRD (20, [8, 4], [30, -24, -1, 0, 0, -1, 0, 0]) ws (vs ++ [Value.int x]) := by
    refine ⟨nf_inA hl rfl, sgq_1813 ?_⟩
    · show (-1) * v_iv (n_v (vs ++ [Value.int x]) 8) + ((-1) * v_iv (n_v (vs ++ [Value.int x]) 4) + 0) ≤ (-24)
      simp only [e_4, e_8]
      omega
  obtain ⟨x0, e0, _, _⟩ := tv_int t7 rfl
  have e1 : v_iv (n_v vs 7) = x0.toInt := by rw [e0]; rfl
  have ho : sy_ofs (vs ++ [Value.int x]) (8, 7, -1000000000000, -1) := by
    refine ⟨x, x0, by rw [List.getElem?_append_right (by rw [hl]; decide), hl]; rfl, ?_, ?_, ?_⟩
    · rw [List.getElem?_append_left (by rw [hl]; decide)]; exact n_v_some (by rw [hl]; decide) e0
    · show x0.toInt + (-1000000000000) ≤ x.toInt; omega
    · show x.toInt ≤ x0.toInt + (-1); omega
  exact ⟨(fun _ h => (by cases h)), [Value.int x], ag_one hx, List.forall_mem_cons.mpr ⟨⟨show (20 : Nat) < 100 from by decide, nf0⟩, List.forall_mem_cons.mpr ⟨⟨show (20 : Nat) < 100 from by decide, nf1⟩, List.forall_mem_cons.mpr ⟨⟨show (23 : Nat) < 100 from by decide, nf2⟩, List.forall_mem_cons.mpr ⟨⟨show (23 : Nat) < 100 from by decide, nf3⟩, List.forall_mem_cons.mpr ⟨⟨show (20 : Nat) < 100 from by decide, nf4⟩, List.forall_mem_cons.mpr ⟨⟨show (20 : Nat) < 100 from by decide, nf5⟩, (fun _ h => (by cases h))⟩⟩⟩⟩⟩⟩, List.forall_mem_cons.mpr ⟨ho, (fun _ h => (by cases h))⟩⟩
def o_Mo_matrix_9 : or_T := (102, 9, [(0, (2, 0, 0, [165])), (2, (0, 1, 24, [])), (3, (0, 0, 24, [])), (4, (0, 1, 24, [])), (6, (0, 0, 23, [])), (7, (0, 0, 24, []))], [(8, [6], [3]), (20, [2, 0], [50, 1, 1, 1005, 1002, 1, 2, 1, 0, 3, 1, 2, 4, 3, 2, 1, 5, 0, 0]), (20, [0, 2, 3], [50, 0, 1, 22, 1, 8, 15, 0, 22, 2, 1, 1, 0, 0, 1, 2]), (23, [4, 3], [0, 1, -1]), (23, [3, 2], [0, 1, -1]), (20, [6, 2, 0], [50, 0, 1, 2022, 3, 6, 1, 2, 1, 0, 0, -1, 2, 6, 0, 2, 0, 0, 1, 0, 2, 10, 0, 6, 4, 2, 1, 0, 0, 1, 1, 1, 1, 5, 3, 2, 22, 1, 0, 0, 1]), (20, [7, 4], [30, -25, -1, 0, 0, -1, 0, 0])], [(3, (0, 0, 23, []))], [], [], [], [])
set_option maxHeartbeats 8000000 in
theorem oo_Mo_matrix_9 {kA : Nat → ClassId} : or_ok PRD kA GG o_Mo_matrix_9 := by
  refine or_mk fun A ta ws vs hD hth hl => ?_
  intro t0 r0 t2 k2 t3 k3 t4 k4 t6 k6 t7 k7 f0 f1 f2 f3 f4 f5 f6
  replace f0 := shm_32 f0
  replace f1 := shm_1809 f1
  replace f2 := shm_1811 f2
  replace f3 := shm_7 f3
  replace f4 := shm_7 f4
  replace f5 := shm_1814 f5
  replace f6 := shm_1815 f6
  have cr_0_2 := fdq_10 hD hth r0
  have cr_0_22 := fdq_240 hD hth r0
  have hK_0_22 := elq_148 hD hth cr_0_22
  first | have hCb0_0 := cnt_bd (w_ei ws (w_ar ws (n_v vs 0) 22)) (0) (n := (v_iv (n_v vs 2))) (by omega) | skip
  first | have hL := cnt_lt (f := w_ei ws (w_ar ws (n_v vs 0) 22)) (t := 0) (i := v_iv (n_v vs 6)) (n := v_iv (n_v vs 2)) (by omega) (by omega) (by omega) | skip
  have rf3 : tv_ok ta (0, 0, 23, []) (n_v vs 3) := tv_in t3 (by first | omega | (omega) | (set_option maxHeartbeats 200000 in grind)) (by first | omega | (omega) | (set_option maxHeartbeats 200000 in grind))
  refine ⟨List.forall_mem_cons.mpr ⟨rf3, (fun _ h => (by cases h))⟩, [], trivial, ?_, (fun _ h => (by cases h))⟩
  rw [List.append_nil]
  exact (fun _ h => (by cases h))
def o_Mo_matrix_10 : or_T := (90, 13, [(0, (2, 0, 0, [165])), (2, (0, 1, 24, [])), (3, (0, 0, 23, [])), (4, (0, 1, 24, [])), (5, (0, 0, 25, [])), (6, (0, 0, 23, [])), (7, (0, 0, 24, [])), (8, (2, 0, 0, [232])), (9, (2, 0, 0, [177])), (10, (0, 0, 0, [])), (11, (0, 1, 24, [])), (12, (0, -1, 23, []))], [(20, [12, 0], [50, 1, 2, 1005, 1002, 1022, 3, 6, 1, 2, 1, 0, 0, -1, 2, 6, 0, 2, 0, 0, 1, 0, 2, 18, 0, 6, 4, 2, 1, 0, 0, 1, 3, 1, 2, 4, 3, 2, 1, 5, 0, 0, 1, 5, 3, 1, 22, 1, 0, 0, 1]), (20, [5, 12, 0], [50, 1, 2, 2005, 2022, 2002, 4, 14, 2, 6, 0, 2, 1, 0, 0, -1, 1, 2, 1, 1, 0, -1, 1, 16, 15, 2, 22, 10, 3, 2, 2, 4, 3, 2, 2, 5, 0, 0, 0, 0, 3, 2, 2, 4, 3, 2, 2, 5, 0, 0]), (6, [11, 3], [1]), (20, [2, 0], [50, 1, 1, 1005, 1002, 1, 2, 1, 0, 3, 1, 2, 4, 3, 2, 1, 5, 0, 0]), (23, [4, 3], [0, 1, -1]), (23, [3, 2], [0, 1, -1]), (20, [7, 4], [30, -25, -1, 0, 0, -1, 0, 0]), (100, [9, 6, 10], []), (9, [9, 0], [22]), (20, [2, 0], [50, 1, 1, 1005, 1002, 1, 2, 1, 0, 3, 1, 2, 4, 3, 2, 1, 5, 0, 0]), (20, [0, 2, 3], [50, 0, 1, 22, 1, 8, 15, 0, 22, 2, 1, 1, 0, 0, 1, 2]), (23, [4, 3], [0, 1, -1]), (23, [3, 2], [0, 1, -1]), (20, [6, 2, 0], [50, 0, 1, 2022, 3, 6, 1, 2, 1, 0, 0, -1, 2, 6, 0, 2, 0, 0, 1, 0, 2, 10, 0, 6, 4, 2, 1, 0, 0, 1, 1, 1, 1, 5, 3, 2, 22, 1, 0, 0, 1]), (20, [7, 4], [30, -25, -1, 0, 0, -1, 0, 0]), (100, [8, 3, 6], []), (9, [8, 0], [96]), (8, [6], [3]), (20, [2, 0], [50, 1, 1, 1005, 1002, 1, 2, 1, 0, 3, 1, 2, 4, 3, 2, 1, 5, 0, 0]), (20, [0, 2, 3], [50, 0, 1, 22, 1, 8, 15, 0, 22, 2, 1, 1, 0, 0, 1, 2]), (23, [4, 3], [0, 1, -1]), (23, [3, 2], [0, 1, -1]), (20, [6, 2, 0], [50, 0, 1, 2022, 3, 6, 1, 2, 1, 0, 0, -1, 2, 6, 0, 2, 0, 0, 1, 0, 2, 10, 0, 6, 4, 2, 1, 0, 0, 1, 1, 1, 1, 5, 3, 2, 22, 1, 0, 0, 1]), (20, [7, 4], [30, -25, -1, 0, 0, -1, 0, 0])], [], [], [(20, [0, 2, 11], [50, 0, 1, 22, 1, 8, 15, 0, 22, 2, 1, 1, 0, 0, 1, 2]), (23, [4, 11], [0, 1, -1]), (23, [11, 2], [0, 1, -1]), (20, [12, 2, 0], [50, 0, 1, 2022, 3, 6, 1, 2, 1, 0, 0, -1, 2, 6, 0, 2, 0, 0, 1, 0, 2, 10, 0, 6, 4, 2, 1, 0, 0, 1, 1, 1, 1, 5, 3, 2, 22, 1, 0, 0, 1])], [], [(11, 3, 1, 1)])
set_option maxHeartbeats 8000000 in
theorem oo_Mo_matrix_10 {kA : Nat → ClassId} : or_ok PRD kA GG o_Mo_matrix_10 := by
  refine or_mk fun A ta ws vs hD hth hl => ?_
  intro t0 r0 t2 k2 t3 k3 t4 k4 t5 k5 t6 k6 t7 k7 t8 r8 t9 r9 t10 k10 t11 k11 t12 k12 d0 f0 f1 f2 f3 f4 f5 f6 ta1 w1 le1 s1 f8 f9 f10 f11 f12 f13 f14 ta2 w2 le2 s2 f16 f17 f18 f19 f20 f21 f22 f23
  replace f0 := shm_1699 f0
  replace f1 := shm_1701 f1
  replace f2 := shm_4 f2
  replace f3 := shm_1809 f3
  replace f4 := shm_7 f4
  replace f5 := shm_7 f5
  replace f6 := shm_1815 f6
  have s1 : (∀ b j, w_el ws b j = if b = v_ad (n_v vs 9) ∧ j = (v_iv (n_v vs 6)).toNat then v_iv (n_v vs 10) else w_el w1 b j) ∧ ∀ b k, w_fd ws b k = w_fd w1 b k := s1.2
  replace f8 := shm_1026 f8
  replace f9 := shm_1809 f9
  replace f10 := shm_1811 f10
  replace f11 := shm_7 f11
  replace f12 := shm_7 f12
  replace f13 := shm_1814 f13
  replace f14 := shm_1815 f14
  have s2 : (∀ b j, w_el w1 b j = if b = v_ad (n_v vs 8) ∧ j = (v_iv (n_v vs 3)).toNat then v_iv (n_v vs 6) else w_el w2 b j) ∧ ∀ b k, w_fd w1 b k = w_fd w2 b k := s2.2
  replace f16 := shm_666 f16
  replace f17 := shm_32 f17
  replace f18 := shm_1809 f18
  replace f19 := shm_1811 f19
  replace f20 := shm_7 f20
  replace f21 := shm_7 f21
  replace f22 := shm_1814 f22
  replace f23 := shm_1815 f23
  have ar_0_2_1 : w_ar w1 (n_v vs 0) 2 = w_ar ws (n_v vs 0) 2 := congrArg v_ad (s1.2 _ _).symm
  have ar_0_2_2 : w_ar w2 (n_v vs 0) 2 = w_ar ws (n_v vs 0) 2 := by rw [← ar_0_2_1]; show v_ad (w_fd w2 _ _) = v_ad (w_fd w1 _ _); rw [s2.2]
  have cr_0_2 := fdq_10 hD hth r0
  have ar_0_22_1 : w_ar w1 (n_v vs 0) 22 = w_ar ws (n_v vs 0) 22 := congrArg v_ad (s1.2 _ _).symm
  have ar_0_22_2 : w_ar w2 (n_v vs 0) 22 = w_ar ws (n_v vs 0) 22 := by rw [← ar_0_22_1]; show v_ad (w_fd w2 _ _) = v_ad (w_fd w1 _ _); rw [s2.2]
  have cr_0_22 := fdq_240 hD hth r0
  have ar_0_96_1 : w_ar w1 (n_v vs 0) 96 = w_ar ws (n_v vs 0) 96 := congrArg v_ad (s1.2 _ _).symm
  have ar_0_96_2 : w_ar w2 (n_v vs 0) 96 = w_ar ws (n_v vs 0) 96 := by rw [← ar_0_96_1]; show v_ad (w_fd w2 _ _) = v_ad (w_fd w1 _ _); rw [s2.2]
  have cr_0_96 := fdq_166 hD hth r0
  have ad_9 : v_ad (n_v vs 9) = w_ar ws (n_v vs 0) 22 := (congrArg v_ad f8).trans ar_0_22_1
  have ad_8 : v_ad (n_v vs 8) = w_ar ws (n_v vs 0) 96 := (congrArg v_ad f16).trans ar_0_96_2
  simp only [ar_0_2_1, ar_0_22_1, ar_0_2_2, ar_0_22_2] at f9 f10 f13 f18 f19 f22
  have fe_0_5_1 : w_fi ws (n_v vs 0) 5 = w_fi w1 (n_v vs 0) 5 := congrArg v_iv (s1.2 _ _)
  have fe_0_5_2 : w_fi w1 (n_v vs 0) 5 = w_fi w2 (n_v vs 0) 5 := congrArg v_iv (s2.2 _ _)
  have hE_0_2_1 : ∀ j : Int, w_ei ws (w_ar ws (n_v vs 0) 2) j = w_ei w1 (w_ar ws (n_v vs 0) 2) j := el_kp s1.1 r9 cr_0_2 (by decide)
  have hE_0_2_2 : ∀ j : Int, w_ei w1 (w_ar ws (n_v vs 0) 2) j = w_ei w2 (w_ar ws (n_v vs 0) 2) j := el_kp s2.1 r8 cr_0_2 (by decide)
  have hE_0_22_1 : ∀ j : Int, 0 ≤ j → (j = v_iv (n_v vs 6) → w_ei ws (w_ar ws (n_v vs 0) 22) j = v_iv (n_v vs 10)) ∧ (j ≠ v_iv (n_v vs 6) → w_ei ws (w_ar ws (n_v vs 0) 22) j = w_ei w1 (w_ar ws (n_v vs 0) 22) j) := fun j hj => ⟨fun h => by unfold w_ei; rw [s1.1, if_pos ⟨ad_9.symm, by rw [h]⟩], fun h => by unfold w_ei; rw [s1.1, if_neg (fun e => h (by have := e.2; omega))]⟩
  have hE_0_22_2 : ∀ j : Int, w_ei w1 (w_ar ws (n_v vs 0) 22) j = w_ei w2 (w_ar ws (n_v vs 0) 22) j := el_kp s2.1 r8 cr_0_22 (by decide)
  have hK_0_22 := elq_148 hD hth cr_0_22
  first | have qi1 := (hE_0_22_1 (v_iv (n_v vs 6)) (by omega)).1 (by omega) | have qi1 := (hE_0_22_1 (v_iv (n_v vs 6)) (by omega)).2 (by omega) | skip
  have qi2 := hE_0_22_2 (v_iv (n_v vs 6))
  first | have qi3 := hK_0_22 (v_iv (n_v vs 6)) (by omega) (by omega) | skip
  first | have hC1 := cnt_setD (t := 0) (n := (w_ei ws (w_ar ws (n_v vs 0) 2) ((w_fi ws (n_v vs 0) 5 + 0)))) (f1 := w_ei ws (w_ar ws (n_v vs 0) 22)) (f0 := w_ei w1 (w_ar ws (n_v vs 0) 22)) hE_0_22_1 (by omega) (by omega) | skip
  have hC2 : cntE (w_ei w1 (w_ar ws (n_v vs 0) 22)) (0) (w_ei ws (w_ar ws (n_v vs 0) 2) ((w_fi ws (n_v vs 0) 5 + 0))) = cntE (w_ei w2 (w_ar ws (n_v vs 0) 22)) (0) (w_ei ws (w_ar ws (n_v vs 0) 2) ((w_fi ws (n_v vs 0) 5 + 0))) := cnt_eq (fun j _ _ => hE_0_22_2 j)
  first | have hCb2_0 := cnt_bd (w_ei ws (w_ar ws (n_v vs 0) 22)) (0) (n := (w_ei ws (w_ar ws (n_v vs 0) 2) ((w_fi ws (n_v vs 0) 5 + 0)))) (by omega) | skip
  first | have hCb2_2 := cnt_bd (w_ei w2 (w_ar ws (n_v vs 0) 22)) (0) (n := (w_ei ws (w_ar ws (n_v vs 0) 2) ((w_fi ws (n_v vs 0) 5 + 0)))) (by omega) | skip
  first | have hC4 := cnt_setD (t := 0) (n := (v_iv (n_v vs 2))) (f1 := w_ei ws (w_ar ws (n_v vs 0) 22)) (f0 := w_ei w1 (w_ar ws (n_v vs 0) 22)) hE_0_22_1 (by omega) (by omega) | skip
  have hC5 : cntE (w_ei w1 (w_ar ws (n_v vs 0) 22)) (0) (v_iv (n_v vs 2)) = cntE (w_ei w2 (w_ar ws (n_v vs 0) 22)) (0) (v_iv (n_v vs 2)) := cnt_eq (fun j _ _ => hE_0_22_2 j)
  first | have hCb5_0 := cnt_bd (w_ei ws (w_ar ws (n_v vs 0) 22)) (0) (n := (v_iv (n_v vs 2))) (by omega) | skip
  first | have hCb5_2 := cnt_bd (w_ei w2 (w_ar ws (n_v vs 0) 22)) (0) (n := (v_iv (n_v vs 2))) (by omega) | skip
  have nf0 : fc_1 PRD (20, [0, 2, 11], [50, 0, 1, 22, 1, 8, 15, 0, 22, 2, 1, 1, 0, 0, 1, 2]) ws (vs) := by
    refine ⟨nf_in hl rfl, sgq_1811 ?_⟩
    · show cntE (w_ei ws (w_ar ws (n_v vs 0) 22)) (0) (v_iv (n_v vs 2)) = v_iv (n_v vs 11)
      first | (omega) | (set_option maxHeartbeats 200000 in grind)
  have nf1 : fc_1 PRD (23, [4, 11], [0, 1, -1]) ws (vs) := by
    refine ⟨nf_in hl rfl, sgq_7 ?_⟩
    · show 1 * v_iv (n_v vs 4) + ((-1) * v_iv (n_v vs 11) + 0) ≤ 0
      omega
  have nf2 : fc_1 PRD (23, [11, 2], [0, 1, -1]) ws (vs) := by
    refine ⟨nf_in hl rfl, sgq_7 ?_⟩
    · show 1 * v_iv (n_v vs 11) + ((-1) * v_iv (n_v vs 2) + 0) ≤ 0
      omega
  have nf3 : fc_1 PRD (20, [12, 2, 0], [50, 0, 1, 2022, 3, 6, 1, 2, 1, 0, 0, -1, 2, 6, 0, 2, 0, 0, 1, 0, 2, 10, 0, 6, 4, 2, 1, 0, 0, 1, 1, 1, 1, 5, 3, 2, 22, 1, 0, 0, 1]) ws (vs) := by
    refine ⟨nf_in hl rfl, sgq_1814 ?_⟩
    · show (v_iv (n_v vs 12) = (-1)) ∨ ((0 ≤ v_iv (n_v vs 12)) ∧ (((v_iv (n_v vs 12) + 1) ≤ v_iv (n_v vs 2)) ∧ (w_ei ws (w_ar ws (n_v vs 0) 22) (v_iv (n_v vs 12)) = 1)))
      first | (omega) | (set_option maxHeartbeats 200000 in grind)
  refine ⟨(fun _ h => (by cases h)), [], trivial, ?_, (fun _ h => (by cases h))⟩
  rw [List.append_nil]
  exact List.forall_mem_cons.mpr ⟨⟨show (20 : Nat) < 100 from by decide, nf0⟩, List.forall_mem_cons.mpr ⟨⟨show (23 : Nat) < 100 from by decide, nf1⟩, List.forall_mem_cons.mpr ⟨⟨show (23 : Nat) < 100 from by decide, nf2⟩, List.forall_mem_cons.mpr ⟨⟨show (20 : Nat) < 100 from by decide, nf3⟩, (fun _ h => (by cases h))⟩⟩⟩⟩
def n_Mo_matrix_an : List an_T := [(13, [(0, (2, 0, 0, [165])), (1, (0, 0, 3, [])), (2, (0, 0, 24, [])), (3, (0, 0, 0, [])), (4, (0, 0, 0, [])), (5, (0, 0, 24, []))], [], (0, 0), [(0, 0, 99987), (1, 5, 24), (0, 0, 100000), (0, 0, 0), (0, 0, 0)], [(5, 2, (Int.negSucc 999999999999), 0)], [], [], 0, [], [(20, [2, 0], [50, 1, 1, 1005, 1002, 1, 2, 1, 0, 3, 1, 2, 4, 3, 2, 1, 5, 0, 0]), (20, [5, 0], [50, 0, 1, 1022, 5, 2, 1, 0, 1, 5, 3, 1, 22, 7, 0, 0, 1])]), (33, [(0, (2, 0, 0, [165])), (1, (0, 0, 3, [])), (2, (0, 0, 24, [])), (3, (0, 0, 24, [])), (4, (0, 0, 24, [])), (5, (0, 0, 25, []))], [], (0, 0), [(0, 0, 99967), (2, 6, 0), (0, 0, 100000), (0, 0, 0), (0, 0, 0)], [(5, 2, (Int.negSucc 999999999999), 24)], [], [], 0, [(0, 0, 24, [])], [(20, [2, 0], [50, 1, 1, 1005, 1002, 1, 2, 1, 0, 3, 1, 2, 4, 3, 2, 1, 5, 0, 0]), (20, [0, 2, 3], [50, 0, 1, 22, 1, 8, 15, 0, 22, 2, 1, 1, 0, 0, 1, 2]), (23, [4, 3], [0, 1, (Int.negSucc 0)]), (23, [3, 2], [0, 1, (Int.negSucc 0)]), (20, [6, 4], [30, 24, 1, 0, 0, 1, 0, 0]), (20, [6, 4], [30, (Int.negSucc 23), (Int.negSucc 0), 0, 0, (Int.negSucc 0), 0, 0])]), (90, [(0, (2, 0, 0, [165])), (1, (0, 0, 3, [])), (2, (0, 1, 24, [])), (3, (0, 0, 24, [])), (4, (0, 1, 24, [])), (5, (0, 0, 25, [])), (6, (0, (Int.negSucc 0), 23, []))], [], (0, 0), [(0, 0, 99967), (2, 7, 0), (0, 0, 99910), (1, 3, 24), (0, 0, 100000)], [], [], [], 0, [(0, 0, 24, [])], [(20, [2, 0], [50, 1, 1, 1005, 1002, 1, 2, 1, 0, 3, 1, 2, 4, 3, 2, 1, 5, 0, 0]), (20, [0, 2, 3], [50, 0, 1, 22, 1, 8, 15, 0, 22, 2, 1, 1, 0, 0, 1, 2]), (23, [4, 3], [0, 1, (Int.negSucc 0)]), (23, [3, 2], [0, 1, (Int.negSucc 0)]), (20, [6, 2, 0], [50, 0, 1, 2022, 3, 6, 1, 2, 1, 0, 0, (Int.negSucc 0), 2, 6, 0, 2, 0, 0, 1, 0, 2, 10, 0, 6, 4, 2, 1, 0, 0, 1, 1, 1, 1, 5, 3, 2, 22, 1, 0, 0, 1]), (20, [7, 4], [30, (Int.negSucc 24), (Int.negSucc 0), 0, 0, (Int.negSucc 0), 0, 0])]), (134, [(0, (2, 0, 0, [165])), (1, (0, 0, 3, [])), (2, (0, 0, 24, [])), (3, (0, 0, 24, [])), (4, (0, 0, 24, [])), (5, (0, 0, 0, [])), (6, (0, 0, 24, []))], [], (0, 0), [(0, 0, 99866), (1, 6, 24), (0, 0, 100000), (0, 0, 0), (0, 0, 0)], [(2, 3, (Int.negSucc 999999999999), 0), (6, 2, (Int.negSucc 999999999999), 0), (6, 3, (Int.negSucc 999999999999), 0)], [], [], 0, [], []), (167, [(0, (2, 0, 0, [165])), (1, (0, 0, 3, [])), (2, (0, 0, 24, [])), (3, (0, 0, 24, [])), (4, (0, 0, 24, [])), (5, (0, 0, 0, [])), (6, (0, 0, 24, []))], [], (0, 0), [(0, 0, 99833), (1, 6, 24), (0, 0, 100000), (0, 0, 0), (0, 0, 0)], [(2, 3, (Int.negSucc 999999999999), 0), (6, 2, (Int.negSucc 999999999999), 0), (6, 3, (Int.negSucc 999999999999), 0)], [], [], 0, [], []), (214, [(0, (2, 0, 0, [165])), (1, (0, 0, 3, [])), (2, (0, 0, 24, [])), (3, (0, 0, 24, [])), (4, (0, 0, 24, [])), (5, (0, 0, 47, [])), (6, (0, 0, 48, []))], [], (0, 0), [(0, 0, 99786), (1, 6, 48), (0, 0, 100000), (0, 0, 0), (0, 0, 0)], [(2, 3, (Int.negSucc 999999999999), 0), (5, 6, (Int.negSucc 999999999999), 46)], [], [], 0, [], [])]
def t_Mo_matrix_ct : ct_L := [(0, 855, e_Mo_max), (1, 394, e_Mo_tail), (1, 398, e_Mo_head), (1, 401, e_Mo_edges), (1, 475, e_Mo_nodes), (1, 1017, e_Mo_fewest)]
set_option maxRecDepth 100000 in
theorem c_Mo_matrix {l : Launch} {D : va_G} {kA : Nat → ClassId} (h_Mo_edges : ct_ok PRD l D kA GG y_Mo_edges z_Mo_edges e_Mo_edges) (h_Mo_fewest : ct_ok PRD l D kA GG y_Mo_fewest z_Mo_fewest e_Mo_fewest) (h_Mo_head : ct_ok PRD l D kA GG y_Mo_head z_Mo_head e_Mo_head) (h_Mo_max : ct_ok PRD l D kA GG y_Mo_max z_Mo_max e_Mo_max) (h_Mo_nodes : ct_ok PRD l D kA GG y_Mo_nodes z_Mo_nodes e_Mo_nodes) (h_Mo_tail : ct_ok PRD l D kA GG y_Mo_tail z_Mo_tail e_Mo_tail) : ct_ok PRD l D kA GG y_Mo_matrix z_Mo_matrix e_Mo_matrix := chk_all_ok (FT := [(48, 13, 22), (138, 13, 67), (159, 13, 74), (162, 13, 75), (213, 13, 96), (293, 13, 128)]) (PT := []) (CT := t_Mo_matrix_ct) (KT := []) (NT := []) (AN := n_Mo_matrix_an) (OT := [o_Mo_matrix_0, o_Mo_matrix_1, o_Mo_matrix_2, o_Mo_matrix_3, o_Mo_matrix_4, o_Mo_matrix_5, o_Mo_matrix_6, o_Mo_matrix_7, o_Mo_matrix_8, o_Mo_matrix_9, o_Mo_matrix_10]) 5 728 (List.forall_mem_cons.mpr ⟨oo_Mo_matrix_0, List.forall_mem_cons.mpr ⟨oo_Mo_matrix_1, List.forall_mem_cons.mpr ⟨oo_Mo_matrix_2, List.forall_mem_cons.mpr ⟨oo_Mo_matrix_3, List.forall_mem_cons.mpr ⟨oo_Mo_matrix_4, List.forall_mem_cons.mpr ⟨oo_Mo_matrix_5, List.forall_mem_cons.mpr ⟨oo_Mo_matrix_6, List.forall_mem_cons.mpr ⟨oo_Mo_matrix_7, List.forall_mem_cons.mpr ⟨oo_Mo_matrix_8, List.forall_mem_cons.mpr ⟨oo_Mo_matrix_9, List.forall_mem_cons.mpr ⟨oo_Mo_matrix_10, List.forall_mem_nil _⟩⟩⟩⟩⟩⟩⟩⟩⟩⟩⟩) (by decide +kernel) ⟨List.forall_mem_cons.mpr ⟨gf_Mo_48, List.forall_mem_cons.mpr ⟨gf_Mo_138, List.forall_mem_cons.mpr ⟨gf_Mo_159, List.forall_mem_cons.mpr ⟨gf_Mo_162, List.forall_mem_cons.mpr ⟨gf_Mo_213, List.forall_mem_cons.mpr ⟨gf_Mo_293, List.forall_mem_nil _⟩⟩⟩⟩⟩⟩, List.forall_mem_nil _, List.forall_mem_cons.mpr ⟨cl_static (y := y_Mo_max) h_Mo_max wm_3430 wm_9 wm_3428 wm_3429 ⟨by decide, by decide, by decide +kernel⟩ (by decide), List.forall_mem_cons.mpr ⟨cl_virtual (y := y_Mo_tail) (ci := 13) rfl rfl ⟨_, _, rfl⟩ (by decide +kernel) h_Mo_tail wm_3045 wm_9 wm_3042 wm_3044 wv_13_8 ⟨by decide, by decide, by decide +kernel⟩ (by decide), List.forall_mem_cons.mpr ⟨cl_virtual (y := y_Mo_head) (ci := 13) rfl rfl ⟨_, _, rfl⟩ (by decide +kernel) h_Mo_head wm_3049 wm_9 wm_3046 wm_3048 wv_13_9 ⟨by decide, by decide, by decide +kernel⟩ (by decide), List.forall_mem_cons.mpr ⟨cl_virtual (y := y_Mo_edges) (ci := 13) rfl rfl ⟨_, _, rfl⟩ (by decide +kernel) h_Mo_edges wm_3037 wm_9 wm_3034 wm_3036 wv_13_6 ⟨by decide, by decide, by decide +kernel⟩ (by decide), List.forall_mem_cons.mpr ⟨cl_virtual (y := y_Mo_nodes) (ci := 13) rfl rfl ⟨_, _, rfl⟩ (by decide +kernel) h_Mo_nodes wm_3025 wm_9 wm_3022 wm_3024 wv_13_3 ⟨by decide, by decide, by decide +kernel⟩ (by decide), List.forall_mem_cons.mpr ⟨cl_virtual (y := y_Mo_fewest) (ci := 13) rfl rfl ⟨_, _, rfl⟩ (by decide +kernel) h_Mo_fewest wm_3644 wm_9 wm_3641 wm_3643 wv_21_11 ⟨by decide, by decide, by decide +kernel⟩ (by decide), List.forall_mem_nil _⟩⟩⟩⟩⟩⟩, List.forall_mem_nil _, List.forall_mem_nil _, GG_pl⟩ (by decide +kernel)

set_option maxHeartbeats 4000000 in
theorem vc_Mo_ring_0_0 (x2 : Int) (all_0 : Int → Int) (r_0 : Int) (k2 : 0 ≤ x2 ∧ x2 ≤ 24) (f0 : 1 * x2 + ((-1) * all_0 (r_0 + 0) + 0) ≤ 0) (f1 : (-1) * x2 + (1 * all_0 (r_0 + 0) + 0) ≤ 0) : x2 ≤ 24 := by
  first
    | omega
    | (have h := orm_pos (by omega) (by omega) (‹OZ2 _ _ _ _› (by omega)); omega)
    | (have h := orm_pos (by omega) (by omega) ‹ORM _ _ _›; omega)
set_option maxHeartbeats 4000000 in
theorem vc_Mo_ring_0_1 (x2 : Int) (all_0 : Int → Int) (r_0 : Int) (k2 : 0 ≤ x2 ∧ x2 ≤ 24) (f0 : 1 * x2 + ((-1) * all_0 (r_0 + 0) + 0) ≤ 0) (f1 : (-1) * x2 + (1 * all_0 (r_0 + 0) + 0) ≤ 0) : 0 ≤ x2 := by
  first
    | omega
    | (have h := orm_pos (by omega) (by omega) (‹OZ2 _ _ _ _› (by omega)); omega)
    | (have h := orm_pos (by omega) (by omega) ‹ORM _ _ _›; omega)
set_option maxHeartbeats 4000000 in
theorem vc_Mo_ring_0_2 (x3 : Int) (order_0 : Int → Int) (k3 : 0 ≤ x3 ∧ x3 ≤ 0) : IDN (order_0) (x3) := by
  first
    | (intro j a b; exfalso; omega)
    | exact idn_step ‹IDN _ _› (by omega) (by assumption) (by omega) (by omega)
def o_Mo_ring_0 : or_T := (7, 4, [(2, (0, 0, 24, [])), (3, (0, 0, 0, []))], [(20, [2, 0], [30, 0, 1, 0, 0, -1, 3, 2005000]), (20, [2, 0], [30, 0, -1, 0, 0, 1, 3, 2005000])], [], [], [(20, [2], [50, 0, 0, 0, 2, 1, 0, 0, 24]), (20, [2], [50, 0, 0, 0, 2, 0, 0, 1, 0]), (20, [0, 3], [60, 0, 1, 337, 96])], [], [])
theorem oo_Mo_ring_0 {kA : Nat → ClassId} : or_ok PRD kA GG o_Mo_ring_0 := by
  refine or_mk fun A ta ws vs hD hth hl => ?_
  intro t2 k2 t3 k3 f0 f1
  have nf0 : fc_1 PRD (20, [2], [50, 0, 0, 0, 2, 1, 0, 0, 24]) ws (vs) := ⟨nf_in hl rfl, sgq_1656 (vc_Mo_ring_0_0 (v_iv (n_v vs 2)) (w_ei ws (w_ar ws (n_v vs 0) 2)) (w_fi ws (n_v vs 0) 5) k2 (shm_126 f0) (shm_127 f1))⟩
  have nf1 : fc_1 PRD (20, [2], [50, 0, 0, 0, 2, 0, 0, 1, 0]) ws (vs) := ⟨nf_in hl rfl, sgq_722 (vc_Mo_ring_0_1 (v_iv (n_v vs 2)) (w_ei ws (w_ar ws (n_v vs 0) 2)) (w_fi ws (n_v vs 0) 5) k2 (shm_126 f0) (shm_127 f1))⟩
  have nf2 : fc_1 PRD (20, [0, 3], [60, 0, 1, 337, 96]) ws (vs) := ⟨nf_in hl rfl, sgq_1816 (vc_Mo_ring_0_2 (v_iv (n_v vs 3)) (w_ei ws (w_ar ws (n_v vs 0) 96)) k3)⟩
  refine ⟨(fun _ h => (by cases h)), [], trivial, ?_, (fun _ h => (by cases h))⟩
  rw [List.append_nil]
  exact List.forall_mem_cons.mpr ⟨⟨show (20 : Nat) < 100 from by decide, nf0⟩, List.forall_mem_cons.mpr ⟨⟨show (20 : Nat) < 100 from by decide, nf1⟩, List.forall_mem_cons.mpr ⟨⟨show (20 : Nat) < 100 from by decide, nf2⟩, (fun _ h => (by cases h))⟩⟩⟩
set_option maxHeartbeats 4000000 in
theorem vc_Mo_ring_1_0 (x2 : Int) (x3 : Int) (order_0 : Int → Int) (k2 : 9 ≤ x2 ∧ x2 ≤ 24) (k3 : 9 ≤ x3 ∧ x3 ≤ 24) (f1 : x2 ≤ x3) (f4 : IDN (order_0) (x3)) : PRM (order_0) (x2) := by
  first
    | assumption
    | exact (idn_dis ‹IDN _ _› (by omega)).2
def o_Mo_ring_1 : or_T := (150, 6, [(2, (0, 9, 24, [])), (3, (0, 9, 24, []))], [(7, [3, 2], [3]), (20, [0, 3], [60, 0, 1, 337, 96])], [], [], [(20, [0, 2], [60, 0, 1, 338, 96])], [], [])
theorem oo_Mo_ring_1 {kA : Nat → ClassId} : or_ok PRD kA GG o_Mo_ring_1 := by
  refine or_mk fun A ta ws vs hD hth hl => ?_
  intro t2 k2 t3 k3 f1 f4
  have nf0 : fc_1 PRD (20, [0, 2], [60, 0, 1, 338, 96]) ws (vs) := ⟨nf_in hl rfl, sgq_1657 (vc_Mo_ring_1_0 (v_iv (n_v vs 2)) (v_iv (n_v vs 3)) (w_ei ws (w_ar ws (n_v vs 0) 96)) k2 k3 (shm_2 f1) (shm_1816 f4))⟩
  refine ⟨(fun _ h => (by cases h)), [], trivial, ?_, (fun _ h => (by cases h))⟩
  rw [List.append_nil]
  exact List.forall_mem_cons.mpr ⟨⟨show (20 : Nat) < 100 from by decide, nf0⟩, (fun _ h => (by cases h))⟩
set_option maxHeartbeats 4000000 in
theorem vc_Mo_ring_2_0 (x2 : Int) (k2 : 0 ≤ x2 ∧ x2 ≤ 8) (f2 : x2 ≤ 24) : x2 ≤ 24 := by
  first
    | omega
    | (have h := orm_pos (by omega) (by omega) (‹OZ2 _ _ _ _› (by omega)); omega)
    | (have h := orm_pos (by omega) (by omega) ‹ORM _ _ _›; omega)
set_option maxHeartbeats 4000000 in
theorem vc_Mo_ring_2_1 (x2 : Int) (k2 : 0 ≤ x2 ∧ x2 ≤ 8) (f3 : 0 ≤ x2) : 0 ≤ x2 := by
  first
    | omega
    | (have h := orm_pos (by omega) (by omega) (‹OZ2 _ _ _ _› (by omega)); omega)
    | (have h := orm_pos (by omega) (by omega) ‹ORM _ _ _›; omega)
set_option maxHeartbeats 4000000 in
theorem vc_Mo_ring_2_2 (x2 : Int) (x3 : Int) (k2 : 0 ≤ x2 ∧ x2 ≤ 8) (k3 : 0 ≤ x3 ∧ x3 ≤ 8) (d0 : x2 + 0 ≤ x3 ∧ x3 ≤ x2 + 4294967296) (d1 : x2 + (-4294967296) ≤ x3 ∧ x3 ≤ x2 + 0) : x2 ≤ 8 := by
  first
    | omega
    | (have h := orm_pos (by omega) (by omega) (‹OZ2 _ _ _ _› (by omega)); omega)
    | (have h := orm_pos (by omega) (by omega) ‹ORM _ _ _›; omega)
set_option maxHeartbeats 4000000 in
theorem vc_Mo_ring_2_3 (x2 : Int) (x3 : Int) (order_0 : Int → Int) (k2 : 0 ≤ x2 ∧ x2 ≤ 8) (k3 : 0 ≤ x3 ∧ x3 ≤ 8) (f1 : x2 ≤ x3) (f4 : IDN (order_0) (x3)) : DIS (order_0) (x2) := by
  first
    | assumption
    | exact (idn_dis ‹IDN _ _› (by omega)).1
set_option maxHeartbeats 4000000 in
theorem vc_Mo_ring_2_4 (x2 : Int) (x3 : Int) (x6 : Int) (order_0 : Int → Int) (gx : Int) (k2 : 0 ≤ x2 ∧ x2 ≤ 8) (k3 : 0 ≤ x3 ∧ x3 ≤ 8) (k6 : 1 ≤ x6 ∧ x6 ≤ 1) (d0 : x2 + 0 ≤ x3 ∧ x3 ≤ x2 + 4294967296) (d1 : x2 + (-4294967296) ≤ x3 ∧ x3 ≤ x2 + 0) (f3 : 0 ≤ x2) (ex2 : gx = 16777216) : OZ2 (order_0) (x2) (gx) (x6) := by
  first
    | exact fun _ => orm_start (by omega) (by omega) (by omega)
    | (intro z
       have h := ‹ORN _ _ _ _› z
       unfold ORM
       omega)
def o_Mo_ring_2 : or_T := (38, 7, [(0, (2, 0, 0, [165])), (2, (0, 0, 8, [])), (3, (0, 0, 8, [])), (4, (0, 8, 8, [])), (6, (0, 1, 1, []))], [(7, [2, 4], [5]), (7, [3, 2], [3]), (20, [2], [50, 0, 0, 0, 2, 1, 0, 0, 24]), (20, [2], [50, 0, 0, 0, 2, 0, 0, 1, 0]), (20, [0, 3], [60, 0, 1, 337, 96])], [], [(0, -2, 16777216, [])], [(20, [2], [50, 0, 0, 0, 2, 1, 0, 0, 24]), (20, [2], [50, 0, 0, 0, 2, 0, 0, 1, 0]), (20, [2], [50, 0, 0, 0, 2, 1, 0, 0, 8]), (20, [0, 2], [60, 0, 1, 322, 96]), (20, [0, 2, 7, 6], [60, 0, 1, 333, 96])], [], [(3, 2, 0, 4294967296), (3, 2, -4294967296, 0)])
theorem oo_Mo_ring_2 {kA : Nat → ClassId} : or_ok PRD kA GG o_Mo_ring_2 := by
  refine or_mk fun A ta ws vs hD hth hl => ?_
  intro t0 r0 t2 k2 t3 k3 t4 k4 t6 k6 d0 d1 f0 f1 f2 f3 f4
  replace f1 := shm_2 f1
  replace f2 := shm_1656 f2
  replace f3 := shm_722 f3
  replace f4 := shm_1816 f4
  obtain ⟨x, ex, hx⟩ := iv_ex (ta := ta) (lo := (-2)) (hi := 16777216) (z := 16777216) (by omega) (by omega) (by omega) (by omega)
  have ex2 : v_iv (Value.int x) = 16777216 := ex
  have ex3 : (-2) ≤ v_iv (Value.int x) ∧ v_iv (Value.int x) ≤ 16777216 := tv_rng hx
  have e_0 : n_v (vs ++ [Value.int x]) 0 = n_v vs 0 := n_v_old (by rw [hl]; decide)
  have e_2 : n_v (vs ++ [Value.int x]) 2 = n_v vs 2 := n_v_old (by rw [hl]; decide)
  have e_6 : n_v (vs ++ [Value.int x]) 6 = n_v vs 6 := n_v_old (by rw [hl]; decide)
  have e_7 : n_v (vs ++ [Value.int x]) 7 = Value.int x := n_v_new hl
  have nf0 : fc_1 PRD (20, [2], [50, 0, 0, 0, 2, 1, 0, 0, 24]) ws (vs ++ [Value.int x]) := by
    refine ⟨nf_inA hl rfl, sgq_1656 ?_⟩
    · show v_iv (n_v (vs ++ [Value.int x]) 2) ≤ 24
      rw [e_2]
      exact vc_Mo_ring_2_0 (v_iv (n_v vs 2)) k2 f2
  have nf1 : fc_1 PRD (20, [2], [50, 0, 0, 0, 2, 0, 0, 1, 0]) ws (vs ++ [Value.int x]) := by
    refine ⟨nf_inA hl rfl, sgq_722 ?_⟩
    · show 0 ≤ v_iv (n_v (vs ++ [Value.int x]) 2)
      rw [e_2]
      exact vc_Mo_ring_2_1 (v_iv (n_v vs 2)) k2 f3
  have nf2 : fc_1 PRD (20, [2], [50, 0, 0, 0, 2, 1, 0, 0, 8]) ws (vs ++ [Value.int x]) := by
    refine ⟨nf_inA hl rfl, sgq_660 ?_⟩
    · show v_iv (n_v (vs ++ [Value.int x]) 2) ≤ 8
      rw [e_2]
      exact vc_Mo_ring_2_2 (v_iv (n_v vs 2)) (v_iv (n_v vs 3)) k2 k3 d0 d1
  have nf3 : fc_1 PRD (20, [0, 2], [60, 0, 1, 322, 96]) ws (vs ++ [Value.int x]) := by
    refine ⟨nf_inA hl rfl, sgq_661 ?_⟩
    · show DIS (w_ei ws (w_ar ws (n_v (vs ++ [Value.int x]) 0) 96)) (v_iv (n_v (vs ++ [Value.int x]) 2))
      simp only [e_0, e_2]
      exact vc_Mo_ring_2_3 (v_iv (n_v vs 2)) (v_iv (n_v vs 3)) (w_ei ws (w_ar ws (n_v vs 0) 96)) k2 k3 f1 f4
  have nf4 : fc_1 PRD (20, [0, 2, 7, 6], [60, 0, 1, 333, 96]) ws (vs ++ [Value.int x]) := by
    refine ⟨nf_inA hl rfl, sgq_1817 ?_⟩
    · show OZ2 (w_ei ws (w_ar ws (n_v (vs ++ [Value.int x]) 0) 96)) (v_iv (n_v (vs ++ [Value.int x]) 2)) (v_iv (n_v (vs ++ [Value.int x]) 7)) (v_iv (n_v (vs ++ [Value.int x]) 6))
      simp only [e_0, e_2, e_6, e_7]
      exact vc_Mo_ring_2_4 (v_iv (n_v vs 2)) (v_iv (n_v vs 3)) (v_iv (n_v vs 6)) (w_ei ws (w_ar ws (n_v vs 0) 96)) (v_iv (Value.int x)) k2 k3 k6 d0 d1 f3 ex2
  exact ⟨(fun _ h => (by cases h)), [Value.int x], ag_one hx, List.forall_mem_cons.mpr ⟨⟨show (20 : Nat) < 100 from by decide, nf0⟩, List.forall_mem_cons.mpr ⟨⟨show (20 : Nat) < 100 from by decide, nf1⟩, List.forall_mem_cons.mpr ⟨⟨show (20 : Nat) < 100 from by decide, nf2⟩, List.forall_mem_cons.mpr ⟨⟨show (20 : Nat) < 100 from by decide, nf3⟩, List.forall_mem_cons.mpr ⟨⟨show (20 : Nat) < 100 from by decide, nf4⟩, (fun _ h => (by cases h))⟩⟩⟩⟩⟩, (fun _ h => (by cases h))⟩
set_option maxHeartbeats 4000000 in
theorem vc_Mo_ring_3_0 (x3 : Int) (x5 : Int) (order_1 : Int → Int) (order_0 : Int → Int) (k3 : 0 ≤ x3 ∧ x3 ≤ 23) (k5 : 1 ≤ x5 ∧ x5 ≤ 24) (f0 : x5 = x3 + 1) (f8 : IDN (order_1) (x3)) (hE_0_96_1 : ∀ j : Int, 0 ≤ j → (j = x3 → order_0 j = x3) ∧ (j ≠ x3 → order_0 j = order_1 j)) : IDN (order_0) (x5) := by
  first
    | (intro j a b; exfalso; omega)
    | exact idn_step ‹IDN _ _› (by omega) (by assumption) (by omega) (by omega)
def o_Mo_ring_3 : or_T := (7, 6, [(0, (2, 0, 0, [165])), (3, (0, 0, 23, [])), (5, (0, 1, 24, []))], [(6, [5, 3], [1]), (100, [4, 3, 3], []), (9, [4, 0], [96]), (20, [0, 3], [60, 0, 1, 337, 96])], [], [], [(20, [0, 5], [60, 0, 1, 337, 96])], [], [(5, 3, 1, 1), (3, 2, -4294967296, -1), (3, 2, -4294967296, 0)])
theorem oo_Mo_ring_3 {kA : Nat → ClassId} : or_ok PRD kA GG o_Mo_ring_3 := by
  refine or_mk fun A ta ws vs hD hth hl => ?_
  intro t0 r0 t3 k3 t5 k5 d0 d3 d4 f0 ta1 w1 le1 s1 f4 f8
  have s1 : (∀ b j, w_el ws b j = if b = v_ad (n_v vs 4) ∧ j = (v_iv (n_v vs 3)).toNat then v_iv (n_v vs 3) else w_el w1 b j) ∧ ∀ b k, w_fd ws b k = w_fd w1 b k := s1.2
  replace f4 := shm_666 f4
  replace f8 := shm_1816 f8
  have ar_0_96_1 : w_ar w1 (n_v vs 0) 96 = w_ar ws (n_v vs 0) 96 := congrArg v_ad (s1.2 _ _).symm
  have ad_4 : v_ad (n_v vs 4) = w_ar ws (n_v vs 0) 96 := (congrArg v_ad f4).trans ar_0_96_1
  simp only [ar_0_96_1] at f8
  have hE_0_96_1 : ∀ j : Int, 0 ≤ j → (j = v_iv (n_v vs 3) → w_ei ws (w_ar ws (n_v vs 0) 96) j = v_iv (n_v vs 3)) ∧ (j ≠ v_iv (n_v vs 3) → w_ei ws (w_ar ws (n_v vs 0) 96) j = w_ei w1 (w_ar ws (n_v vs 0) 96) j) := fun j hj => ⟨fun h => by unfold w_ei; rw [s1.1, if_pos ⟨ad_4.symm, by rw [h]⟩], fun h => by unfold w_ei; rw [s1.1, if_neg (fun e => h (by have := e.2; omega))]⟩
  have nf0 : fc_1 PRD (20, [0, 5], [60, 0, 1, 337, 96]) ws (vs) := ⟨nf_in hl rfl, sgq_1816 (vc_Mo_ring_3_0 (v_iv (n_v vs 3)) (v_iv (n_v vs 5)) (w_ei w1 (w_ar ws (n_v vs 0) 96)) (w_ei ws (w_ar ws (n_v vs 0) 96)) k3 k5 (shm_4 f0) f8 hE_0_96_1)⟩
  refine ⟨(fun _ h => (by cases h)), [], trivial, ?_, (fun _ h => (by cases h))⟩
  rw [List.append_nil]
  exact List.forall_mem_cons.mpr ⟨⟨show (20 : Nat) < 100 from by decide, nf0⟩, (fun _ h => (by cases h))⟩
set_option maxHeartbeats 4000000 in
theorem vc_Mo_ring_4_0 (x2 : Int) (k2 : 0 ≤ x2 ∧ x2 ≤ 8) : x2 = x2 := by
  first
    | omega
    | (have h := orm_pos (by omega) (by omega) (‹OZ2 _ _ _ _› (by omega)); omega)
    | (have h := orm_pos (by omega) (by omega) ‹ORM _ _ _›; omega)
set_option maxHeartbeats 4000000 in
theorem vc_Mo_ring_4_1 (x5 : Int) (gx : Int) (k5 : (-2) ≤ x5 ∧ x5 ≤ 16777216) (ex2 : gx = x5) : 1 * gx + ((-1) * x5 + 0) ≤ 0 := by
  first
    | omega
    | (have h := orm_pos (by omega) (by omega) (‹OZ2 _ _ _ _› (by omega)); omega)
    | (have h := orm_pos (by omega) (by omega) ‹ORM _ _ _›; omega)
set_option maxHeartbeats 4000000 in
theorem vc_Mo_ring_4_2 (x5 : Int) (gx : Int) (k5 : (-2) ≤ x5 ∧ x5 ≤ 16777216) (ex2 : gx = x5) : (-1) * gx + (1 * x5 + 0) ≤ 0 := by
  first
    | omega
    | (have h := orm_pos (by omega) (by omega) (‹OZ2 _ _ _ _› (by omega)); omega)
    | (have h := orm_pos (by omega) (by omega) ‹ORM _ _ _›; omega)
set_option maxHeartbeats 4000000 in
theorem vc_Mo_ring_4_3 (x2 : Int) (k2 : 0 ≤ x2 ∧ x2 ≤ 8) (f2 : x2 ≤ 8) : x2 ≤ 8 := by
  first
    | omega
    | (have h := orm_pos (by omega) (by omega) (‹OZ2 _ _ _ _› (by omega)); omega)
    | (have h := orm_pos (by omega) (by omega) ‹ORM _ _ _›; omega)
set_option maxHeartbeats 4000000 in
theorem vc_Mo_ring_4_4 (x2 : Int) (order_0 : Int → Int) (k2 : 0 ≤ x2 ∧ x2 ≤ 8) (f3 : DIS (order_0) (x2)) : DIS (order_0) (x2) := by
  assumption
set_option maxHeartbeats 4000000 in
theorem vc_Mo_ring_4_5 (x2 : Int) (x4 : Int) (x5 : Int) (order_0 : Int → Int) (gx : Int) (k2 : 0 ≤ x2 ∧ x2 ≤ 8) (k4 : 1 ≤ x4 ∧ x4 ≤ 1) (k5 : (-2) ≤ x5 ∧ x5 ≤ 16777216) (f4 : OZ2 (order_0) (x2) (x5) (x4)) (f6 : x4 ≠ 0) (ex2 : gx = x5) : ORM (order_0) (x2) (gx) := by
  first
    | assumption
    | exact ‹OZ2 _ _ _ _› (by omega)
    | (have h := ‹ORM _ _ _›; unfold ORM at h ⊢; omega)
    | (have h := ‹ORM _ _ _›; unfold ORM at h ⊢; rw [show x6 = x2 by omega]; omega)
    | (have h := ‹ORM _ _ _›; unfold ORM at h ⊢; rw [show x7 = x2 by omega]; omega)
    | (have h := ‹OZ2 _ _ _ _› (by omega); unfold ORM at h ⊢; omega)
set_option maxHeartbeats 4000000 in
theorem vc_Mo_ring_4_6 (x2 : Int) (x4 : Int) (x5 : Int) (order_0 : Int → Int) (gx : Int) (k2 : 0 ≤ x2 ∧ x2 ≤ 8) (k4 : 1 ≤ x4 ∧ x4 ≤ 1) (k5 : (-2) ≤ x5 ∧ x5 ≤ 16777216) (f1 : 0 ≤ x2) (f2 : x2 ≤ 8) (f4 : OZ2 (order_0) (x2) (x5) (x4)) (f6 : x4 ≠ 0) (ex2 : gx = x5) : (-1) * x5 + 0 ≤ (-1) := by
  first
    | omega
    | (have h := orm_pos (by omega) (by omega) (‹OZ2 _ _ _ _› (by omega)); omega)
    | (have h := orm_pos (by omega) (by omega) ‹ORM _ _ _›; omega)
def o_Mo_ring_4 : or_T := (90, 7, [(2, (0, 0, 8, [])), (4, (0, 1, 1, [])), (5, (0, -2, 16777216, []))], [(20, [2], [50, 0, 0, 0, 2, 0, 0, 1, 0]), (20, [2], [50, 0, 0, 0, 2, 1, 0, 0, 8]), (20, [0, 2], [60, 0, 1, 322, 96]), (20, [0, 2, 5, 4], [60, 0, 1, 333, 96]), (102, [5], [463168356949264781694283940034751631413079938662562256157830336031652518559744]), (8, [4], [1])], [], [(0, -2, 16777216, [])], [(20, [2, 2], [50, 0, 0, 1, 2, 1, 0, 1, 1]), (23, [7, 5], [0, 1, -1]), (23, [7, 5], [0, -1, 1]), (20, [2], [50, 0, 0, 0, 2, 1, 0, 0, 8]), (20, [0, 2], [60, 0, 1, 322, 96]), (20, [0, 2, 7], [60, 0, 1, 323, 96]), (23, [5], [-1, -1])], [], [])
theorem oo_Mo_ring_4 {kA : Nat → ClassId} : or_ok PRD kA GG o_Mo_ring_4 := by
  refine or_mk fun A ta ws vs hD hth hl => ?_
  intro t2 k2 t4 k4 t5 k5 f1 f2 f3 f4 ta1 w1 le1 s1 f6
  replace f1 := shm_722 f1
  replace f2 := shm_660 f2
  replace f3 := shm_661 f3
  replace f4 := shm_1817 f4
  replace f6 := shm_142 f6
  obtain ⟨x, ex, hx⟩ := iv_ex (ta := ta) (lo := (-2)) (hi := 16777216) (z := v_iv (n_v vs 5)) (by omega) (by omega) (by omega) (by omega)
  have ex2 : v_iv (Value.int x) = v_iv (n_v vs 5) := ex
  have ex3 : (-2) ≤ v_iv (Value.int x) ∧ v_iv (Value.int x) ≤ 16777216 := tv_rng hx
  have e_0 : n_v (vs ++ [Value.int x]) 0 = n_v vs 0 := n_v_old (by rw [hl]; decide)
  have e_2 : n_v (vs ++ [Value.int x]) 2 = n_v vs 2 := n_v_old (by rw [hl]; decide)
  have e_5 : n_v (vs ++ [Value.int x]) 5 = n_v vs 5 := n_v_old (by rw [hl]; decide)
  have e_7 : n_v (vs ++ [Value.int x]) 7 = Value.int x := n_v_new hl
  have nf0 : fc_1 PRD (20, [2, 2], [50, 0, 0, 1, 2, 1, 0, 1, 1]) ws (vs ++ [Value.int x]) := by
    refine ⟨nf_inA hl rfl, sgq_1818 ?_⟩
    · exact rfl
  have nf1 : fc_1 PRD (23, [7, 5], [0, 1, -1]) ws (vs ++ [Value.int x]) := by
    refine ⟨nf_inA hl rfl, sgq_7 ?_⟩
    · show 1 * v_iv (n_v (vs ++ [Value.int x]) 7) + ((-1) * v_iv (n_v (vs ++ [Value.int x]) 5) + 0) ≤ 0
      simp only [e_5, e_7]
      exact vc_Mo_ring_4_1 (v_iv (n_v vs 5)) (v_iv (Value.int x)) k5 ex2
  have nf2 : fc_1 PRD (23, [7, 5], [0, -1, 1]) ws (vs ++ [Value.int x]) := by
    refine ⟨nf_inA hl rfl, sgq_22 ?_⟩
    · show (-1) * v_iv (n_v (vs ++ [Value.int x]) 7) + (1 * v_iv (n_v (vs ++ [Value.int x]) 5) + 0) ≤ 0
      simp only [e_5, e_7]
      exact vc_Mo_ring_4_2 (v_iv (n_v vs 5)) (v_iv (Value.int x)) k5 ex2
  have nf3 : fc_1 PRD (20, [2], [50, 0, 0, 0, 2, 1, 0, 0, 8]) ws (vs ++ [Value.int x]) := by
    refine ⟨nf_inA hl rfl, sgq_660 ?_⟩
    · show v_iv (n_v (vs ++ [Value.int x]) 2) ≤ 8
      rw [e_2]
      exact vc_Mo_ring_4_3 (v_iv (n_v vs 2)) k2 f2
  have nf4 : fc_1 PRD (20, [0, 2], [60, 0, 1, 322, 96]) ws (vs ++ [Value.int x]) := by
    refine ⟨nf_inA hl rfl, sgq_661 ?_⟩
    · show DIS (w_ei ws (w_ar ws (n_v (vs ++ [Value.int x]) 0) 96)) (v_iv (n_v (vs ++ [Value.int x]) 2))
      simp only [e_0, e_2]
      exact vc_Mo_ring_4_4 (v_iv (n_v vs 2)) (w_ei ws (w_ar ws (n_v vs 0) 96)) k2 f3
  have nf5 : fc_1 PRD (20, [0, 2, 7], [60, 0, 1, 323, 96]) ws (vs ++ [Value.int x]) := by
    refine ⟨nf_inA hl rfl, sgq_662 ?_⟩
    · show ORM (w_ei ws (w_ar ws (n_v (vs ++ [Value.int x]) 0) 96)) (v_iv (n_v (vs ++ [Value.int x]) 2)) (v_iv (n_v (vs ++ [Value.int x]) 7))
      simp only [e_0, e_2, e_7]
      exact vc_Mo_ring_4_5 (v_iv (n_v vs 2)) (v_iv (n_v vs 4)) (v_iv (n_v vs 5)) (w_ei ws (w_ar ws (n_v vs 0) 96)) (v_iv (Value.int x)) k2 k4 k5 f4 f6 ex2
  have nf6 : fc_1 PRD (23, [5], [-1, -1]) ws (vs ++ [Value.int x]) := by
    refine ⟨nf_inA hl rfl, sgq_626 ?_⟩
    · show (-1) * v_iv (n_v (vs ++ [Value.int x]) 5) + 0 ≤ (-1)
      rw [e_5]
      exact vc_Mo_ring_4_6 (v_iv (n_v vs 2)) (v_iv (n_v vs 4)) (v_iv (n_v vs 5)) (w_ei ws (w_ar ws (n_v vs 0) 96)) (v_iv (Value.int x)) k2 k4 k5 f1 f2 f4 f6 ex2
  exact ⟨(fun _ h => (by cases h)), [Value.int x], ag_one hx, List.forall_mem_cons.mpr ⟨⟨show (20 : Nat) < 100 from by decide, nf0⟩, List.forall_mem_cons.mpr ⟨⟨show (23 : Nat) < 100 from by decide, nf1⟩, List.forall_mem_cons.mpr ⟨⟨show (23 : Nat) < 100 from by decide, nf2⟩, List.forall_mem_cons.mpr ⟨⟨show (20 : Nat) < 100 from by decide, nf3⟩, List.forall_mem_cons.mpr ⟨⟨show (20 : Nat) < 100 from by decide, nf4⟩, List.forall_mem_cons.mpr ⟨⟨show (20 : Nat) < 100 from by decide, nf5⟩, List.forall_mem_cons.mpr ⟨⟨show (23 : Nat) < 100 from by decide, nf6⟩, (fun _ h => (by cases h))⟩⟩⟩⟩⟩⟩⟩, (fun _ h => (by cases h))⟩
set_option maxHeartbeats 4000000 in
theorem vc_Mo_ring_5_0 (x2 : Int) (k2 : 0 ≤ x2 ∧ x2 ≤ 8) (f6 : x2 ≤ 24) : x2 ≤ 24 := by
  first
    | omega
    | (have h := orm_pos (by omega) (by omega) (‹OZ2 _ _ _ _› (by omega)); omega)
    | (have h := orm_pos (by omega) (by omega) ‹ORM _ _ _›; omega)
set_option maxHeartbeats 4000000 in
theorem vc_Mo_ring_5_1 (x2 : Int) (k2 : 0 ≤ x2 ∧ x2 ≤ 8) (f7 : 0 ≤ x2) : 0 ≤ x2 := by
  first
    | omega
    | (have h := orm_pos (by omega) (by omega) (‹OZ2 _ _ _ _› (by omega)); omega)
    | (have h := orm_pos (by omega) (by omega) ‹ORM _ _ _›; omega)
set_option maxHeartbeats 4000000 in
theorem vc_Mo_ring_5_2 (x2 : Int) (k2 : 0 ≤ x2 ∧ x2 ≤ 8) (f8 : x2 ≤ 8) : x2 ≤ 8 := by
  first
    | omega
    | (have h := orm_pos (by omega) (by omega) (‹OZ2 _ _ _ _› (by omega)); omega)
    | (have h := orm_pos (by omega) (by omega) ‹ORM _ _ _›; omega)
set_option maxHeartbeats 4000000 in
theorem vc_Mo_ring_5_3 (x2 : Int) (order_0 : Int → Int) (k2 : 0 ≤ x2 ∧ x2 ≤ 8) (f9 : DIS (order_0) (x2)) : DIS (order_0) (x2) := by
  assumption
set_option maxHeartbeats 4000000 in
theorem vc_Mo_ring_5_4 (x2 : Int) (x9 : Int) (order_0 : Int → Int) (gx : Int) (k2 : 0 ≤ x2 ∧ x2 ≤ 8) (k9 : 0 ≤ x9 ∧ x9 ≤ 0) : ORN (order_0) (x2) (gx) (x9) := by
  first
    | (intro z; exfalso; omega)
    | (have h := ‹ORN _ _ _ _›; intro z; have := h z; omega)
    | (have h := ‹ORN _ _ _ _›; intro z; have := h (by omega); omega)
set_option maxHeartbeats 4000000 in
theorem vc_Mo_ring_5_5 (x5 : Int) (x7 : Int) (gx : Int) (k5 : (-2) ≤ x5 ∧ x5 ≤ 16777216) (k7 : (-2) ≤ x7 ∧ x7 ≤ 16777216) (f2 : 1 * x7 + ((-1) * x5 + 0) ≤ 0) (f3 : (-1) * x7 + (1 * x5 + 0) ≤ 0) (f5 : (-1) * x5 + 0 ≤ (-1)) (ex2 : gx = 0 + (1 * x5 + 0)) : (-1) * gx + 0 ≤ (-1) := by
  first
    | omega
    | (have h := orm_pos (by omega) (by omega) (‹OZ2 _ _ _ _› (by omega)); omega)
    | (have h := orm_pos (by omega) (by omega) ‹ORM _ _ _›; omega)
def o_Mo_ring_5 : or_T := (112, 10, [(0, (2, 0, 0, [165])), (2, (0, 0, 8, [])), (5, (0, -2, 16777216, [])), (7, (0, -2, 16777216, [])), (8, (0, 0, 0, [])), (9, (0, 0, 0, []))], [(8, [8], [0]), (20, [2, 2], [50, 0, 0, 1, 2, 1, 0, 1, 1]), (23, [7, 5], [0, 1, -1]), (23, [7, 5], [0, -1, 1]), (20, [2], [50, 0, 0, 0, 2, 1, 0, 0, 8]), (23, [5], [-1, -1]), (20, [2], [50, 0, 0, 0, 2, 1, 0, 0, 24]), (20, [2], [50, 0, 0, 0, 2, 0, 0, 1, 0]), (20, [2], [50, 0, 0, 0, 2, 1, 0, 0, 8]), (20, [0, 2], [60, 0, 1, 322, 96]), (20, [0, 2, 7, 8], [60, 0, 1, 324, 96]), (102, [7], [6901746346790563787434755862277025452451108972170386555162524223799296]), (23, [7, 5], [0, 1, -1]), (23, [7, 5], [0, -1, 1]), (23, [5], [-1, -1])], [], [(0, -2, 16777216, [])], [(20, [2], [50, 0, 0, 0, 2, 1, 0, 0, 24]), (20, [2], [50, 0, 0, 0, 2, 0, 0, 1, 0]), (20, [2], [50, 0, 0, 0, 2, 1, 0, 0, 8]), (20, [0, 2], [60, 0, 1, 322, 96]), (20, [0, 2, 10, 9], [60, 0, 1, 324, 96]), (23, [10], [-1, -1])], [(10, 5, 0, 0)], [])
theorem oo_Mo_ring_5 {kA : Nat → ClassId} : or_ok PRD kA GG o_Mo_ring_5 := by
  refine or_mk fun A ta ws vs hD hth hl => ?_
  intro t0 r0 t2 k2 t5 k5 t7 k7 t8 k8 t9 k9 f0 f1 f2 f3 f4 f5 f6 f7 f8 f9 f10 ta1 w1 le1 s1 f12 f13 f14
  replace f0 := shm_192 f0
  replace f1 := shm_1818 f1
  replace f2 := shm_7 f2
  replace f3 := shm_22 f3
  replace f4 := shm_660 f4
  replace f5 := shm_626 f5
  replace f6 := shm_1656 f6
  replace f7 := shm_722 f7
  replace f8 := shm_660 f8
  replace f9 := shm_661 f9
  replace f10 := shm_665 f10
  replace f12 := shm_7 f12
  replace f13 := shm_22 f13
  replace f14 := shm_626 f14
  have cr_0_96 := fdq_166 hD hth r0
  have hK_0_96 := elq_96 hD hth cr_0_96
  obtain ⟨x, ex, hx⟩ := iv_ex (ta := ta) (lo := (-2)) (hi := 16777216) (z := 0 + (1 * v_iv (n_v vs 5) + 0)) (by omega) (by omega) (by omega) (by omega)
  have ex2 : v_iv (Value.int x) = 0 + (1 * v_iv (n_v vs 5) + 0) := ex
  have ex3 : (-2) ≤ v_iv (Value.int x) ∧ v_iv (Value.int x) ≤ 16777216 := tv_rng hx
  have e_0 : n_v (vs ++ [Value.int x]) 0 = n_v vs 0 := n_v_old (by rw [hl]; decide)
  have e_2 : n_v (vs ++ [Value.int x]) 2 = n_v vs 2 := n_v_old (by rw [hl]; decide)
  have e_9 : n_v (vs ++ [Value.int x]) 9 = n_v vs 9 := n_v_old (by rw [hl]; decide)
  have e_10 : n_v (vs ++ [Value.int x]) 10 = Value.int x := n_v_new hl
  have nf0 : fc_1 PRD (20, [2], [50, 0, 0, 0, 2, 1, 0, 0, 24]) ws (vs ++ [Value.int x]) := by
    refine ⟨nf_inA hl rfl, sgq_1656 ?_⟩
    · show v_iv (n_v (vs ++ [Value.int x]) 2) ≤ 24
      rw [e_2]
      exact vc_Mo_ring_5_0 (v_iv (n_v vs 2)) k2 f6
  have nf1 : fc_1 PRD (20, [2], [50, 0, 0, 0, 2, 0, 0, 1, 0]) ws (vs ++ [Value.int x]) := by
    refine ⟨nf_inA hl rfl, sgq_722 ?_⟩
    · show 0 ≤ v_iv (n_v (vs ++ [Value.int x]) 2)
      rw [e_2]
      exact vc_Mo_ring_5_1 (v_iv (n_v vs 2)) k2 f7
  have nf2 : fc_1 PRD (20, [2], [50, 0, 0, 0, 2, 1, 0, 0, 8]) ws (vs ++ [Value.int x]) := by
    refine ⟨nf_inA hl rfl, sgq_660 ?_⟩
    · show v_iv (n_v (vs ++ [Value.int x]) 2) ≤ 8
      rw [e_2]
      exact vc_Mo_ring_5_2 (v_iv (n_v vs 2)) k2 f8
  have nf3 : fc_1 PRD (20, [0, 2], [60, 0, 1, 322, 96]) ws (vs ++ [Value.int x]) := by
    refine ⟨nf_inA hl rfl, sgq_661 ?_⟩
    · show DIS (w_ei ws (w_ar ws (n_v (vs ++ [Value.int x]) 0) 96)) (v_iv (n_v (vs ++ [Value.int x]) 2))
      simp only [e_0, e_2]
      exact vc_Mo_ring_5_3 (v_iv (n_v vs 2)) (w_ei ws (w_ar ws (n_v vs 0) 96)) k2 f9
  have nf4 : fc_1 PRD (20, [0, 2, 10, 9], [60, 0, 1, 324, 96]) ws (vs ++ [Value.int x]) := by
    refine ⟨nf_inA hl rfl, sgq_665 ?_⟩
    · show ORN (w_ei ws (w_ar ws (n_v (vs ++ [Value.int x]) 0) 96)) (v_iv (n_v (vs ++ [Value.int x]) 2)) (v_iv (n_v (vs ++ [Value.int x]) 10)) (v_iv (n_v (vs ++ [Value.int x]) 9))
      simp only [e_0, e_2, e_9, e_10]
      exact vc_Mo_ring_5_4 (v_iv (n_v vs 2)) (v_iv (n_v vs 9)) (w_ei ws (w_ar ws (n_v vs 0) 96)) (v_iv (Value.int x)) k2 k9
  have nf5 : fc_1 PRD (23, [10], [-1, -1]) ws (vs ++ [Value.int x]) := by
    refine ⟨nf_inA hl rfl, sgq_626 ?_⟩
    · show (-1) * v_iv (n_v (vs ++ [Value.int x]) 10) + 0 ≤ (-1)
      rw [e_10]
      exact vc_Mo_ring_5_5 (v_iv (n_v vs 5)) (v_iv (n_v vs 7)) (v_iv (Value.int x)) k5 k7 f2 f3 f5 ex2
  obtain ⟨x0, e0, _, _⟩ := tv_int t5 rfl
  have e1 : v_iv (n_v vs 5) = x0.toInt := by rw [e0]; rfl
  have ho : sy_ofs (vs ++ [Value.int x]) (10, 5, 0, 0) := by
    refine ⟨x, x0, by rw [List.getElem?_append_right (by rw [hl]; decide), hl]; rfl, ?_, ?_, ?_⟩
    · rw [List.getElem?_append_left (by rw [hl]; decide)]; exact n_v_some (by rw [hl]; decide) e0
    · show x0.toInt + 0 ≤ x.toInt; omega
    · show x.toInt ≤ x0.toInt + 0; omega
  exact ⟨(fun _ h => (by cases h)), [Value.int x], ag_one hx, List.forall_mem_cons.mpr ⟨⟨show (20 : Nat) < 100 from by decide, nf0⟩, List.forall_mem_cons.mpr ⟨⟨show (20 : Nat) < 100 from by decide, nf1⟩, List.forall_mem_cons.mpr ⟨⟨show (20 : Nat) < 100 from by decide, nf2⟩, List.forall_mem_cons.mpr ⟨⟨show (20 : Nat) < 100 from by decide, nf3⟩, List.forall_mem_cons.mpr ⟨⟨show (20 : Nat) < 100 from by decide, nf4⟩, List.forall_mem_cons.mpr ⟨⟨show (23 : Nat) < 100 from by decide, nf5⟩, (fun _ h => (by cases h))⟩⟩⟩⟩⟩⟩, List.forall_mem_cons.mpr ⟨ho, (fun _ h => (by cases h))⟩⟩
set_option maxHeartbeats 4000000 in
theorem vc_Mo_ring_6_0 (x2 : Int) (k2 : 0 ≤ x2 ∧ x2 ≤ 8) (f9 : x2 ≤ 24) : x2 ≤ 24 := by
  first
    | omega
    | (have h := orm_pos (by omega) (by omega) (‹OZ2 _ _ _ _› (by omega)); omega)
    | (have h := orm_pos (by omega) (by omega) ‹ORM _ _ _›; omega)
set_option maxHeartbeats 4000000 in
theorem vc_Mo_ring_6_1 (x2 : Int) (k2 : 0 ≤ x2 ∧ x2 ≤ 8) (f10 : 0 ≤ x2) : 0 ≤ x2 := by
  first
    | omega
    | (have h := orm_pos (by omega) (by omega) (‹OZ2 _ _ _ _› (by omega)); omega)
    | (have h := orm_pos (by omega) (by omega) ‹ORM _ _ _›; omega)
set_option maxHeartbeats 4000000 in
theorem vc_Mo_ring_6_2 (x2 : Int) (k2 : 0 ≤ x2 ∧ x2 ≤ 8) (f11 : x2 ≤ 8) : x2 ≤ 8 := by
  first
    | omega
    | (have h := orm_pos (by omega) (by omega) (‹OZ2 _ _ _ _› (by omega)); omega)
    | (have h := orm_pos (by omega) (by omega) ‹ORM _ _ _›; omega)
set_option maxHeartbeats 4000000 in
theorem vc_Mo_ring_6_3 (x2 : Int) (order_0 : Int → Int) (k2 : 0 ≤ x2 ∧ x2 ≤ 8) (f12 : DIS (order_0) (x2)) : DIS (order_0) (x2) := by
  assumption
set_option maxHeartbeats 4000000 in
theorem vc_Mo_ring_6_4 (x2 : Int) (x12 : Int) (order_0 : Int → Int) (gx : Int) (k2 : 0 ≤ x2 ∧ x2 ≤ 8) (k12 : 0 ≤ x12 ∧ x12 ≤ 0) : ORN (order_0) (x2) (gx) (x12) := by
  first
    | (intro z; exfalso; omega)
    | (have h := ‹ORN _ _ _ _›; intro z; have := h z; omega)
    | (have h := ‹ORN _ _ _ _›; intro z; have := h (by omega); omega)
set_option maxHeartbeats 4000000 in
theorem vc_Mo_ring_6_5 (x5 : Int) (x7 : Int) (gx : Int) (k5 : (-2) ≤ x5 ∧ x5 ≤ 16777216) (k7 : (-2) ≤ x7 ∧ x7 ≤ 16777216) (f5 : 1 * x7 + ((-1) * x5 + 0) ≤ 0) (f6 : (-1) * x7 + (1 * x5 + 0) ≤ 0) (f8 : (-1) * x5 + 0 ≤ (-1)) (ex2 : gx = 0 + (1 * x5 + 0)) : (-1) * gx + 0 ≤ (-1) := by
  first
    | omega
    | (have h := orm_pos (by omega) (by omega) (‹OZ2 _ _ _ _› (by omega)); omega)
    | (have h := orm_pos (by omega) (by omega) ‹ORM _ _ _›; omega)
def o_Mo_ring_6 : or_T := (112, 13, [(0, (2, 0, 0, [165])), (2, (0, 0, 8, [])), (5, (0, -2, 16777216, [])), (7, (0, -2, 16777216, [])), (8, (0, 1, 1, [])), (9, (2, 0, 0, [232])), (10, (0, 0, 0, [])), (11, (0, 1, 25, [])), (12, (0, 0, 0, []))], [(8, [11], [1]), (10, [11, 9, 10], []), (9, [9, 0], [96]), (8, [8], [1]), (20, [2, 2], [50, 0, 0, 1, 2, 1, 0, 1, 1]), (23, [7, 5], [0, 1, -1]), (23, [7, 5], [0, -1, 1]), (20, [2], [50, 0, 0, 0, 2, 1, 0, 0, 8]), (23, [5], [-1, -1]), (20, [2], [50, 0, 0, 0, 2, 1, 0, 0, 24]), (20, [2], [50, 0, 0, 0, 2, 0, 0, 1, 0]), (20, [2], [50, 0, 0, 0, 2, 1, 0, 0, 8]), (20, [0, 2], [60, 0, 1, 322, 96]), (20, [0, 2, 7, 8], [60, 0, 1, 324, 96]), (102, [7], [6901746346790563787434755862277025452451108972170386555162524223799296]), (23, [7, 5], [0, 1, -1]), (23, [7, 5], [0, -1, 1]), (23, [5], [-1, -1])], [], [(0, -2, 16777216, [])], [(20, [2], [50, 0, 0, 0, 2, 1, 0, 0, 24]), (20, [2], [50, 0, 0, 0, 2, 0, 0, 1, 0]), (20, [2], [50, 0, 0, 0, 2, 1, 0, 0, 8]), (20, [0, 2], [60, 0, 1, 322, 96]), (20, [0, 2, 13, 12], [60, 0, 1, 324, 96]), (23, [13], [-1, -1])], [(13, 5, 0, 0)], [])
theorem oo_Mo_ring_6 {kA : Nat → ClassId} : or_ok PRD kA GG o_Mo_ring_6 := by
  refine or_mk fun A ta ws vs hD hth hl => ?_
  intro t0 r0 t2 k2 t5 k5 t7 k7 t8 k8 t9 r9 t10 k10 t11 k11 t12 k12 f0 f1 f2 f3 f4 f5 f6 f7 f8 f9 f10 f11 f12 f13 ta1 w1 le1 s1 f15 f16 f17
  replace f0 := shm_142 f0
  replace f1 := shm_107 f1
  replace f2 := shm_666 f2
  replace f3 := shm_142 f3
  replace f4 := shm_1818 f4
  replace f5 := shm_7 f5
  replace f6 := shm_22 f6
  replace f7 := shm_660 f7
  replace f8 := shm_626 f8
  replace f9 := shm_1656 f9
  replace f10 := shm_722 f10
  replace f11 := shm_660 f11
  replace f12 := shm_661 f12
  replace f13 := shm_665 f13
  replace f15 := shm_7 f15
  replace f16 := shm_22 f16
  replace f17 := shm_626 f17
  have cr_0_96 := fdq_166 hD hth r0
  have ad_9 : v_ad (n_v vs 9) = w_ar ws (n_v vs 0) 96 := congrArg v_ad f2
  simp only [ad_9] at f1
  have h1 : v_iv (n_v vs 11) = w_ei ws (w_ar ws (n_v vs 0) 96) (v_iv (n_v vs 10)) := f1
  have hK_0_96 := elq_96 hD hth cr_0_96
  obtain ⟨x, ex, hx⟩ := iv_ex (ta := ta) (lo := (-2)) (hi := 16777216) (z := 0 + (1 * v_iv (n_v vs 5) + 0)) (by omega) (by omega) (by omega) (by omega)
  have ex2 : v_iv (Value.int x) = 0 + (1 * v_iv (n_v vs 5) + 0) := ex
  have ex3 : (-2) ≤ v_iv (Value.int x) ∧ v_iv (Value.int x) ≤ 16777216 := tv_rng hx
  have e_0 : n_v (vs ++ [Value.int x]) 0 = n_v vs 0 := n_v_old (by rw [hl]; decide)
  have e_2 : n_v (vs ++ [Value.int x]) 2 = n_v vs 2 := n_v_old (by rw [hl]; decide)
  have e_12 : n_v (vs ++ [Value.int x]) 12 = n_v vs 12 := n_v_old (by rw [hl]; decide)
  have e_13 : n_v (vs ++ [Value.int x]) 13 = Value.int x := n_v_new hl
  have nf0 : fc_1 PRD (20, [2], [50, 0, 0, 0, 2, 1, 0, 0, 24]) ws (vs ++ [Value.int x]) := by
    refine ⟨nf_inA hl rfl, sgq_1656 ?_⟩
    · show v_iv (n_v (vs ++ [Value.int x]) 2) ≤ 24
      rw [e_2]
      exact vc_Mo_ring_6_0 (v_iv (n_v vs 2)) k2 f9
  have nf1 : fc_1 PRD (20, [2], [50, 0, 0, 0, 2, 0, 0, 1, 0]) ws (vs ++ [Value.int x]) := by
    refine ⟨nf_inA hl rfl, sgq_722 ?_⟩
    · show 0 ≤ v_iv (n_v (vs ++ [Value.int x]) 2)
      rw [e_2]
      exact vc_Mo_ring_6_1 (v_iv (n_v vs 2)) k2 f10
  have nf2 : fc_1 PRD (20, [2], [50, 0, 0, 0, 2, 1, 0, 0, 8]) ws (vs ++ [Value.int x]) := by
    refine ⟨nf_inA hl rfl, sgq_660 ?_⟩
    · show v_iv (n_v (vs ++ [Value.int x]) 2) ≤ 8
      rw [e_2]
      exact vc_Mo_ring_6_2 (v_iv (n_v vs 2)) k2 f11
  have nf3 : fc_1 PRD (20, [0, 2], [60, 0, 1, 322, 96]) ws (vs ++ [Value.int x]) := by
    refine ⟨nf_inA hl rfl, sgq_661 ?_⟩
    · show DIS (w_ei ws (w_ar ws (n_v (vs ++ [Value.int x]) 0) 96)) (v_iv (n_v (vs ++ [Value.int x]) 2))
      simp only [e_0, e_2]
      exact vc_Mo_ring_6_3 (v_iv (n_v vs 2)) (w_ei ws (w_ar ws (n_v vs 0) 96)) k2 f12
  have nf4 : fc_1 PRD (20, [0, 2, 13, 12], [60, 0, 1, 324, 96]) ws (vs ++ [Value.int x]) := by
    refine ⟨nf_inA hl rfl, sgq_665 ?_⟩
    · show ORN (w_ei ws (w_ar ws (n_v (vs ++ [Value.int x]) 0) 96)) (v_iv (n_v (vs ++ [Value.int x]) 2)) (v_iv (n_v (vs ++ [Value.int x]) 13)) (v_iv (n_v (vs ++ [Value.int x]) 12))
      simp only [e_0, e_2, e_12, e_13]
      exact vc_Mo_ring_6_4 (v_iv (n_v vs 2)) (v_iv (n_v vs 12)) (w_ei ws (w_ar ws (n_v vs 0) 96)) (v_iv (Value.int x)) k2 k12
  have nf5 : fc_1 PRD (23, [13], [-1, -1]) ws (vs ++ [Value.int x]) := by
    refine ⟨nf_inA hl rfl, sgq_626 ?_⟩
    · show (-1) * v_iv (n_v (vs ++ [Value.int x]) 13) + 0 ≤ (-1)
      rw [e_13]
      exact vc_Mo_ring_6_5 (v_iv (n_v vs 5)) (v_iv (n_v vs 7)) (v_iv (Value.int x)) k5 k7 f5 f6 f8 ex2
  obtain ⟨x0, e0, _, _⟩ := tv_int t5 rfl
  have e1 : v_iv (n_v vs 5) = x0.toInt := by rw [e0]; rfl
  have ho : sy_ofs (vs ++ [Value.int x]) (13, 5, 0, 0) := by
    refine ⟨x, x0, by rw [List.getElem?_append_right (by rw [hl]; decide), hl]; rfl, ?_, ?_, ?_⟩
    · rw [List.getElem?_append_left (by rw [hl]; decide)]; exact n_v_some (by rw [hl]; decide) e0
    · show x0.toInt + 0 ≤ x.toInt; omega
    · show x.toInt ≤ x0.toInt + 0; omega
  exact ⟨(fun _ h => (by cases h)), [Value.int x], ag_one hx, List.forall_mem_cons.mpr ⟨⟨show (20 : Nat) < 100 from by decide, nf0⟩, List.forall_mem_cons.mpr ⟨⟨show (20 : Nat) < 100 from by decide, nf1⟩, List.forall_mem_cons.mpr ⟨⟨show (20 : Nat) < 100 from by decide, nf2⟩, List.forall_mem_cons.mpr ⟨⟨show (20 : Nat) < 100 from by decide, nf3⟩, List.forall_mem_cons.mpr ⟨⟨show (20 : Nat) < 100 from by decide, nf4⟩, List.forall_mem_cons.mpr ⟨⟨show (23 : Nat) < 100 from by decide, nf5⟩, (fun _ h => (by cases h))⟩⟩⟩⟩⟩⟩, List.forall_mem_cons.mpr ⟨ho, (fun _ h => (by cases h))⟩⟩
set_option maxHeartbeats 4000000 in
theorem vc_Mo_ring_7_0 (x2 : Int) (k2 : 0 ≤ x2 ∧ x2 ≤ 8) (f9 : x2 ≤ 24) : x2 ≤ 24 := by
  first
    | omega
    | (have h := orm_pos (by omega) (by omega) (‹OZ2 _ _ _ _› (by omega)); omega)
    | (have h := orm_pos (by omega) (by omega) ‹ORM _ _ _›; omega)
set_option maxHeartbeats 4000000 in
theorem vc_Mo_ring_7_1 (x2 : Int) (k2 : 0 ≤ x2 ∧ x2 ≤ 8) (f10 : 0 ≤ x2) : 0 ≤ x2 := by
  first
    | omega
    | (have h := orm_pos (by omega) (by omega) (‹OZ2 _ _ _ _› (by omega)); omega)
    | (have h := orm_pos (by omega) (by omega) ‹ORM _ _ _›; omega)
set_option maxHeartbeats 4000000 in
theorem vc_Mo_ring_7_2 (x2 : Int) (k2 : 0 ≤ x2 ∧ x2 ≤ 8) (f11 : x2 ≤ 8) : x2 ≤ 8 := by
  first
    | omega
    | (have h := orm_pos (by omega) (by omega) (‹OZ2 _ _ _ _› (by omega)); omega)
    | (have h := orm_pos (by omega) (by omega) ‹ORM _ _ _›; omega)
set_option maxHeartbeats 4000000 in
theorem vc_Mo_ring_7_3 (x2 : Int) (order_0 : Int → Int) (k2 : 0 ≤ x2 ∧ x2 ≤ 8) (f12 : DIS (order_0) (x2)) : DIS (order_0) (x2) := by
  assumption
set_option maxHeartbeats 4000000 in
theorem vc_Mo_ring_7_4 (x2 : Int) (x5 : Int) (x7 : Int) (x8 : Int) (x12 : Int) (order_0 : Int → Int) (gx : Int) (k2 : 0 ≤ x2 ∧ x2 ≤ 8) (k5 : (-2) ≤ x5 ∧ x5 ≤ 16777216) (k7 : (-2) ≤ x7 ∧ x7 ≤ 16777216) (k8 : 1 ≤ x8 ∧ x8 ≤ 1) (k12 : 1 ≤ x12 ∧ x12 ≤ 1) (f3 : x8 ≠ 0) (f5 : 1 * x7 + ((-1) * x5 + 0) ≤ 0) (f6 : (-1) * x7 + (1 * x5 + 0) ≤ 0) (f13 : ORN (order_0) (x2) (x7) (x8)) (ex2 : gx = 0 + (1 * x5 + 0)) : ORN (order_0) (x2) (gx) (x12) := by
  first
    | (intro z; exfalso; omega)
    | (have h := ‹ORN _ _ _ _›; intro z; have := h z; omega)
    | (have h := ‹ORN _ _ _ _›; intro z; have := h (by omega); omega)
