
def o_Ro_next_0 : or_T := (5, 4, [(0, (2, 0, 0, [9])), (1, (0, 0, 5999, [])), (3, (0, -2147483648, 2147483647, []))], [(9, [3, 0], [4]), (20, [0], [50, 2, 0, 4, 5, 2, 7, 0, 2, 0, 1, 2, 0, 4, 2, 7, 0, 2, 0, 1, 2, 0, 5, 0, 8, 6, 3, 2, 0, 4, 2, 0, 5, 0, 6000]), (20, [1, 0], [50, 2, 0, 1004, 1005, 0, 6, 4, 2, 1, 0, 0, 1, 6, 3, 2, 1, 4, 2, 1, 5])], [(3, (0, 1, 6000, []))], [], [], [], [])
theorem oo_Ro_next_0 {kA : Nat → ClassId} : or_ok PRD kA GG o_Ro_next_0 := by
  refine or_mk fun A ta ws vs hD hth hl => ?_
  intro t0 r0 t1 k1 t3 k3 f0 f1 f2
  replace f0 := shm_108 f0
  replace f1 := shm_466 f1
  replace f2 := shm_467 f2
  have g0 : v_iv (n_v vs 3) = w_fi ws (n_v vs 0) 4 := congrArg v_iv f0
  have kz_0_4 := fdq_103 hD hth r0
  have kz_0_5 := fdq_104 hD hth r0
  have g1 := grid_bd (w := w_fi ws (n_v vs 0) 4) (h := w_fi ws (n_v vs 0) 5) (by omega) (by omega) (by omega)
  have rf3 : tv_ok ta (0, 1, 6000, []) (n_v vs 3) := tv_in t3 (by first | omega | grind) (by first | omega | grind)
  refine ⟨List.forall_mem_cons.mpr ⟨rf3, (fun _ h => (by cases h))⟩, [], trivial, ?_, (fun _ h => (by cases h))⟩
  rw [List.append_nil]
  exact (fun _ h => (by cases h))
def o_Ro_next_1 : or_T := (114, 7, [(0, (2, 0, 0, [9])), (1, (0, 0, 5999, [])), (3, (0, 1, 6000, [])), (4, (0, 0, 5999, [])), (5, (0, -6000, -1, [])), (6, (0, -1, -1, []))], [(8, [5], [2]), (2, [5, 1, 3], []), (9, [3, 0], [4]), (5, [4, 1, 3], []), (20, [0], [50, 2, 0, 4, 5, 2, 7, 0, 2, 0, 1, 2, 0, 4, 2, 7, 0, 2, 0, 1, 2, 0, 5, 0, 8, 6, 3, 2, 0, 4, 2, 0, 5, 0, 6000]), (20, [1, 0], [50, 2, 0, 1004, 1005, 0, 6, 4, 2, 1, 0, 0, 1, 6, 3, 2, 1, 4, 2, 1, 5])], [], [], [(20, [6, 0], [50, 2, 0, 1004, 1005, 3, 6, 1, 2, 1, 0, 0, -1, 2, 6, 0, 2, 0, 0, 1, 0, 0, 6, 4, 2, 1, 0, 0, 1, 6, 3, 2, 1, 4, 2, 1, 5])], [], [(5, 1, -6000, -1), (4, 3, -4294967295, -1)])
theorem oo_Ro_next_1 {kA : Nat → ClassId} : or_ok PRD kA GG o_Ro_next_1 := by
  refine or_mk fun A ta ws vs hD hth hl => ?_
  intro t0 r0 t1 k1 t3 k3 t4 k4 t5 k5 t6 k6 d0 d1 f0 f1 f2 f3 f4 f5
  replace f0 := shm_39 f0
  replace f1 := shm_14 f1
  replace f2 := shm_108 f2
  replace f3 := shm_468 f3
  replace f4 := shm_466 f4
  replace f5 := shm_467 f5
  have g2 : v_iv (n_v vs 3) = w_fi ws (n_v vs 0) 4 := congrArg v_iv f2
  have kz_0_4 := fdq_103 hD hth r0
  have kz_0_5 := fdq_104 hD hth r0
  have g1 := grid_bd (w := w_fi ws (n_v vs 0) 4) (h := w_fi ws (n_v vs 0) 5) (by omega) (by omega) (by omega)
  have nf0 : fc_1 PRD (20, [6, 0], [50, 2, 0, 1004, 1005, 3, 6, 1, 2, 1, 0, 0, -1, 2, 6, 0, 2, 0, 0, 1, 0, 0, 6, 4, 2, 1, 0, 0, 1, 6, 3, 2, 1, 4, 2, 1, 5]) ws (vs) := by
    refine ⟨nf_in hl rfl, sgq_469 ?_⟩
    · show (v_iv (n_v vs 6) = (-1)) ∨ ((0 ≤ v_iv (n_v vs 6)) ∧ ((v_iv (n_v vs 6) + 1) ≤ (w_fi ws (n_v vs 0) 4 * w_fi ws (n_v vs 0) 5)))
      first | omega | grind
  refine ⟨(fun _ h => (by cases h)), [], trivial, ?_, (fun _ h => (by cases h))⟩
  rw [List.append_nil]
  exact List.forall_mem_cons.mpr ⟨⟨show (20 : Nat) < 100 from by decide, nf0⟩, (fun _ h => (by cases h))⟩
def o_Ro_next_2 : or_T := (114, 7, [(0, (2, 0, 0, [9])), (1, (0, 1, 5999, [])), (3, (0, 1, 6000, [])), (4, (0, 0, 5999, [])), (5, (0, 0, 5998, [])), (6, (0, -5999, 5998, []))], [(2, [6, 1, 3], []), (9, [3, 0], [4]), (8, [5], [3]), (2, [5, 1, 3], []), (5, [4, 1, 3], []), (20, [0], [50, 2, 0, 4, 5, 2, 7, 0, 2, 0, 1, 2, 0, 4, 2, 7, 0, 2, 0, 1, 2, 0, 5, 0, 8, 6, 3, 2, 0, 4, 2, 0, 5, 0, 6000]), (20, [1, 0], [50, 2, 0, 1004, 1005, 0, 6, 4, 2, 1, 0, 0, 1, 6, 3, 2, 1, 4, 2, 1, 5])], [(6, (0, -1, 5998, []))], [], [(20, [6, 0], [50, 2, 0, 1004, 1005, 3, 6, 1, 2, 1, 0, 0, -1, 2, 6, 0, 2, 0, 0, 1, 0, 0, 6, 4, 2, 1, 0, 0, 1, 6, 3, 2, 1, 4, 2, 1, 5])], [], [(6, 1, -6000, -1), (5, 1, -6000, -1), (4, 3, -4294967295, -1)])
theorem oo_Ro_next_2 {kA : Nat → ClassId} : or_ok PRD kA GG o_Ro_next_2 := by
  refine or_mk fun A ta ws vs hD hth hl => ?_
  intro t0 r0 t1 k1 t3 k3 t4 k4 t5 k5 t6 k6 d0 d1 d2 f0 f1 f2 f3 f4 f5 f6
  replace f0 := shm_14 f0
  replace f1 := shm_108 f1
  replace f2 := shm_32 f2
  replace f3 := shm_14 f3
  replace f4 := shm_468 f4
  replace f5 := shm_466 f5
  replace f6 := shm_467 f6
  have g1 : v_iv (n_v vs 3) = w_fi ws (n_v vs 0) 4 := congrArg v_iv f1
  have kz_0_4 := fdq_103 hD hth r0
  have kz_0_5 := fdq_104 hD hth r0
  have g1 := grid_bd (w := w_fi ws (n_v vs 0) 4) (h := w_fi ws (n_v vs 0) 5) (by omega) (by omega) (by omega)
  have nf0 : fc_1 PRD (20, [6, 0], [50, 2, 0, 1004, 1005, 3, 6, 1, 2, 1, 0, 0, -1, 2, 6, 0, 2, 0, 0, 1, 0, 0, 6, 4, 2, 1, 0, 0, 1, 6, 3, 2, 1, 4, 2, 1, 5]) ws (vs) := by
    refine ⟨nf_in hl rfl, sgq_469 ?_⟩
    · show (v_iv (n_v vs 6) = (-1)) ∨ ((0 ≤ v_iv (n_v vs 6)) ∧ ((v_iv (n_v vs 6) + 1) ≤ (w_fi ws (n_v vs 0) 4 * w_fi ws (n_v vs 0) 5)))
      first | omega | grind
  have rf6 : tv_ok ta (0, -1, 5998, []) (n_v vs 6) := tv_in t6 (by first | omega | grind) (by first | omega | grind)
  refine ⟨List.forall_mem_cons.mpr ⟨rf6, (fun _ h => (by cases h))⟩, [], trivial, ?_, (fun _ h => (by cases h))⟩
  rw [List.append_nil]
  exact List.forall_mem_cons.mpr ⟨⟨show (20 : Nat) < 100 from by decide, nf0⟩, (fun _ h => (by cases h))⟩
def o_Ro_next_3 : or_T := (53, 8, [(0, (2, 0, 0, [9])), (1, (0, 0, 5999, [])), (3, (0, 1, 6000, [])), (4, (0, 0, 5999, [])), (5, (0, 1, 1, [])), (6, (0, 1, 6000, [])), (7, (0, -1, -1, []))], [(7, [6, 3], [3]), (9, [3, 0], [4]), (1, [6, 4, 5], []), (5, [4, 1, 3], []), (20, [0], [50, 2, 0, 4, 5, 2, 7, 0, 2, 0, 1, 2, 0, 4, 2, 7, 0, 2, 0, 1, 2, 0, 5, 0, 8, 6, 3, 2, 0, 4, 2, 0, 5, 0, 6000]), (20, [1, 0], [50, 2, 0, 1004, 1005, 0, 6, 4, 2, 1, 0, 0, 1, 6, 3, 2, 1, 4, 2, 1, 5])], [], [], [(20, [7, 0], [50, 2, 0, 1004, 1005, 3, 6, 1, 2, 1, 0, 0, -1, 2, 6, 0, 2, 0, 0, 1, 0, 0, 6, 4, 2, 1, 0, 0, 1, 6, 3, 2, 1, 4, 2, 1, 5])], [], [(6, 3, 0, 4294967296), (6, 4, 1, 1), (6, 3, -4294967294, 0), (4, 3, -4294967295, -1)])
theorem oo_Ro_next_3 {kA : Nat → ClassId} : or_ok PRD kA GG o_Ro_next_3 := by
  refine or_mk fun A ta ws vs hD hth hl => ?_
  intro t0 r0 t1 k1 t3 k3 t4 k4 t5 k5 t6 k6 t7 k7 d0 d1 d2 d3 f0 f1 f2 f3 f4 f5
  replace f0 := shm_2 f0
  replace f1 := shm_108 f1
  replace f2 := shm_12 f2
  replace f3 := shm_468 f3
  replace f4 := shm_466 f4
  replace f5 := shm_467 f5
  have g1 : v_iv (n_v vs 3) = w_fi ws (n_v vs 0) 4 := congrArg v_iv f1
  have kz_0_4 := fdq_103 hD hth r0
  have kz_0_5 := fdq_104 hD hth r0
  have g1 := grid_bd (w := w_fi ws (n_v vs 0) 4) (h := w_fi ws (n_v vs 0) 5) (by omega) (by omega) (by omega)
  first | have g2 := nx_right (c := v_iv (n_v vs 4)) (p := v_iv (n_v vs 1)) (w := v_iv (n_v vs 3)) (W := w_fi ws (n_v vs 0) 4) (h := w_fi ws (n_v vs 0) 5) (by assumption) (by omega) (by omega) (by omega) (by omega) (by omega) | skip
  have nf0 : fc_1 PRD (20, [7, 0], [50, 2, 0, 1004, 1005, 3, 6, 1, 2, 1, 0, 0, -1, 2, 6, 0, 2, 0, 0, 1, 0, 0, 6, 4, 2, 1, 0, 0, 1, 6, 3, 2, 1, 4, 2, 1, 5]) ws (vs) := by
    refine ⟨nf_in hl rfl, sgq_469 ?_⟩
    · show (v_iv (n_v vs 7) = (-1)) ∨ ((0 ≤ v_iv (n_v vs 7)) ∧ ((v_iv (n_v vs 7) + 1) ≤ (w_fi ws (n_v vs 0) 4 * w_fi ws (n_v vs 0) 5)))
      first | omega | grind
  refine ⟨(fun _ h => (by cases h)), [], trivial, ?_, (fun _ h => (by cases h))⟩
  rw [List.append_nil]
  exact List.forall_mem_cons.mpr ⟨⟨show (20 : Nat) < 100 from by decide, nf0⟩, (fun _ h => (by cases h))⟩
def o_Ro_next_4 : or_T := (53, 9, [(0, (2, 0, 0, [9])), (1, (0, 0, 5999, [])), (3, (0, 2, 6000, [])), (4, (0, 0, 5998, [])), (5, (0, 1, 1, [])), (6, (0, 1, 5999, [])), (7, (0, 1, 1, [])), (8, (0, 1, 6000, []))], [(1, [8, 1, 7], []), (7, [6, 3], [2]), (9, [3, 0], [4]), (1, [6, 4, 5], []), (5, [4, 1, 3], []), (20, [0], [50, 2, 0, 4, 5, 2, 7, 0, 2, 0, 1, 2, 0, 4, 2, 7, 0, 2, 0, 1, 2, 0, 5, 0, 8, 6, 3, 2, 0, 4, 2, 0, 5, 0, 6000]), (20, [1, 0], [50, 2, 0, 1004, 1005, 0, 6, 4, 2, 1, 0, 0, 1, 6, 3, 2, 1, 4, 2, 1, 5])], [(8, (0, 1, 5999, []))], [], [(20, [8, 0], [50, 2, 0, 1004, 1005, 3, 6, 1, 2, 1, 0, 0, -1, 2, 6, 0, 2, 0, 0, 1, 0, 0, 6, 4, 2, 1, 0, 0, 1, 6, 3, 2, 1, 4, 2, 1, 5])], [], [(8, 1, 1, 1), (6, 3, -4294967296, -1), (6, 4, 1, 1), (6, 3, -4294967294, 0), (4, 3, -4294967295, -1)])
theorem oo_Ro_next_4 {kA : Nat → ClassId} : or_ok PRD kA GG o_Ro_next_4 := by
  refine or_mk fun A ta ws vs hD hth hl => ?_
  intro t0 r0 t1 k1 t3 k3 t4 k4 t5 k5 t6 k6 t7 k7 t8 k8 d0 d1 d2 d3 d4 f0 f1 f2 f3 f4 f5 f6
  replace f0 := shm_12 f0
  replace f1 := shm_6 f1
  replace f2 := shm_108 f2
  replace f3 := shm_12 f3
  replace f4 := shm_468 f4
  replace f5 := shm_466 f5
  replace f6 := shm_467 f6
  have g2 : v_iv (n_v vs 3) = w_fi ws (n_v vs 0) 4 := congrArg v_iv f2
  have kz_0_4 := fdq_103 hD hth r0
  have kz_0_5 := fdq_104 hD hth r0
  have g1 := grid_bd (w := w_fi ws (n_v vs 0) 4) (h := w_fi ws (n_v vs 0) 5) (by omega) (by omega) (by omega)
  first | have g2 := nx_right (c := v_iv (n_v vs 4)) (p := v_iv (n_v vs 1)) (w := v_iv (n_v vs 3)) (W := w_fi ws (n_v vs 0) 4) (h := w_fi ws (n_v vs 0) 5) (by assumption) (by omega) (by omega) (by omega) (by omega) (by omega) | skip
  have nf0 : fc_1 PRD (20, [8, 0], [50, 2, 0, 1004, 1005, 3, 6, 1, 2, 1, 0, 0, -1, 2, 6, 0, 2, 0, 0, 1, 0, 0, 6, 4, 2, 1, 0, 0, 1, 6, 3, 2, 1, 4, 2, 1, 5]) ws (vs) := by
    refine ⟨nf_in hl rfl, sgq_469 ?_⟩
    · show (v_iv (n_v vs 8) = (-1)) ∨ ((0 ≤ v_iv (n_v vs 8)) ∧ ((v_iv (n_v vs 8) + 1) ≤ (w_fi ws (n_v vs 0) 4 * w_fi ws (n_v vs 0) 5)))
      first | omega | grind
  have rf8 : tv_ok ta (0, 1, 5999, []) (n_v vs 8) := tv_in t8 (by first | omega | grind) (by first | omega | grind)
  refine ⟨List.forall_mem_cons.mpr ⟨rf8, (fun _ h => (by cases h))⟩, [], trivial, ?_, (fun _ h => (by cases h))⟩
  rw [List.append_nil]
  exact List.forall_mem_cons.mpr ⟨⟨show (20 : Nat) < 100 from by decide, nf0⟩, (fun _ h => (by cases h))⟩
def o_Ro_next_5 : or_T := (68, 7, [(0, (2, 0, 0, [9])), (1, (0, 0, 5999, [])), (3, (0, 1, 6000, [])), (4, (0, 0, 5999, [])), (5, (0, 1, 11999, [])), (6, (0, -2147483648, 2147483647, []))], [(9, [6, 0], [5]), (9, [3, 0], [4]), (1, [5, 1, 3], []), (5, [4, 1, 3], []), (20, [0], [50, 2, 0, 4, 5, 2, 7, 0, 2, 0, 1, 2, 0, 4, 2, 7, 0, 2, 0, 1, 2, 0, 5, 0, 8, 6, 3, 2, 0, 4, 2, 0, 5, 0, 6000]), (20, [1, 0], [50, 2, 0, 1004, 1005, 0, 6, 4, 2, 1, 0, 0, 1, 6, 3, 2, 1, 4, 2, 1, 5])], [(6, (0, 1, 6000, []))], [], [], [], [(5, 3, 0, 5999), (5, 1, 1, 6000), (4, 3, -4294967295, -1)])
theorem oo_Ro_next_5 {kA : Nat → ClassId} : or_ok PRD kA GG o_Ro_next_5 := by
  refine or_mk fun A ta ws vs hD hth hl => ?_
  intro t0 r0 t1 k1 t3 k3 t4 k4 t5 k5 t6 k6 d0 d1 d2 f0 f1 f2 f3 f4 f5
  replace f0 := shm_110 f0
  replace f1 := shm_108 f1
  replace f2 := shm_12 f2
  replace f3 := shm_468 f3
  replace f4 := shm_466 f4
  replace f5 := shm_467 f5
  have g0 : v_iv (n_v vs 6) = w_fi ws (n_v vs 0) 5 := congrArg v_iv f0
  have g1 : v_iv (n_v vs 3) = w_fi ws (n_v vs 0) 4 := congrArg v_iv f1
  have kz_0_4 := fdq_103 hD hth r0
  have kz_0_5 := fdq_104 hD hth r0
  have g1 := grid_bd (w := w_fi ws (n_v vs 0) 4) (h := w_fi ws (n_v vs 0) 5) (by omega) (by omega) (by omega)
  have rf6 : tv_ok ta (0, 1, 6000, []) (n_v vs 6) := tv_in t6 (by first | omega | grind) (by first | omega | grind)
  refine ⟨List.forall_mem_cons.mpr ⟨rf6, (fun _ h => (by cases h))⟩, [], trivial, ?_, (fun _ h => (by cases h))⟩
  rw [List.append_nil]
  exact (fun _ h => (by cases h))
def o_Ro_next_6 : or_T := (69, 8, [(0, (2, 0, 0, [9])), (1, (0, 0, 5999, [])), (3, (0, 1, 6000, [])), (4, (0, 0, 5999, [])), (5, (0, 1, 11999, [])), (6, (0, 1, 6000, [])), (7, (0, 1, 36000000, []))], [(3, [7, 3, 6], []), (9, [6, 0], [5]), (9, [3, 0], [4]), (1, [5, 1, 3], []), (5, [4, 1, 3], []), (20, [0], [50, 2, 0, 4, 5, 2, 7, 0, 2, 0, 1, 2, 0, 4, 2, 7, 0, 2, 0, 1, 2, 0, 5, 0, 8, 6, 3, 2, 0, 4, 2, 0, 5, 0, 6000]), (20, [1, 0], [50, 2, 0, 1004, 1005, 0, 6, 4, 2, 1, 0, 0, 1, 6, 3, 2, 1, 4, 2, 1, 5])], [], [], [(20, [7, 0], [50, 2, 0, 1004, 1005, 1, 2, 1, 0, 6, 3, 2, 1, 4, 2, 1, 5])], [], [(5, 3, 0, 5999), (5, 1, 1, 6000), (4, 3, -4294967295, -1)])
theorem oo_Ro_next_6 {kA : Nat → ClassId} : or_ok PRD kA GG o_Ro_next_6 := by
  refine or_mk fun A ta ws vs hD hth hl => ?_
  intro t0 r0 t1 k1 t3 k3 t4 k4 t5 k5 t6 k6 t7 k7 d0 d1 d2 f0 f1 f2 f3 f4 f5 f6
  replace f0 := shm_38 f0
  replace f1 := shm_110 f1
  replace f2 := shm_108 f2
  replace f3 := shm_12 f3
  replace f4 := shm_468 f4
  replace f5 := shm_466 f5
  replace f6 := shm_467 f6
  have g1 : v_iv (n_v vs 6) = w_fi ws (n_v vs 0) 5 := congrArg v_iv f1
  have g2 : v_iv (n_v vs 3) = w_fi ws (n_v vs 0) 4 := congrArg v_iv f2
  have kz_0_4 := fdq_103 hD hth r0
  have kz_0_5 := fdq_104 hD hth r0
  have g1 := grid_bd (w := w_fi ws (n_v vs 0) 4) (h := w_fi ws (n_v vs 0) 5) (by omega) (by omega) (by omega)
  have nf0 : fc_1 PRD (20, [7, 0], [50, 2, 0, 1004, 1005, 1, 2, 1, 0, 6, 3, 2, 1, 4, 2, 1, 5]) ws (vs) := by
    refine ⟨nf_in hl rfl, sgq_470 ?_⟩
    · show v_iv (n_v vs 7) = (w_fi ws (n_v vs 0) 4 * w_fi ws (n_v vs 0) 5)
      first | omega | grind
  refine ⟨(fun _ h => (by cases h)), [], trivial, ?_, (fun _ h => (by cases h))⟩
  rw [List.append_nil]
  exact List.forall_mem_cons.mpr ⟨⟨show (20 : Nat) < 100 from by decide, nf0⟩, (fun _ h => (by cases h))⟩
def o_Ro_next_7 : or_T := (82, 9, [(0, (2, 0, 0, [9])), (1, (0, 0, 5999, [])), (3, (0, 1, 6000, [])), (4, (0, 0, 5999, [])), (5, (0, 1, 11999, [])), (6, (0, 1, 6000, [])), (7, (0, 1, 11999, [])), (8, (0, -1, -1, []))], [(7, [5, 7], [3]), (20, [7, 0], [50, 2, 0, 1004, 1005, 1, 2, 1, 0, 6, 3, 2, 1, 4, 2, 1, 5]), (3, [7, 3, 6], []), (9, [6, 0], [5]), (9, [3, 0], [4]), (1, [5, 1, 3], []), (5, [4, 1, 3], []), (20, [0], [50, 2, 0, 4, 5, 2, 7, 0, 2, 0, 1, 2, 0, 4, 2, 7, 0, 2, 0, 1, 2, 0, 5, 0, 8, 6, 3, 2, 0, 4, 2, 0, 5, 0, 6000]), (20, [1, 0], [50, 2, 0, 1004, 1005, 0, 6, 4, 2, 1, 0, 0, 1, 6, 3, 2, 1, 4, 2, 1, 5])], [], [], [(20, [8, 0], [50, 2, 0, 1004, 1005, 3, 6, 1, 2, 1, 0, 0, -1, 2, 6, 0, 2, 0, 0, 1, 0, 0, 6, 4, 2, 1, 0, 0, 1, 6, 3, 2, 1, 4, 2, 1, 5])], [], [(5, 7, 0, 4294967296), (5, 3, 0, 5999), (5, 1, 1, 6000), (4, 3, -4294967295, -1)])
theorem oo_Ro_next_7 {kA : Nat → ClassId} : or_ok PRD kA GG o_Ro_next_7 := by
  refine or_mk fun A ta ws vs hD hth hl => ?_
  intro t0 r0 t1 k1 t3 k3 t4 k4 t5 k5 t6 k6 t7 k7 t8 k8 d0 d1 d2 d3 f0 f1 f2 f3 f4 f5 f6 f7 f8
  replace f0 := shm_2 f0
  replace f1 := shm_470 f1
  replace f2 := shm_38 f2
  replace f3 := shm_110 f3
  replace f4 := shm_108 f4
  replace f5 := shm_12 f5
  replace f6 := shm_468 f6
  replace f7 := shm_466 f7
  replace f8 := shm_467 f8
  have g3 : v_iv (n_v vs 6) = w_fi ws (n_v vs 0) 5 := congrArg v_iv f3
  have g4 : v_iv (n_v vs 3) = w_fi ws (n_v vs 0) 4 := congrArg v_iv f4
  have kz_0_4 := fdq_103 hD hth r0
  have kz_0_5 := fdq_104 hD hth r0
  have g1 := grid_bd (w := w_fi ws (n_v vs 0) 4) (h := w_fi ws (n_v vs 0) 5) (by omega) (by omega) (by omega)
  have nf0 : fc_1 PRD (20, [8, 0], [50, 2, 0, 1004, 1005, 3, 6, 1, 2, 1, 0, 0, -1, 2, 6, 0, 2, 0, 0, 1, 0, 0, 6, 4, 2, 1, 0, 0, 1, 6, 3, 2, 1, 4, 2, 1, 5]) ws (vs) := by
    refine ⟨nf_in hl rfl, sgq_469 ?_⟩
    · show (v_iv (n_v vs 8) = (-1)) ∨ ((0 ≤ v_iv (n_v vs 8)) ∧ ((v_iv (n_v vs 8) + 1) ≤ (w_fi ws (n_v vs 0) 4 * w_fi ws (n_v vs 0) 5)))
      first | omega | grind
  refine ⟨(fun _ h => (by cases h)), [], trivial, ?_, (fun _ h => (by cases h))⟩
  rw [List.append_nil]
  exact List.forall_mem_cons.mpr ⟨⟨show (20 : Nat) < 100 from by decide, nf0⟩, (fun _ h => (by cases h))⟩
def o_Ro_next_8 : or_T := (82, 9, [(0, (2, 0, 0, [9])), (1, (0, 0, 5999, [])), (3, (0, 1, 6000, [])), (4, (0, 0, 5999, [])), (5, (0, 1, 11999, [])), (6, (0, 1, 6000, [])), (7, (0, 2, 36000000, [])), (8, (0, 1, 11999, []))], [(1, [8, 1, 3], []), (9, [3, 0], [4]), (7, [5, 7], [2]), (20, [7, 0], [50, 2, 0, 1004, 1005, 1, 2, 1, 0, 6, 3, 2, 1, 4, 2, 1, 5]), (3, [7, 3, 6], []), (9, [6, 0], [5]), (1, [5, 1, 3], []), (5, [4, 1, 3], []), (20, [0], [50, 2, 0, 4, 5, 2, 7, 0, 2, 0, 1, 2, 0, 4, 2, 7, 0, 2, 0, 1, 2, 0, 5, 0, 8, 6, 3, 2, 0, 4, 2, 0, 5, 0, 6000]), (20, [1, 0], [50, 2, 0, 1004, 1005, 0, 6, 4, 2, 1, 0, 0, 1, 6, 3, 2, 1, 4, 2, 1, 5])], [(8, (0, 1, 5999, []))], [], [(20, [8, 0], [50, 2, 0, 1004, 1005, 3, 6, 1, 2, 1, 0, 0, -1, 2, 6, 0, 2, 0, 0, 1, 0, 0, 6, 4, 2, 1, 0, 0, 1, 6, 3, 2, 1, 4, 2, 1, 5])], [], [(8, 3, 0, 5999), (8, 1, 1, 6000), (5, 7, -4294967296, -1), (5, 3, 0, 5999), (5, 1, 1, 6000), (4, 3, -4294967295, -1)])
theorem oo_Ro_next_8 {kA : Nat → ClassId} : or_ok PRD kA GG o_Ro_next_8 := by
  refine or_mk fun A ta ws vs hD hth hl => ?_
  intro t0 r0 t1 k1 t3 k3 t4 k4 t5 k5 t6 k6 t7 k7 t8 k8 d0 d1 d2 d3 d4 d5 f0 f1 f2 f3 f4 f5 f6 f7 f8 f9
  replace f0 := shm_12 f0
  replace f1 := shm_108 f1
  replace f2 := shm_6 f2
  replace f3 := shm_470 f3
  replace f4 := shm_38 f4
  replace f5 := shm_110 f5
  replace f6 := shm_12 f6
  replace f7 := shm_468 f7
  replace f8 := shm_466 f8
  replace f9 := shm_467 f9
  have g1 : v_iv (n_v vs 3) = w_fi ws (n_v vs 0) 4 := congrArg v_iv f1
  have g5 : v_iv (n_v vs 6) = w_fi ws (n_v vs 0) 5 := congrArg v_iv f5
  have kz_0_4 := fdq_103 hD hth r0
  have kz_0_5 := fdq_104 hD hth r0
  have g1 := grid_bd (w := w_fi ws (n_v vs 0) 4) (h := w_fi ws (n_v vs 0) 5) (by omega) (by omega) (by omega)
  have nf0 : fc_1 PRD (20, [8, 0], [50, 2, 0, 1004, 1005, 3, 6, 1, 2, 1, 0, 0, -1, 2, 6, 0, 2, 0, 0, 1, 0, 0, 6, 4, 2, 1, 0, 0, 1, 6, 3, 2, 1, 4, 2, 1, 5]) ws (vs) := by
    refine ⟨nf_in hl rfl, sgq_469 ?_⟩
    · show (v_iv (n_v vs 8) = (-1)) ∨ ((0 ≤ v_iv (n_v vs 8)) ∧ ((v_iv (n_v vs 8) + 1) ≤ (w_fi ws (n_v vs 0) 4 * w_fi ws (n_v vs 0) 5)))
      first | omega | grind
  have rf8 : tv_ok ta (0, 1, 5999, []) (n_v vs 8) := tv_in t8 (by first | omega | grind) (by first | omega | grind)
  refine ⟨List.forall_mem_cons.mpr ⟨rf8, (fun _ h => (by cases h))⟩, [], trivial, ?_, (fun _ h => (by cases h))⟩
  rw [List.append_nil]
  exact List.forall_mem_cons.mpr ⟨⟨show (20 : Nat) < 100 from by decide, nf0⟩, (fun _ h => (by cases h))⟩
def o_Ro_next_9 : or_T := (94, 6, [(0, (2, 0, 0, [9])), (1, (0, 0, 5999, [])), (3, (0, 1, 6000, [])), (4, (0, 0, 0, [])), (5, (0, -1, -1, []))], [(8, [4], [5]), (5, [4, 1, 3], []), (9, [3, 0], [4]), (20, [0], [50, 2, 0, 4, 5, 2, 7, 0, 2, 0, 1, 2, 0, 4, 2, 7, 0, 2, 0, 1, 2, 0, 5, 0, 8, 6, 3, 2, 0, 4, 2, 0, 5, 0, 6000]), (20, [1, 0], [50, 2, 0, 1004, 1005, 0, 6, 4, 2, 1, 0, 0, 1, 6, 3, 2, 1, 4, 2, 1, 5])], [], [], [(20, [5, 0], [50, 2, 0, 1004, 1005, 3, 6, 1, 2, 1, 0, 0, -1, 2, 6, 0, 2, 0, 0, 1, 0, 0, 6, 4, 2, 1, 0, 0, 1, 6, 3, 2, 1, 4, 2, 1, 5])], [], [])
theorem oo_Ro_next_9 {kA : Nat → ClassId} : or_ok PRD kA GG o_Ro_next_9 := by
  refine or_mk fun A ta ws vs hD hth hl => ?_
  intro t0 r0 t1 k1 t3 k3 t4 k4 t5 k5 f0 f1 f2 f3 f4
  replace f0 := shm_295 f0
  replace f1 := shm_468 f1
  replace f2 := shm_108 f2
  replace f3 := shm_466 f3
  replace f4 := shm_467 f4
  have g2 : v_iv (n_v vs 3) = w_fi ws (n_v vs 0) 4 := congrArg v_iv f2
  have kz_0_4 := fdq_103 hD hth r0
  have kz_0_5 := fdq_104 hD hth r0
  have g1 := grid_bd (w := w_fi ws (n_v vs 0) 4) (h := w_fi ws (n_v vs 0) 5) (by omega) (by omega) (by omega)
  have nf0 : fc_1 PRD (20, [5, 0], [50, 2, 0, 1004, 1005, 3, 6, 1, 2, 1, 0, 0, -1, 2, 6, 0, 2, 0, 0, 1, 0, 0, 6, 4, 2, 1, 0, 0, 1, 6, 3, 2, 1, 4, 2, 1, 5]) ws (vs) := by
    refine ⟨nf_in hl rfl, sgq_469 ?_⟩
    · show (v_iv (n_v vs 5) = (-1)) ∨ ((0 ≤ v_iv (n_v vs 5)) ∧ ((v_iv (n_v vs 5) + 1) ≤ (w_fi ws (n_v vs 0) 4 * w_fi ws (n_v vs 0) 5)))
      first | omega | grind
  refine ⟨(fun _ h => (by cases h)), [], trivial, ?_, (fun _ h => (by cases h))⟩
  rw [List.append_nil]
  exact List.forall_mem_cons.mpr ⟨⟨show (20 : Nat) < 100 from by decide, nf0⟩, (fun _ h => (by cases h))⟩
def o_Ro_next_10 : or_T := (94, 7, [(0, (2, 0, 0, [9])), (1, (0, 0, 5999, [])), (3, (0, 2, 6000, [])), (4, (0, 1, 5999, [])), (5, (0, 1, 1, [])), (6, (0, -1, 5998, []))], [(2, [6, 1, 5], []), (8, [4], [4]), (5, [4, 1, 3], []), (9, [3, 0], [4]), (20, [0], [50, 2, 0, 4, 5, 2, 7, 0, 2, 0, 1, 2, 0, 4, 2, 7, 0, 2, 0, 1, 2, 0, 5, 0, 8, 6, 3, 2, 0, 4, 2, 0, 5, 0, 6000]), (20, [1, 0], [50, 2, 0, 1004, 1005, 0, 6, 4, 2, 1, 0, 0, 1, 6, 3, 2, 1, 4, 2, 1, 5])], [], [], [(20, [6, 0], [50, 2, 0, 1004, 1005, 3, 6, 1, 2, 1, 0, 0, -1, 2, 6, 0, 2, 0, 0, 1, 0, 0, 6, 4, 2, 1, 0, 0, 1, 6, 3, 2, 1, 4, 2, 1, 5])], [], [(6, 1, -1, -1), (4, 3, -4294967295, -1)])
theorem oo_Ro_next_10 {kA : Nat → ClassId} : or_ok PRD kA GG o_Ro_next_10 := by
  refine or_mk fun A ta ws vs hD hth hl => ?_
  intro t0 r0 t1 k1 t3 k3 t4 k4 t5 k5 t6 k6 d0 d1 f0 f1 f2 f3 f4 f5
  replace f0 := shm_14 f0
  replace f1 := shm_308 f1
  replace f2 := shm_468 f2
  replace f3 := shm_108 f3
  replace f4 := shm_466 f4
  replace f5 := shm_467 f5
  have g3 : v_iv (n_v vs 3) = w_fi ws (n_v vs 0) 4 := congrArg v_iv f3
  have kz_0_4 := fdq_103 hD hth r0
  have kz_0_5 := fdq_104 hD hth r0
  have g1 := grid_bd (w := w_fi ws (n_v vs 0) 4) (h := w_fi ws (n_v vs 0) 5) (by omega) (by omega) (by omega)
  have nf0 : fc_1 PRD (20, [6, 0], [50, 2, 0, 1004, 1005, 3, 6, 1, 2, 1, 0, 0, -1, 2, 6, 0, 2, 0, 0, 1, 0, 0, 6, 4, 2, 1, 0, 0, 1, 6, 3, 2, 1, 4, 2, 1, 5]) ws (vs) := by
    refine ⟨nf_in hl rfl, sgq_469 ?_⟩
    · show (v_iv (n_v vs 6) = (-1)) ∨ ((0 ≤ v_iv (n_v vs 6)) ∧ ((v_iv (n_v vs 6) + 1) ≤ (w_fi ws (n_v vs 0) 4 * w_fi ws (n_v vs 0) 5)))
      first | omega | grind
  refine ⟨(fun _ h => (by cases h)), [], trivial, ?_, (fun _ h => (by cases h))⟩
  rw [List.append_nil]
  exact List.forall_mem_cons.mpr ⟨⟨show (20 : Nat) < 100 from by decide, nf0⟩, (fun _ h => (by cases h))⟩
def n_Ro_next_an : List an_T := []
def t_Ro_next_ct : ct_L := []
set_option maxRecDepth 100000 in
theorem c_Ro_next {l : Launch} {D : va_G} {kA : Nat → ClassId} : ct_ok PRD l D kA GG y_Ro_next z_Ro_next e_Ro_next := chk_all_ok (FT := [(26, 9, 4), (29, 9, 5)]) (PT := []) (CT := t_Ro_next_ct) (KT := []) (NT := []) (AN := n_Ro_next_an) (OT := [o_Ro_next_0, o_Ro_next_1, o_Ro_next_2, o_Ro_next_3, o_Ro_next_4, o_Ro_next_5, o_Ro_next_6, o_Ro_next_7, o_Ro_next_8, o_Ro_next_9, o_Ro_next_10]) 0 240 (List.forall_mem_cons.mpr ⟨oo_Ro_next_0, List.forall_mem_cons.mpr ⟨oo_Ro_next_1, List.forall_mem_cons.mpr ⟨oo_Ro_next_2, List.forall_mem_cons.mpr ⟨oo_Ro_next_3, List.forall_mem_cons.mpr ⟨oo_Ro_next_4, List.forall_mem_cons.mpr ⟨oo_Ro_next_5, List.forall_mem_cons.mpr ⟨oo_Ro_next_6, List.forall_mem_cons.mpr ⟨oo_Ro_next_7, List.forall_mem_cons.mpr ⟨oo_Ro_next_8, List.forall_mem_cons.mpr ⟨oo_Ro_next_9, List.forall_mem_cons.mpr ⟨oo_Ro_next_10, List.forall_mem_nil _⟩⟩⟩⟩⟩⟩⟩⟩⟩⟩⟩) (by decide +kernel) ⟨List.forall_mem_cons.mpr ⟨gf_Ro_26, List.forall_mem_cons.mpr ⟨gf_Ro_29, List.forall_mem_nil _⟩⟩, List.forall_mem_nil _, List.forall_mem_nil _, List.forall_mem_nil _, List.forall_mem_nil _, GG_pl⟩ (by decide +kernel)
set_option maxHeartbeats 4000000 in
theorem vc_Ro_pointOf_0_r0 (x1 : Int) (x5 : Int) (x6 : Int) (x7 : Int) (x8 : Int) (width_0 : Int) (top_0 : Int) (y_0o3 : Int → Int) (nameLength_0o2 : Int → Int) (x_0o3 : Int → Int) (left_0 : Int) (height_0 : Int) (nodes_0o2 : Int) (k1 : 0 ≤ x1 ∧ x1 ≤ 23) (k5 : (-40000000) ≤ x5 ∧ x5 ≤ 690000000) (k6 : (-40000003) ≤ x6 ∧ x6 ≤ 1000000000) (k7 : (-1040000000) ≤ x7 ∧ x7 ≤ 730000003) (k8 : (-2147483648) ≤ x8 ∧ x8 ≤ 2147483647) (d0 : x5 + (-1000000000) ≤ x7 ∧ x7 ≤ x5 + 40000003) (g0 : x8 = width_0) (f1 : x7 = x5 - x6) (g2 : x6 = top_0) (h3 : x5 = y_0o3 (x1)) (f5 : FRM (left_0) (top_0) (width_0) (height_0) (nodes_0o2) (nameLength_0o2) (x_0o3) (y_0o3)) (f6 : (0 ≤ x1) ∧ ((x1 + 1) ≤ nodes_0o2)) (hK_2_4 : ∀ j : Int, 0 ≤ j → j < 24 → 0 ≤ nameLength_0o2 j ∧ nameLength_0o2 j ≤ 8) (hK_3_2 : ∀ j : Int, 0 ≤ j → j < 24 → (-40000000) ≤ x_0o3 j ∧ x_0o3 j ≤ 690000000) (hK_3_3 : ∀ j : Int, 0 ≤ j → j < 24 → (-40000000) ≤ y_0o3 j ∧ y_0o3 j ≤ 690000000) (kz_0_2 : (-40000011) ≤ left_0 ∧ left_0 ≤ 1000000000) (kz_0_3 : (-40000003) ≤ top_0 ∧ top_0 ≤ 1000000000) (kz_0_4 : (-2147483648) ≤ width_0 ∧ width_0 ≤ 2147483647) (kz_0_5 : (-2147483648) ≤ height_0 ∧ height_0 ≤ 2147483647) (kz_2_0 : 0 ≤ nodes_0o2 ∧ nodes_0o2 ≤ 24) : 1 ≤ x8 ∧ x8 ≤ 6000 := by
  have h := frm_wh ‹FRM _ _ _ _ _ _ _ _›
  have c := ‹FRM _ _ _ _ _ _ _ _›.2.2 x1 (by omega) (by omega)
  omega
set_option maxHeartbeats 4000000 in
theorem vc_Ro_pointOf_0_r1 (x1 : Int) (x5 : Int) (x6 : Int) (x7 : Int) (x8 : Int) (width_0 : Int) (top_0 : Int) (y_0o3 : Int → Int) (nameLength_0o2 : Int → Int) (x_0o3 : Int → Int) (left_0 : Int) (height_0 : Int) (nodes_0o2 : Int) (k1 : 0 ≤ x1 ∧ x1 ≤ 23) (k5 : (-40000000) ≤ x5 ∧ x5 ≤ 690000000) (k6 : (-40000003) ≤ x6 ∧ x6 ≤ 1000000000) (k7 : (-1040000000) ≤ x7 ∧ x7 ≤ 730000003) (k8 : (-2147483648) ≤ x8 ∧ x8 ≤ 2147483647) (d0 : x5 + (-1000000000) ≤ x7 ∧ x7 ≤ x5 + 40000003) (g0 : x8 = width_0) (f1 : x7 = x5 - x6) (g2 : x6 = top_0) (h3 : x5 = y_0o3 (x1)) (f5 : FRM (left_0) (top_0) (width_0) (height_0) (nodes_0o2) (nameLength_0o2) (x_0o3) (y_0o3)) (f6 : (0 ≤ x1) ∧ ((x1 + 1) ≤ nodes_0o2)) (hK_2_4 : ∀ j : Int, 0 ≤ j → j < 24 → 0 ≤ nameLength_0o2 j ∧ nameLength_0o2 j ≤ 8) (hK_3_2 : ∀ j : Int, 0 ≤ j → j < 24 → (-40000000) ≤ x_0o3 j ∧ x_0o3 j ≤ 690000000) (hK_3_3 : ∀ j : Int, 0 ≤ j → j < 24 → (-40000000) ≤ y_0o3 j ∧ y_0o3 j ≤ 690000000) (kz_0_2 : (-40000011) ≤ left_0 ∧ left_0 ≤ 1000000000) (kz_0_3 : (-40000003) ≤ top_0 ∧ top_0 ≤ 1000000000) (kz_0_4 : (-2147483648) ≤ width_0 ∧ width_0 ≤ 2147483647) (kz_0_5 : (-2147483648) ≤ height_0 ∧ height_0 ≤ 2147483647) (kz_2_0 : 0 ≤ nodes_0o2 ∧ nodes_0o2 ≤ 24) : 0 ≤ x7 ∧ x7 ≤ 5999 := by
  have h := frm_wh ‹FRM _ _ _ _ _ _ _ _›
  have c := ‹FRM _ _ _ _ _ _ _ _›.2.2 x1 (by omega) (by omega)
  omega
def o_Ro_pointOf_0 : or_T := (18, 9, [(0, (2, 0, 0, [9])), (1, (0, 0, 23, [])), (2, (2, 0, 0, [3])), (3, (2, 0, 0, [0])), (4, (2, 0, 0, [15])), (5, (0, -40000000, 690000000, [])), (6, (0, -40000003, 1000000000, [])), (7, (0, -1040000000, 730000003, [])), (8, (0, -2147483648, 2147483647, []))], [(9, [8, 0], [4]), (2, [7, 5, 6], []), (9, [6, 0], [3]), (10, [5, 4, 1], []), (9, [4, 3], [3]), (20, [0, 2, 3], [60, 5, 3, 839, 2, 3, 4, 5, 1000, 1004, 2002, 2003]), (20, [1, 2], [50, 1, 0, 1000, 2, 6, 0, 2, 0, 0, 1, 0, 0, 6, 4, 2, 1, 0, 0, 1, 2, 1, 0])], [(8, (0, 1, 6000, [])), (7, (0, 0, 5999, []))], [], [], [], [(7, 5, -1000000000, 40000003)])
theorem oo_Ro_pointOf_0 {kA : Nat → ClassId} : or_ok PRD kA GG o_Ro_pointOf_0 := by
  refine or_mk fun A ta ws vs hD hth hl => ?_
  intro t0 r0 t1 k1 t2 r2 t3 r3 t4 r4 t5 k5 t6 k6 t7 k7 t8 k8 d0 f0 f1 f2 f3 f4 f5 f6
  replace f0 := shm_108 f0
  replace f2 := shm_137 f2
  replace f3 := shm_107 f3
  replace f4 := shm_137 f4
  have cr_2_4 := fdq_4 hD hth r2
  have cr_3_2 := fdq_45 hD hth r3
  have cr_3_3 := fdq_48 hD hth r3
  have ad_4 : v_ad (n_v vs 4) = w_ar ws (n_v vs 3) 3 := congrArg v_ad f4
  have g0 : v_iv (n_v vs 8) = w_fi ws (n_v vs 0) 4 := congrArg v_iv f0
  have g2 : v_iv (n_v vs 6) = w_fi ws (n_v vs 0) 3 := congrArg v_iv f2
  simp only [ad_4] at f3
  have h3 : v_iv (n_v vs 5) = w_ei ws (w_ar ws (n_v vs 3) 3) (v_iv (n_v vs 1)) := f3
  have hK_2_4 := elq_3 hD hth cr_2_4
  have hK_3_2 := elq_10 hD hth cr_3_2
  have hK_3_3 := elq_13 hD hth cr_3_3
  have kz_0_2 := fdq_106 hD hth r0
  have kz_0_3 := fdq_107 hD hth r0
  have kz_0_4 := fdq_103 hD hth r0
  have kz_0_5 := fdq_104 hD hth r0
  have kz_2_0 := fdq_21 hD hth r2
  have hrf0 : 1 ≤ v_iv (n_v vs 8) ∧ v_iv (n_v vs 8) ≤ 6000 := vc_Ro_pointOf_0_r0 (v_iv (n_v vs 1)) (v_iv (n_v vs 5)) (v_iv (n_v vs 6)) (v_iv (n_v vs 7)) (v_iv (n_v vs 8)) (w_fi ws (n_v vs 0) 4) (w_fi ws (n_v vs 0) 3) (w_ei ws (w_ar ws (n_v vs 3) 3)) (w_ei ws (w_ar ws (n_v vs 2) 4)) (w_ei ws (w_ar ws (n_v vs 3) 2)) (w_fi ws (n_v vs 0) 2) (w_fi ws (n_v vs 0) 5) (w_fi ws (n_v vs 2) 0) k1 k5 k6 k7 k8 d0 g0 (shm_14 f1) g2 h3 (shm_471 f5) (shm_416 f6) hK_2_4 hK_3_2 hK_3_3 kz_0_2 kz_0_3 kz_0_4 kz_0_5 kz_2_0
  have hrf1 : 0 ≤ v_iv (n_v vs 7) ∧ v_iv (n_v vs 7) ≤ 5999 := vc_Ro_pointOf_0_r1 (v_iv (n_v vs 1)) (v_iv (n_v vs 5)) (v_iv (n_v vs 6)) (v_iv (n_v vs 7)) (v_iv (n_v vs 8)) (w_fi ws (n_v vs 0) 4) (w_fi ws (n_v vs 0) 3) (w_ei ws (w_ar ws (n_v vs 3) 3)) (w_ei ws (w_ar ws (n_v vs 2) 4)) (w_ei ws (w_ar ws (n_v vs 3) 2)) (w_fi ws (n_v vs 0) 2) (w_fi ws (n_v vs 0) 5) (w_fi ws (n_v vs 2) 0) k1 k5 k6 k7 k8 d0 g0 (shm_14 f1) g2 h3 (shm_471 f5) (shm_416 f6) hK_2_4 hK_3_2 hK_3_3 kz_0_2 kz_0_3 kz_0_4 kz_0_5 kz_2_0
  have rf8 : tv_ok ta (0, 1, 6000, []) (n_v vs 8) := tv_in t8 (by first | omega | grind) (by first | omega | grind)
  have rf7 : tv_ok ta (0, 0, 5999, []) (n_v vs 7) := tv_in t7 (by first | omega | grind) (by first | omega | grind)
  refine ⟨List.forall_mem_cons.mpr ⟨rf8, List.forall_mem_cons.mpr ⟨rf7, (fun _ h => (by cases h))⟩⟩, [], trivial, ?_, (fun _ h => (by cases h))⟩
  rw [List.append_nil]
  exact (fun _ h => (by cases h))
set_option maxHeartbeats 4000000 in
theorem vc_Ro_pointOf_1_r0 (x1 : Int) (x5 : Int) (x6 : Int) (x7 : Int) (x8 : Int) (x9 : Int) (x11 : Int) (x12 : Int) (x13 : Int) (x14 : Int) (left_0 : Int) (x_0o3 : Int → Int) (width_0 : Int) (top_0 : Int) (y_0o3 : Int → Int) (nameLength_0o2 : Int → Int) (height_0 : Int) (nodes_0o2 : Int) (k1 : 0 ≤ x1 ∧ x1 ≤ 23) (k5 : (-40000000) ≤ x5 ∧ x5 ≤ 690000000) (k6 : (-40000003) ≤ x6 ∧ x6 ≤ 1000000000) (k7 : 0 ≤ x7 ∧ x7 ≤ 5999) (k8 : 1 ≤ x8 ∧ x8 ≤ 6000) (k9 : 0 ≤ x9 ∧ x9 ≤ 35994000) (k11 : (-40000000) ≤ x11 ∧ x11 ≤ 690000000) (k12 : (-40000000) ≤ x12 ∧ x12 ≤ 725994000) (k13 : (-40000011) ≤ x13 ∧ x13 ≤ 1000000000) (k14 : (-1040000000) ≤ x14 ∧ x14 ≤ 765994011) (d0 : x12 + (-1000000000) ≤ x14 ∧ x14 ≤ x12 + 40000011) (d1 : x11 + (-1000000000) ≤ x14 ∧ x14 ≤ x11 + 75994011) (d2 : x9 + (-1040000000) ≤ x14 ∧ x14 ≤ x9 + 730000011) (d3 : x11 + 0 ≤ x12 ∧ x12 ≤ x11 + 35994000) (d4 : x9 + (-40000000) ≤ x12 ∧ x12 ≤ x9 + 690000000) (d5 : x5 + (-1000000000) ≤ x7 ∧ x7 ≤ x5 + 40000003) (f0 : x14 = x12 - x13) (g1 : x13 = left_0) (f2 : x12 = x9 + x11) (h3 : x11 = x_0o3 (x1)) (f5 : x9 = x7 * x8) (g6 : x8 = width_0) (f7 : x7 = x5 - x6) (g8 : x6 = top_0) (h9 : x5 = y_0o3 (x1)) (f11 : FRM (left_0) (top_0) (width_0) (height_0) (nodes_0o2) (nameLength_0o2) (x_0o3) (y_0o3)) (f12 : (0 ≤ x1) ∧ ((x1 + 1) ≤ nodes_0o2)) (hK_2_4 : ∀ j : Int, 0 ≤ j → j < 24 → 0 ≤ nameLength_0o2 j ∧ nameLength_0o2 j ≤ 8) (hK_3_2 : ∀ j : Int, 0 ≤ j → j < 24 → (-40000000) ≤ x_0o3 j ∧ x_0o3 j ≤ 690000000) (hK_3_3 : ∀ j : Int, 0 ≤ j → j < 24 → (-40000000) ≤ y_0o3 j ∧ y_0o3 j ≤ 690000000) (kz_0_2 : (-40000011) ≤ left_0 ∧ left_0 ≤ 1000000000) (kz_0_3 : (-40000003) ≤ top_0 ∧ top_0 ≤ 1000000000) (kz_0_4 : (-2147483648) ≤ width_0 ∧ width_0 ≤ 2147483647) (kz_0_5 : (-2147483648) ≤ height_0 ∧ height_0 ≤ 2147483647) (kz_2_0 : 0 ≤ nodes_0o2 ∧ nodes_0o2 ≤ 24) : 0 ≤ x14 ∧ x14 ≤ 5999 := by
  first
    | omega
    | (have p : PTO left_0 top_0 width_0 x_0o3 y_0o3 x1 x14 := pto_of (a := x5) (b := x11) (d := x7) (e := x8) (p := x9) (s := x12) (by omega) (by omega) (by assumption) (by assumption) (by assumption) (by omega) (by omega)
       have g := frm_pt ‹FRM _ _ _ _ _ _ _ _› (by omega) (by omega) (‹∀ j : Int, 0 ≤ j → j < 24 → 0 ≤ nameLength_0o2 j ∧ nameLength_0o2 j ≤ 8› x1 (by omega) (by omega)).1 p
       have g2 := ‹FRM _ _ _ _ _ _ _ _›.1.2.2
       first
         | omega
         | exact g)
set_option maxHeartbeats 4000000 in
theorem vc_Ro_pointOf_1_0 (x1 : Int) (x5 : Int) (x6 : Int) (x7 : Int) (x8 : Int) (x9 : Int) (x11 : Int) (x12 : Int) (x13 : Int) (x14 : Int) (left_0 : Int) (x_0o3 : Int → Int) (width_0 : Int) (top_0 : Int) (y_0o3 : Int → Int) (nameLength_0o2 : Int → Int) (height_0 : Int) (nodes_0o2 : Int) (k1 : 0 ≤ x1 ∧ x1 ≤ 23) (k5 : (-40000000) ≤ x5 ∧ x5 ≤ 690000000) (k6 : (-40000003) ≤ x6 ∧ x6 ≤ 1000000000) (k7 : 0 ≤ x7 ∧ x7 ≤ 5999) (k8 : 1 ≤ x8 ∧ x8 ≤ 6000) (k9 : 0 ≤ x9 ∧ x9 ≤ 35994000) (k11 : (-40000000) ≤ x11 ∧ x11 ≤ 690000000) (k12 : (-40000000) ≤ x12 ∧ x12 ≤ 725994000) (k13 : (-40000011) ≤ x13 ∧ x13 ≤ 1000000000) (k14 : (-1040000000) ≤ x14 ∧ x14 ≤ 765994011) (d0 : x12 + (-1000000000) ≤ x14 ∧ x14 ≤ x12 + 40000011) (d1 : x11 + (-1000000000) ≤ x14 ∧ x14 ≤ x11 + 75994011) (d2 : x9 + (-1040000000) ≤ x14 ∧ x14 ≤ x9 + 730000011) (d3 : x11 + 0 ≤ x12 ∧ x12 ≤ x11 + 35994000) (d4 : x9 + (-40000000) ≤ x12 ∧ x12 ≤ x9 + 690000000) (d5 : x5 + (-1000000000) ≤ x7 ∧ x7 ≤ x5 + 40000003) (f0 : x14 = x12 - x13) (g1 : x13 = left_0) (f2 : x12 = x9 + x11) (h3 : x11 = x_0o3 (x1)) (f5 : x9 = x7 * x8) (g6 : x8 = width_0) (f7 : x7 = x5 - x6) (g8 : x6 = top_0) (h9 : x5 = y_0o3 (x1)) (f11 : FRM (left_0) (top_0) (width_0) (height_0) (nodes_0o2) (nameLength_0o2) (x_0o3) (y_0o3)) (f12 : (0 ≤ x1) ∧ ((x1 + 1) ≤ nodes_0o2)) (hK_2_4 : ∀ j : Int, 0 ≤ j → j < 24 → 0 ≤ nameLength_0o2 j ∧ nameLength_0o2 j ≤ 8) (hK_3_2 : ∀ j : Int, 0 ≤ j → j < 24 → (-40000000) ≤ x_0o3 j ∧ x_0o3 j ≤ 690000000) (hK_3_3 : ∀ j : Int, 0 ≤ j → j < 24 → (-40000000) ≤ y_0o3 j ∧ y_0o3 j ≤ 690000000) (kz_0_2 : (-40000011) ≤ left_0 ∧ left_0 ≤ 1000000000) (kz_0_3 : (-40000003) ≤ top_0 ∧ top_0 ≤ 1000000000) (kz_0_4 : (-2147483648) ≤ width_0 ∧ width_0 ≤ 2147483647) (kz_0_5 : (-2147483648) ≤ height_0 ∧ height_0 ≤ 2147483647) (kz_2_0 : 0 ≤ nodes_0o2 ∧ nodes_0o2 ≤ 24) : PTO (left_0) (top_0) (width_0) (x_0o3) (y_0o3) (x1) (x14) := by
  exact pto_of (a := x5) (b := x11) (d := x7) (e := x8) (p := x9) (s := x12) (by omega) (by omega) (by assumption) (by assumption) (by assumption) (by omega) (by omega)
set_option maxHeartbeats 4000000 in
theorem vc_Ro_pointOf_1_1 (x1 : Int) (x5 : Int) (x6 : Int) (x7 : Int) (x8 : Int) (x9 : Int) (x11 : Int) (x12 : Int) (x13 : Int) (x14 : Int) (left_0 : Int) (x_0o3 : Int → Int) (width_0 : Int) (top_0 : Int) (y_0o3 : Int → Int) (nameLength_0o2 : Int → Int) (height_0 : Int) (nodes_0o2 : Int) (k1 : 0 ≤ x1 ∧ x1 ≤ 23) (k5 : (-40000000) ≤ x5 ∧ x5 ≤ 690000000) (k6 : (-40000003) ≤ x6 ∧ x6 ≤ 1000000000) (k7 : 0 ≤ x7 ∧ x7 ≤ 5999) (k8 : 1 ≤ x8 ∧ x8 ≤ 6000) (k9 : 0 ≤ x9 ∧ x9 ≤ 35994000) (k11 : (-40000000) ≤ x11 ∧ x11 ≤ 690000000) (k12 : (-40000000) ≤ x12 ∧ x12 ≤ 725994000) (k13 : (-40000011) ≤ x13 ∧ x13 ≤ 1000000000) (k14 : (-1040000000) ≤ x14 ∧ x14 ≤ 765994011) (d0 : x12 + (-1000000000) ≤ x14 ∧ x14 ≤ x12 + 40000011) (d1 : x11 + (-1000000000) ≤ x14 ∧ x14 ≤ x11 + 75994011) (d2 : x9 + (-1040000000) ≤ x14 ∧ x14 ≤ x9 + 730000011) (d3 : x11 + 0 ≤ x12 ∧ x12 ≤ x11 + 35994000) (d4 : x9 + (-40000000) ≤ x12 ∧ x12 ≤ x9 + 690000000) (d5 : x5 + (-1000000000) ≤ x7 ∧ x7 ≤ x5 + 40000003) (f0 : x14 = x12 - x13) (g1 : x13 = left_0) (f2 : x12 = x9 + x11) (h3 : x11 = x_0o3 (x1)) (f5 : x9 = x7 * x8) (g6 : x8 = width_0) (f7 : x7 = x5 - x6) (g8 : x6 = top_0) (h9 : x5 = y_0o3 (x1)) (f11 : FRM (left_0) (top_0) (width_0) (height_0) (nodes_0o2) (nameLength_0o2) (x_0o3) (y_0o3)) (f12 : (0 ≤ x1) ∧ ((x1 + 1) ≤ nodes_0o2)) (hK_2_4 : ∀ j : Int, 0 ≤ j → j < 24 → 0 ≤ nameLength_0o2 j ∧ nameLength_0o2 j ≤ 8) (hK_3_2 : ∀ j : Int, 0 ≤ j → j < 24 → (-40000000) ≤ x_0o3 j ∧ x_0o3 j ≤ 690000000) (hK_3_3 : ∀ j : Int, 0 ≤ j → j < 24 → (-40000000) ≤ y_0o3 j ∧ y_0o3 j ≤ 690000000) (kz_0_2 : (-40000011) ≤ left_0 ∧ left_0 ≤ 1000000000) (kz_0_3 : (-40000003) ≤ top_0 ∧ top_0 ≤ 1000000000) (kz_0_4 : (-2147483648) ≤ width_0 ∧ width_0 ≤ 2147483647) (kz_0_5 : (-2147483648) ≤ height_0 ∧ height_0 ≤ 2147483647) (kz_2_0 : 0 ≤ nodes_0o2 ∧ nodes_0o2 ≤ 24) : (0 ≤ x14) ∧ ((x14 + 1) ≤ (width_0 * height_0)) := by
  first
    | omega
    | (have p : PTO left_0 top_0 width_0 x_0o3 y_0o3 x1 x14 := pto_of (a := x5) (b := x11) (d := x7) (e := x8) (p := x9) (s := x12) (by omega) (by omega) (by assumption) (by assumption) (by assumption) (by omega) (by omega)
       have g := frm_pt ‹FRM _ _ _ _ _ _ _ _› (by omega) (by omega) (‹∀ j : Int, 0 ≤ j → j < 24 → 0 ≤ nameLength_0o2 j ∧ nameLength_0o2 j ≤ 8› x1 (by omega) (by omega)).1 p
       have g2 := ‹FRM _ _ _ _ _ _ _ _›.1.2.2
       first
         | omega
         | exact g)
def o_Ro_pointOf_1 : or_T := (34, 15, [(0, (2, 0, 0, [9])), (1, (0, 0, 23, [])), (2, (2, 0, 0, [3])), (3, (2, 0, 0, [0])), (4, (2, 0, 0, [15])), (5, (0, -40000000, 690000000, [])), (6, (0, -40000003, 1000000000, [])), (7, (0, 0, 5999, [])), (8, (0, 1, 6000, [])), (9, (0, 0, 35994000, [])), (10, (2, 0, 0, [14])), (11, (0, -40000000, 690000000, [])), (12, (0, -40000000, 725994000, [])), (13, (0, -40000011, 1000000000, [])), (14, (0, -1040000000, 765994011, []))], [(2, [14, 12, 13], []), (9, [13, 0], [2]), (1, [12, 9, 11], []), (10, [11, 10, 1], []), (9, [10, 3], [2]), (3, [9, 7, 8], []), (9, [8, 0], [4]), (2, [7, 5, 6], []), (9, [6, 0], [3]), (10, [5, 4, 1], []), (9, [4, 3], [3]), (20, [0, 2, 3], [60, 5, 3, 839, 2, 3, 4, 5, 1000, 1004, 2002, 2003]), (20, [1, 2], [50, 1, 0, 1000, 2, 6, 0, 2, 0, 0, 1, 0, 0, 6, 4, 2, 1, 0, 0, 1, 2, 1, 0])], [(14, (0, 0, 5999, []))], [], [(20, [0, 3, 1, 14], [60, 3, 2, 842, 2, 3, 4, 1002, 1003]), (20, [14, 0], [50, 2, 0, 1004, 1005, 2, 6, 0, 2, 0, 0, 1, 0, 0, 6, 4, 2, 1, 0, 0, 1, 6, 3, 2, 1, 4, 2, 1, 5])], [], [(14, 12, -1000000000, 40000011), (14, 11, -1000000000, 75994011), (14, 9, -1040000000, 730000011), (12, 11, 0, 35994000), (12, 9, -40000000, 690000000), (7, 5, -1000000000, 40000003)])
theorem oo_Ro_pointOf_1 {kA : Nat → ClassId} : or_ok PRD kA GG o_Ro_pointOf_1 := by
  refine or_mk fun A ta ws vs hD hth hl => ?_
  intro t0 r0 t1 k1 t2 r2 t3 r3 t4 r4 t5 k5 t6 k6 t7 k7 t8 k8 t9 k9 t10 r10 t11 k11 t12 k12 t13 k13 t14 k14 d0 d1 d2 d3 d4 d5 f0 f1 f2 f3 f4 f5 f6 f7 f8 f9 f10 f11 f12
  replace f1 := shm_120 f1
  replace f3 := shm_107 f3
  replace f4 := shm_120 f4
  replace f6 := shm_108 f6
  replace f8 := shm_137 f8
  replace f9 := shm_107 f9
  replace f10 := shm_137 f10
  have cr_2_4 := fdq_4 hD hth r2
  have cr_3_2 := fdq_45 hD hth r3
  have cr_3_3 := fdq_48 hD hth r3
  have ad_10 : v_ad (n_v vs 10) = w_ar ws (n_v vs 3) 2 := congrArg v_ad f4
  have ad_4 : v_ad (n_v vs 4) = w_ar ws (n_v vs 3) 3 := congrArg v_ad f10
  have g1 : v_iv (n_v vs 13) = w_fi ws (n_v vs 0) 2 := congrArg v_iv f1
  simp only [ad_10] at f3
  have h3 : v_iv (n_v vs 11) = w_ei ws (w_ar ws (n_v vs 3) 2) (v_iv (n_v vs 1)) := f3
  have g6 : v_iv (n_v vs 8) = w_fi ws (n_v vs 0) 4 := congrArg v_iv f6
  have g8 : v_iv (n_v vs 6) = w_fi ws (n_v vs 0) 3 := congrArg v_iv f8
  simp only [ad_4] at f9
  have h9 : v_iv (n_v vs 5) = w_ei ws (w_ar ws (n_v vs 3) 3) (v_iv (n_v vs 1)) := f9
  have hK_2_4 := elq_3 hD hth cr_2_4
  have hK_3_2 := elq_10 hD hth cr_3_2
  have hK_3_3 := elq_13 hD hth cr_3_3
  have kz_0_2 := fdq_106 hD hth r0
  have kz_0_3 := fdq_107 hD hth r0
  have kz_0_4 := fdq_103 hD hth r0
  have kz_0_5 := fdq_104 hD hth r0
  have kz_2_0 := fdq_21 hD hth r2
  have hrf0 : 0 ≤ v_iv (n_v vs 14) ∧ v_iv (n_v vs 14) ≤ 5999 := vc_Ro_pointOf_1_r0 (v_iv (n_v vs 1)) (v_iv (n_v vs 5)) (v_iv (n_v vs 6)) (v_iv (n_v vs 7)) (v_iv (n_v vs 8)) (v_iv (n_v vs 9)) (v_iv (n_v vs 11)) (v_iv (n_v vs 12)) (v_iv (n_v vs 13)) (v_iv (n_v vs 14)) (w_fi ws (n_v vs 0) 2) (w_ei ws (w_ar ws (n_v vs 3) 2)) (w_fi ws (n_v vs 0) 4) (w_fi ws (n_v vs 0) 3) (w_ei ws (w_ar ws (n_v vs 3) 3)) (w_ei ws (w_ar ws (n_v vs 2) 4)) (w_fi ws (n_v vs 0) 5) (w_fi ws (n_v vs 2) 0) k1 k5 k6 k7 k8 k9 k11 k12 k13 k14 d0 d1 d2 d3 d4 d5 (shm_14 f0) g1 (shm_12 f2) h3 (shm_38 f5) g6 (shm_14 f7) g8 h9 (shm_471 f11) (shm_416 f12) hK_2_4 hK_3_2 hK_3_3 kz_0_2 kz_0_3 kz_0_4 kz_0_5 kz_2_0
  have nf0 : fc_1 PRD (20, [0, 3, 1, 14], [60, 3, 2, 842, 2, 3, 4, 1002, 1003]) ws (vs) := ⟨nf_in hl rfl, sgq_472 (vc_Ro_pointOf_1_0 (v_iv (n_v vs 1)) (v_iv (n_v vs 5)) (v_iv (n_v vs 6)) (v_iv (n_v vs 7)) (v_iv (n_v vs 8)) (v_iv (n_v vs 9)) (v_iv (n_v vs 11)) (v_iv (n_v vs 12)) (v_iv (n_v vs 13)) (v_iv (n_v vs 14)) (w_fi ws (n_v vs 0) 2) (w_ei ws (w_ar ws (n_v vs 3) 2)) (w_fi ws (n_v vs 0) 4) (w_fi ws (n_v vs 0) 3) (w_ei ws (w_ar ws (n_v vs 3) 3)) (w_ei ws (w_ar ws (n_v vs 2) 4)) (w_fi ws (n_v vs 0) 5) (w_fi ws (n_v vs 2) 0) k1 k5 k6 k7 k8 k9 k11 k12 k13 k14 d0 d1 d2 d3 d4 d5 (shm_14 f0) g1 (shm_12 f2) h3 (shm_38 f5) g6 (shm_14 f7) g8 h9 (shm_471 f11) (shm_416 f12) hK_2_4 hK_3_2 hK_3_3 kz_0_2 kz_0_3 kz_0_4 kz_0_5 kz_2_0)⟩
  have nf1 : fc_1 PRD (20, [14, 0], [50, 2, 0, 1004, 1005, 2, 6, 0, 2, 0, 0, 1, 0, 0, 6, 4, 2, 1, 0, 0, 1, 6, 3, 2, 1, 4, 2, 1, 5]) ws (vs) := ⟨nf_in hl rfl, sgq_473 (vc_Ro_pointOf_1_1 (v_iv (n_v vs 1)) (v_iv (n_v vs 5)) (v_iv (n_v vs 6)) (v_iv (n_v vs 7)) (v_iv (n_v vs 8)) (v_iv (n_v vs 9)) (v_iv (n_v vs 11)) (v_iv (n_v vs 12)) (v_iv (n_v vs 13)) (v_iv (n_v vs 14)) (w_fi ws (n_v vs 0) 2) (w_ei ws (w_ar ws (n_v vs 3) 2)) (w_fi ws (n_v vs 0) 4) (w_fi ws (n_v vs 0) 3) (w_ei ws (w_ar ws (n_v vs 3) 3)) (w_ei ws (w_ar ws (n_v vs 2) 4)) (w_fi ws (n_v vs 0) 5) (w_fi ws (n_v vs 2) 0) k1 k5 k6 k7 k8 k9 k11 k12 k13 k14 d0 d1 d2 d3 d4 d5 (shm_14 f0) g1 (shm_12 f2) h3 (shm_38 f5) g6 (shm_14 f7) g8 h9 (shm_471 f11) (shm_416 f12) hK_2_4 hK_3_2 hK_3_3 kz_0_2 kz_0_3 kz_0_4 kz_0_5 kz_2_0)⟩
  have rf14 : tv_ok ta (0, 0, 5999, []) (n_v vs 14) := tv_in t14 (by first | omega | grind) (by first | omega | grind)
  refine ⟨List.forall_mem_cons.mpr ⟨rf14, (fun _ h => (by cases h))⟩, [], trivial, ?_, (fun _ h => (by cases h))⟩
  rw [List.append_nil]
  exact List.forall_mem_cons.mpr ⟨⟨show (20 : Nat) < 100 from by decide, nf0⟩, List.forall_mem_cons.mpr ⟨⟨show (20 : Nat) < 100 from by decide, nf1⟩, (fun _ h => (by cases h))⟩⟩
def n_Ro_pointOf_an : List an_T := []
def t_Ro_pointOf_ct : ct_L := []
set_option maxRecDepth 100000 in
theorem c_Ro_pointOf {l : Launch} {D : va_G} {kA : Nat → ClassId} : ct_ok PRD l D kA GG y_Ro_pointOf z_Ro_pointOf e_Ro_pointOf := chk_all_ok (FT := [(15, 9, 1), (19, 9, 2), (23, 9, 3), (26, 9, 4), (111, 0, 2), (126, 0, 3)]) (PT := []) (CT := t_Ro_pointOf_ct) (KT := []) (NT := []) (AN := n_Ro_pointOf_an) (OT := [o_Ro_pointOf_0, o_Ro_pointOf_1]) 0 200 (List.forall_mem_cons.mpr ⟨oo_Ro_pointOf_0, List.forall_mem_cons.mpr ⟨oo_Ro_pointOf_1, List.forall_mem_nil _⟩⟩) (by decide +kernel) ⟨List.forall_mem_cons.mpr ⟨gf_Ro_15, List.forall_mem_cons.mpr ⟨gf_Ro_19, List.forall_mem_cons.mpr ⟨gf_Ro_23, List.forall_mem_cons.mpr ⟨gf_Ro_26, List.forall_mem_cons.mpr ⟨gf_Ro_111, List.forall_mem_cons.mpr ⟨gf_Ro_126, List.forall_mem_nil _⟩⟩⟩⟩⟩⟩, List.forall_mem_nil _, List.forall_mem_nil _, List.forall_mem_nil _, List.forall_mem_nil _, GG_pl⟩ (by decide +kernel)
set_option maxHeartbeats 4000000 in
theorem vc_St_addArc_at_gl_0_0 (x1 : Int) (x2 : Int) (x3 : Int) (x4 : Int) (x7 : Int) (x8 : Int) (x9 : Int) (arcs_0 : Int) (from_0 : Int → Int) (to_0 : Int → Int) (room_0 : Int → Int) (gain_0 : Int → Int) (tail_0o5 : Int → Int) (head_0o5 : Int → Int) (weight_0o5 : Int → Int) (turned_0o6 : Int → Int) (k1 : 0 ≤ x1 ∧ x1 ≤ 23) (k2 : 0 ≤ x2 ∧ x2 ≤ 23) (k3 : 0 ≤ x3 ∧ x3 ≤ 1000000000) (k4 : (-1) ≤ x4 ∧ x4 ≤ 1) (k7 : 0 ≤ x7 ∧ x7 ≤ 384) (k8 : 384 ≤ x8 ∧ x8 ≤ 384) (k9 : 384 ≤ x9 ∧ x9 ≤ 384) (f0 : x9 ≤ x8) (g1 : x8 = arcs_0) (f2 : AP (arcs_0) (from_0) (to_0) (room_0) (gain_0) (tail_0o5) (head_0o5) (weight_0o5) (turned_0o6) (x7)) (f3 : APX (tail_0o5) (head_0o5) (weight_0o5) (turned_0o6) (x7) (x1) (x2) (x3) (x4)) (f4 : x7 ≤ 191) (hK_0_2 : ∀ j : Int, 0 ≤ j → j < 384 → 0 ≤ from_0 j ∧ from_0 j ≤ 71) (hK_0_3 : ∀ j : Int, 0 ≤ j → j < 384 → 0 ≤ to_0 j ∧ to_0 j ≤ 71) (hK_0_4 : ∀ j : Int, 0 ≤ j → j < 384 → (-2147483648) ≤ room_0 j ∧ room_0 j ≤ 2147483647) (hK_0_5 : ∀ j : Int, 0 ≤ j → j < 384 → (-20) ≤ gain_0 j ∧ gain_0 j ≤ 20) (hK_5_7 : ∀ j : Int, 0 ≤ j → j < 48 → 0 ≤ tail_0o5 j ∧ tail_0o5 j ≤ 23) (hK_5_8 : ∀ j : Int, 0 ≤ j → j < 48 → 0 ≤ head_0o5 j ∧ head_0o5 j ≤ 23) (hK_5_9 : ∀ j : Int, 0 ≤ j → j < 48 → 0 ≤ weight_0o5 j ∧ weight_0o5 j ≤ 9) (hK_6_9 : ∀ j : Int, 0 ≤ j → j < 48 → 0 ≤ turned_0o6 j ∧ turned_0o6 j ≤ 1) (kz_0_1 : 0 ≤ arcs_0 ∧ arcs_0 ≤ 384) : APA (arcs_0) (from_0) (to_0) (room_0) (gain_0) (tail_0o5) (head_0o5) (weight_0o5) (turned_0o6) (x7) := by
  first
    | (exfalso; have q := (‹AP _ _ _ _ _ _ _ _ _ _›).1; omega)
    | exact ap_add ‹AP _ _ _ _ _ _ _ _ _ _› ‹APX _ _ _ _ _ _ _ _ _› (by assumption) (by omega) (by assumption) (by omega) (by assumption) (by omega) (by assumption) (by omega) (by omega)
  
def o_St_addArc_at_gl_0 : or_T := (61, 10, [(0, (2, 0, 0, [10])), (1, (0, 0, 23, [])), (2, (0, 0, 23, [])), (3, (0, 0, 1000000000, [])), (4, (0, -1, 1, [])), (5, (2, 0, 0, [3])), (6, (2, 0, 0, [2])), (7, (0, 0, 384, [])), (8, (0, 384, 384, [])), (9, (0, 384, 384, []))], [(7, [8, 9], [3]), (9, [8, 0], [1]), (20, [0, 5, 6, 7], [60, 1, 8, 651, 1, 2, 3, 4, 5, 1007, 1008, 1009, 2009]), (20, [5, 6, 7, 1, 2, 3, 4], [60, 0, 4, 655, 7, 8, 9, 1009]), (20, [7], [50, 0, 0, 0, 2, 1, 0, 0, 191])], [], [], [(20, [0, 5, 6, 7], [60, 1, 8, 652, 1, 2, 3, 4, 5, 1007, 1008, 1009, 2009])], [], [])
theorem oo_St_addArc_at_gl_0 {kA : Nat → ClassId} : or_ok PRD kA GG o_St_addArc_at_gl_0 := by
  refine or_mk fun A ta ws vs hD hth hl => ?_
  intro t0 r0 t1 k1 t2 k2 t3 k3 t4 k4 t5 r5 t6 r6 t7 k7 t8 k8 t9 k9 f0 f1 f2 f3 f4
  replace f1 := shm_215 f1
  have cr_0_2 := fdq_108 hD hth r0
  have cr_0_3 := fdq_109 hD hth r0
  have cr_0_4 := fdq_110 hD hth r0
  have cr_0_5 := fdq_111 hD hth r0
  have cr_5_7 := fdq_46 hD hth r5
  have cr_5_8 := fdq_47 hD hth r5
  have cr_5_9 := fdq_112 hD hth r5
  have cr_6_9 := fdq_76 hD hth r6
  have g1 : v_iv (n_v vs 8) = w_fi ws (n_v vs 0) 1 := congrArg v_iv f1
  have hK_0_2 := elq_53 hD hth cr_0_2
  have hK_0_3 := elq_54 hD hth cr_0_3
  have hK_0_4 := elq_55 hD hth cr_0_4
  have hK_0_5 := elq_56 hD hth cr_0_5
  have hK_5_7 := elq_11 hD hth cr_5_7
  have hK_5_8 := elq_12 hD hth cr_5_8
  have hK_5_9 := elq_57 hD hth cr_5_9
  have hK_6_9 := elq_38 hD hth cr_6_9
  have kz_0_1 := fdq_113 hD hth r0
  have nf0 : fc_1 PRD (20, [0, 5, 6, 7], [60, 1, 8, 652, 1, 2, 3, 4, 5, 1007, 1008, 1009, 2009]) ws (vs) := ⟨nf_in hl rfl, sgq_477 (vc_St_addArc_at_gl_0_0 (v_iv (n_v vs 1)) (v_iv (n_v vs 2)) (v_iv (n_v vs 3)) (v_iv (n_v vs 4)) (v_iv (n_v vs 7)) (v_iv (n_v vs 8)) (v_iv (n_v vs 9)) (w_fi ws (n_v vs 0) 1) (w_ei ws (w_ar ws (n_v vs 0) 2)) (w_ei ws (w_ar ws (n_v vs 0) 3)) (w_ei ws (w_ar ws (n_v vs 0) 4)) (w_ei ws (w_ar ws (n_v vs 0) 5)) (w_ei ws (w_ar ws (n_v vs 5) 7)) (w_ei ws (w_ar ws (n_v vs 5) 8)) (w_ei ws (w_ar ws (n_v vs 5) 9)) (w_ei ws (w_ar ws (n_v vs 6) 9)) k1 k2 k3 k4 k7 k8 k9 (shm_2 f0) g1 (shm_474 f2) (shm_475 f3) (shm_476 f4) hK_0_2 hK_0_3 hK_0_4 hK_0_5 hK_5_7 hK_5_8 hK_5_9 hK_6_9 kz_0_1)⟩
  refine ⟨(fun _ h => (by cases h)), [], trivial, ?_, (fun _ h => (by cases h))⟩
  rw [List.append_nil]
  exact List.forall_mem_cons.mpr ⟨⟨show (20 : Nat) < 100 from by decide, nf0⟩, (fun _ h => (by cases h))⟩
set_option maxHeartbeats 4000000 in
theorem vc_St_addArc_at_gl_1_0 (x1 : Int) (x2 : Int) (x3 : Int) (x4 : Int) (x7 : Int) (x8 : Int) (x9 : Int) (x14 : Int) (x15 : Int) (arcs_0 : Int) (tail_0o5 : Int → Int) (head_0o5 : Int → Int) (weight_0o5 : Int → Int) (turned_0o6 : Int → Int) (arcs_1 : Int) (tail_1o5 : Int → Int) (head_1o5 : Int → Int) (weight_1o5 : Int → Int) (turned_1o6 : Int → Int) (tail_2o5 : Int → Int) (head_2o5 : Int → Int) (weight_2o5 : Int → Int) (turned_2o6 : Int → Int) (tail_3o5 : Int → Int) (head_3o5 : Int → Int) (weight_3o5 : Int → Int) (turned_3o6 : Int → Int) (tail_4o5 : Int → Int) (head_4o5 : Int → Int) (weight_4o5 : Int → Int) (turned_4o6 : Int → Int) (from_5 : Int → Int) (to_5 : Int → Int) (room_5 : Int → Int) (gain_5 : Int → Int) (tail_5o5 : Int → Int) (head_5o5 : Int → Int) (weight_5o5 : Int → Int) (turned_5o6 : Int → Int) (arcs_5 : Int) (arcs_2 : Int) (arcs_3 : Int) (arcs_4 : Int) (from_0 : Int → Int) (from_1 : Int → Int) (from_2 : Int → Int) (from_3 : Int → Int) (from_4 : Int → Int) (to_0 : Int → Int) (to_1 : Int → Int) (to_2 : Int → Int) (to_3 : Int → Int) (to_4 : Int → Int) (room_0 : Int → Int) (room_1 : Int → Int) (room_2 : Int → Int) (room_3 : Int → Int) (room_4 : Int → Int) (gain_0 : Int → Int) (gain_1 : Int → Int) (gain_2 : Int → Int) (gain_3 : Int → Int) (gain_4 : Int → Int) (k1 : 0 ≤ x1 ∧ x1 ≤ 23) (k2 : 0 ≤ x2 ∧ x2 ≤ 23) (k3 : 0 ≤ x3 ∧ x3 ≤ 1000000000) (k4 : (-1) ≤ x4 ∧ x4 ≤ 1) (k7 : 0 ≤ x7 ∧ x7 ≤ 384) (k8 : 0 ≤ x8 ∧ x8 ≤ 383) (k9 : 384 ≤ x9 ∧ x9 ≤ 384) (k14 : 1 ≤ x14 ∧ x14 ≤ 1) (k15 : 1 ≤ x15 ∧ x15 ≤ 384) (d0 : x8 + 1 ≤ x15 ∧ x15 ≤ x8 + 1) (g0 : x15 = arcs_0) (f5 : APX (tail_0o5) (head_0o5) (weight_0o5) (turned_0o6) (x7) (x1) (x2) (x3) (x4)) (f6 : x7 ≤ 191) (f8 : x15 = x8 + x14) (g9 : x8 = arcs_1) (f10 : APX (tail_1o5) (head_1o5) (weight_1o5) (turned_1o6) (x7) (x1) (x2) (x3) (x4)) (f11 : x7 ≤ 191) (f13 : APX (tail_2o5) (head_2o5) (weight_2o5) (turned_2o6) (x7) (x1) (x2) (x3) (x4)) (f14 : x7 ≤ 191) (f16 : APX (tail_3o5) (head_3o5) (weight_3o5) (turned_3o6) (x7) (x1) (x2) (x3) (x4)) (f17 : x7 ≤ 191) (f19 : APX (tail_4o5) (head_4o5) (weight_4o5) (turned_4o6) (x7) (x1) (x2) (x3) (x4)) (f20 : x7 ≤ 191) (f22 : x8 < x9) (f23 : AP (arcs_5) (from_5) (to_5) (room_5) (gain_5) (tail_5o5) (head_5o5) (weight_5o5) (turned_5o6) (x7)) (f24 : APX (tail_5o5) (head_5o5) (weight_5o5) (turned_5o6) (x7) (x1) (x2) (x3) (x4)) (f25 : x7 ≤ 191) (fe_0_1_1 : arcs_0 = x15) (fe_0_1_2 : arcs_1 = arcs_2) (fe_0_1_3 : arcs_2 = arcs_3) (fe_0_1_4 : arcs_3 = arcs_4) (fe_0_1_5 : arcs_4 = arcs_5) (hE_0_2_1 : ∀ j : Int, from_0 j = from_1 j) (hE_0_2_2 : ∀ j : Int, from_1 j = from_2 j) (hE_0_2_3 : ∀ j : Int, from_2 j = from_3 j) (hE_0_2_4 : ∀ j : Int, from_3 j = from_4 j) (hE_0_2_5 : ∀ j : Int, 0 ≤ j → (j = x8 → from_4 j = x1) ∧ (j ≠ x8 → from_4 j = from_5 j)) (hK_0_2 : ∀ j : Int, 0 ≤ j → j < 384 → 0 ≤ from_0 j ∧ from_0 j ≤ 71) (hE_0_3_1 : ∀ j : Int, to_0 j = to_1 j) (hE_0_3_2 : ∀ j : Int, to_1 j = to_2 j) (hE_0_3_3 : ∀ j : Int, to_2 j = to_3 j) (hE_0_3_4 : ∀ j : Int, 0 ≤ j → (j = x8 → to_3 j = x2) ∧ (j ≠ x8 → to_3 j = to_4 j)) (hE_0_3_5 : ∀ j : Int, to_4 j = to_5 j) (hK_0_3 : ∀ j : Int, 0 ≤ j → j < 384 → 0 ≤ to_0 j ∧ to_0 j ≤ 71) (hE_0_4_1 : ∀ j : Int, room_0 j = room_1 j) (hE_0_4_2 : ∀ j : Int, room_1 j = room_2 j) (hE_0_4_3 : ∀ j : Int, 0 ≤ j → (j = x8 → room_2 j = x3) ∧ (j ≠ x8 → room_2 j = room_3 j)) (hE_0_4_4 : ∀ j : Int, room_3 j = room_4 j) (hE_0_4_5 : ∀ j : Int, room_4 j = room_5 j) (hK_0_4 : ∀ j : Int, 0 ≤ j → j < 384 → (-2147483648) ≤ room_0 j ∧ room_0 j ≤ 2147483647) (hE_0_5_1 : ∀ j : Int, gain_0 j = gain_1 j) (hE_0_5_2 : ∀ j : Int, 0 ≤ j → (j = x8 → gain_1 j = x4) ∧ (j ≠ x8 → gain_1 j = gain_2 j)) (hE_0_5_3 : ∀ j : Int, gain_2 j = gain_3 j) (hE_0_5_4 : ∀ j : Int, gain_3 j = gain_4 j) (hE_0_5_5 : ∀ j : Int, gain_4 j = gain_5 j) (hK_0_5 : ∀ j : Int, 0 ≤ j → j < 384 → (-20) ≤ gain_0 j ∧ gain_0 j ≤ 20) (hE_5_7_1 : ∀ j : Int, tail_0o5 j = tail_1o5 j) (hE_5_7_2 : ∀ j : Int, tail_1o5 j = tail_2o5 j) (hE_5_7_3 : ∀ j : Int, tail_2o5 j = tail_3o5 j) (hE_5_7_4 : ∀ j : Int, tail_3o5 j = tail_4o5 j) (hE_5_7_5 : ∀ j : Int, tail_4o5 j = tail_5o5 j) (hK_5_7 : ∀ j : Int, 0 ≤ j → j < 48 → 0 ≤ tail_0o5 j ∧ tail_0o5 j ≤ 23) (hE_5_8_1 : ∀ j : Int, head_0o5 j = head_1o5 j) (hE_5_8_2 : ∀ j : Int, head_1o5 j = head_2o5 j) (hE_5_8_3 : ∀ j : Int, head_2o5 j = head_3o5 j) (hE_5_8_4 : ∀ j : Int, head_3o5 j = head_4o5 j) (hE_5_8_5 : ∀ j : Int, head_4o5 j = head_5o5 j) (hK_5_8 : ∀ j : Int, 0 ≤ j → j < 48 → 0 ≤ head_0o5 j ∧ head_0o5 j ≤ 23) (hE_5_9_1 : ∀ j : Int, weight_0o5 j = weight_1o5 j) (hE_5_9_2 : ∀ j : Int, weight_1o5 j = weight_2o5 j) (hE_5_9_3 : ∀ j : Int, weight_2o5 j = weight_3o5 j) (hE_5_9_4 : ∀ j : Int, weight_3o5 j = weight_4o5 j) (hE_5_9_5 : ∀ j : Int, weight_4o5 j = weight_5o5 j) (hK_5_9 : ∀ j : Int, 0 ≤ j → j < 48 → 0 ≤ weight_0o5 j ∧ weight_0o5 j ≤ 9) (hE_6_9_1 : ∀ j : Int, turned_0o6 j = turned_1o6 j) (hE_6_9_2 : ∀ j : Int, turned_1o6 j = turned_2o6 j) (hE_6_9_3 : ∀ j : Int, turned_2o6 j = turned_3o6 j) (hE_6_9_4 : ∀ j : Int, turned_3o6 j = turned_4o6 j) (hE_6_9_5 : ∀ j : Int, turned_4o6 j = turned_5o6 j) (hK_6_9 : ∀ j : Int, 0 ≤ j → j < 48 → 0 ≤ turned_0o6 j ∧ turned_0o6 j ≤ 1) (kz_0_1 : 0 ≤ arcs_0 ∧ arcs_0 ≤ 384) : APA (arcs_0) (from_0) (to_0) (room_0) (gain_0) (tail_0o5) (head_0o5) (weight_0o5) (turned_0o6) (x7) := by
  subst fe_0_1_2
  subst fe_0_1_3
  subst fe_0_1_4
  subst fe_0_1_5
  have e_hE_0_2_1 := funext hE_0_2_1; subst e_hE_0_2_1
  have e_hE_0_2_2 := funext hE_0_2_2; subst e_hE_0_2_2
  have e_hE_0_2_3 := funext hE_0_2_3; subst e_hE_0_2_3
  have e_hE_0_2_4 := funext hE_0_2_4; subst e_hE_0_2_4
  have e_hE_0_3_1 := funext hE_0_3_1; subst e_hE_0_3_1
  have e_hE_0_3_2 := funext hE_0_3_2; subst e_hE_0_3_2
  have e_hE_0_3_3 := funext hE_0_3_3; subst e_hE_0_3_3
  have e_hE_0_3_5 := funext hE_0_3_5; subst e_hE_0_3_5
  have e_hE_0_4_1 := funext hE_0_4_1; subst e_hE_0_4_1
  have e_hE_0_4_2 := funext hE_0_4_2; subst e_hE_0_4_2
  have e_hE_0_4_4 := funext hE_0_4_4; subst e_hE_0_4_4
  have e_hE_0_4_5 := funext hE_0_4_5; subst e_hE_0_4_5
  have e_hE_0_5_1 := funext hE_0_5_1; subst e_hE_0_5_1
  have e_hE_0_5_3 := funext hE_0_5_3; subst e_hE_0_5_3
  have e_hE_0_5_4 := funext hE_0_5_4; subst e_hE_0_5_4
  have e_hE_0_5_5 := funext hE_0_5_5; subst e_hE_0_5_5
  have e_hE_5_7_1 := funext hE_5_7_1; subst e_hE_5_7_1
  have e_hE_5_7_2 := funext hE_5_7_2; subst e_hE_5_7_2
  have e_hE_5_7_3 := funext hE_5_7_3; subst e_hE_5_7_3
  have e_hE_5_7_4 := funext hE_5_7_4; subst e_hE_5_7_4
  have e_hE_5_7_5 := funext hE_5_7_5; subst e_hE_5_7_5
  have e_hE_5_8_1 := funext hE_5_8_1; subst e_hE_5_8_1
  have e_hE_5_8_2 := funext hE_5_8_2; subst e_hE_5_8_2
  have e_hE_5_8_3 := funext hE_5_8_3; subst e_hE_5_8_3
  have e_hE_5_8_4 := funext hE_5_8_4; subst e_hE_5_8_4
  have e_hE_5_8_5 := funext hE_5_8_5; subst e_hE_5_8_5
  have e_hE_5_9_1 := funext hE_5_9_1; subst e_hE_5_9_1
  have e_hE_5_9_2 := funext hE_5_9_2; subst e_hE_5_9_2
  have e_hE_5_9_3 := funext hE_5_9_3; subst e_hE_5_9_3
  have e_hE_5_9_4 := funext hE_5_9_4; subst e_hE_5_9_4
  have e_hE_5_9_5 := funext hE_5_9_5; subst e_hE_5_9_5
  have e_hE_6_9_1 := funext hE_6_9_1; subst e_hE_6_9_1
  have e_hE_6_9_2 := funext hE_6_9_2; subst e_hE_6_9_2
  have e_hE_6_9_3 := funext hE_6_9_3; subst e_hE_6_9_3
  have e_hE_6_9_4 := funext hE_6_9_4; subst e_hE_6_9_4
  have e_hE_6_9_5 := funext hE_6_9_5; subst e_hE_6_9_5
  first
    | (exfalso; have q := (‹AP _ _ _ _ _ _ _ _ _ _›).1; omega)
    | exact ap_add ‹AP _ _ _ _ _ _ _ _ _ _› ‹APX _ _ _ _ _ _ _ _ _› (by assumption) (by omega) (by assumption) (by omega) (by assumption) (by omega) (by assumption) (by omega) (by omega)
  
def o_St_addArc_at_gl_1 : or_T := (61, 16, [(0, (2, 0, 0, [10])), (1, (0, 0, 23, [])), (2, (0, 0, 23, [])), (3, (0, 0, 1000000000, [])), (4, (0, -1, 1, [])), (5, (2, 0, 0, [3])), (6, (2, 0, 0, [2])), (7, (0, 0, 384, [])), (8, (0, 0, 383, [])), (9, (0, 384, 384, [])), (10, (2, 0, 0, [118])), (11, (2, 0, 0, [119])), (12, (2, 0, 0, [120])), (13, (2, 0, 0, [121])), (14, (0, 1, 1, [])), (15, (0, 1, 384, []))], [(9, [15, 0], [1]), (9, [13, 0], [5]), (9, [12, 0], [4]), (9, [11, 0], [3]), (9, [10, 0], [2]), (20, [5, 6, 7, 1, 2, 3, 4], [60, 0, 4, 655, 7, 8, 9, 1009]), (20, [7], [50, 0, 0, 0, 2, 1, 0, 0, 191]), (101, [0, 15], [1]), (1, [15, 8, 14], []), (9, [8, 0], [1]), (20, [5, 6, 7, 1, 2, 3, 4], [60, 0, 4, 655, 7, 8, 9, 1009]), (20, [7], [50, 0, 0, 0, 2, 1, 0, 0, 191]), (100, [13, 8, 4], []), (20, [5, 6, 7, 1, 2, 3, 4], [60, 0, 4, 655, 7, 8, 9, 1009]), (20, [7], [50, 0, 0, 0, 2, 1, 0, 0, 191]), (100, [12, 8, 3], []), (20, [5, 6, 7, 1, 2, 3, 4], [60, 0, 4, 655, 7, 8, 9, 1009]), (20, [7], [50, 0, 0, 0, 2, 1, 0, 0, 191]), (100, [11, 8, 2], []), (20, [5, 6, 7, 1, 2, 3, 4], [60, 0, 4, 655, 7, 8, 9, 1009]), (20, [7], [50, 0, 0, 0, 2, 1, 0, 0, 191]), (100, [10, 8, 1], []), (7, [8, 9], [2]), (20, [0, 5, 6, 7], [60, 1, 8, 651, 1, 2, 3, 4, 5, 1007, 1008, 1009, 2009]), (20, [5, 6, 7, 1, 2, 3, 4], [60, 0, 4, 655, 7, 8, 9, 1009]), (20, [7], [50, 0, 0, 0, 2, 1, 0, 0, 191])], [], [], [(20, [0, 5, 6, 7], [60, 1, 8, 652, 1, 2, 3, 4, 5, 1007, 1008, 1009, 2009])], [], [(15, 8, 1, 1)])
theorem oo_St_addArc_at_gl_1 {kA : Nat → ClassId} : or_ok PRD kA GG o_St_addArc_at_gl_1 := by
  refine or_mk fun A ta ws vs hD hth hl => ?_
  intro t0 r0 t1 k1 t2 k2 t3 k3 t4 k4 t5 r5 t6 r6 t7 k7 t8 k8 t9 k9 t10 r10 t11 r11 t12 r12 t13 r13 t14 k14 t15 k15 d0 f0 f1 f2 f3 f4 f5 f6 ta1 w1 le1 s1 f8 f9 f10 f11 ta2 w2 le2 s2 f13 f14 ta3 w3 le3 s3 f16 f17 ta4 w4 le4 s4 f19 f20 ta5 w5 le5 s5 f22 f23 f24 f25
  replace f0 := shm_215 f0
  replace f1 := shm_110 f1
  replace f2 := shm_108 f2
  replace f3 := shm_137 f3
  replace f4 := shm_120 f4
  have s1 : (∀ b j, w_el ws b j = w_el w1 b j) ∧ ∀ b j, w_fd ws b j = if b = v_ad (n_v vs 0) ∧ j = 1 then n_v vs 15 else w_fd w1 b j := s1.2
  replace f9 := shm_215 f9
  replace f10 := shm_475 f10
  have s2 : (∀ b j, w_el w1 b j = if b = v_ad (n_v vs 13) ∧ j = (v_iv (n_v vs 8)).toNat then v_iv (n_v vs 4) else w_el w2 b j) ∧ ∀ b k, w_fd w1 b k = w_fd w2 b k := s2.2
  replace f13 := shm_475 f13
  have s3 : (∀ b j, w_el w2 b j = if b = v_ad (n_v vs 12) ∧ j = (v_iv (n_v vs 8)).toNat then v_iv (n_v vs 3) else w_el w3 b j) ∧ ∀ b k, w_fd w2 b k = w_fd w3 b k := s3.2
  replace f16 := shm_475 f16
  have s4 : (∀ b j, w_el w3 b j = if b = v_ad (n_v vs 11) ∧ j = (v_iv (n_v vs 8)).toNat then v_iv (n_v vs 2) else w_el w4 b j) ∧ ∀ b k, w_fd w3 b k = w_fd w4 b k := s4.2
  replace f19 := shm_475 f19
  have s5 : (∀ b j, w_el w4 b j = if b = v_ad (n_v vs 10) ∧ j = (v_iv (n_v vs 8)).toNat then v_iv (n_v vs 1) else w_el w5 b j) ∧ ∀ b k, w_fd w4 b k = w_fd w5 b k := s5.2
  replace f23 := shm_474 f23
  replace f24 := shm_475 f24
  have ar_0_2_1 : w_ar w1 (n_v vs 0) 2 = w_ar ws (n_v vs 0) 2 := by show v_ad (w_fd w1 _ _) = v_ad (w_fd ws _ _); rw [s1.2, if_neg (fun e => absurd e.2 (by decide))]
  have ar_0_2_2 : w_ar w2 (n_v vs 0) 2 = w_ar ws (n_v vs 0) 2 := by rw [← ar_0_2_1]; show v_ad (w_fd w2 _ _) = v_ad (w_fd w1 _ _); rw [s2.2]
  have ar_0_2_3 : w_ar w3 (n_v vs 0) 2 = w_ar ws (n_v vs 0) 2 := by rw [← ar_0_2_2]; show v_ad (w_fd w3 _ _) = v_ad (w_fd w2 _ _); rw [s3.2]
  have ar_0_2_4 : w_ar w4 (n_v vs 0) 2 = w_ar ws (n_v vs 0) 2 := by rw [← ar_0_2_3]; show v_ad (w_fd w4 _ _) = v_ad (w_fd w3 _ _); rw [s4.2]
  have ar_0_2_5 : w_ar w5 (n_v vs 0) 2 = w_ar ws (n_v vs 0) 2 := by rw [← ar_0_2_4]; show v_ad (w_fd w5 _ _) = v_ad (w_fd w4 _ _); rw [s5.2]
  have cr_0_2 := fdq_108 hD hth r0
  have ar_0_3_1 : w_ar w1 (n_v vs 0) 3 = w_ar ws (n_v vs 0) 3 := by show v_ad (w_fd w1 _ _) = v_ad (w_fd ws _ _); rw [s1.2, if_neg (fun e => absurd e.2 (by decide))]
  have ar_0_3_2 : w_ar w2 (n_v vs 0) 3 = w_ar ws (n_v vs 0) 3 := by rw [← ar_0_3_1]; show v_ad (w_fd w2 _ _) = v_ad (w_fd w1 _ _); rw [s2.2]
  have ar_0_3_3 : w_ar w3 (n_v vs 0) 3 = w_ar ws (n_v vs 0) 3 := by rw [← ar_0_3_2]; show v_ad (w_fd w3 _ _) = v_ad (w_fd w2 _ _); rw [s3.2]
  have ar_0_3_4 : w_ar w4 (n_v vs 0) 3 = w_ar ws (n_v vs 0) 3 := by rw [← ar_0_3_3]; show v_ad (w_fd w4 _ _) = v_ad (w_fd w3 _ _); rw [s4.2]
  have ar_0_3_5 : w_ar w5 (n_v vs 0) 3 = w_ar ws (n_v vs 0) 3 := by rw [← ar_0_3_4]; show v_ad (w_fd w5 _ _) = v_ad (w_fd w4 _ _); rw [s5.2]
  have cr_0_3 := fdq_109 hD hth r0
  have ar_0_4_1 : w_ar w1 (n_v vs 0) 4 = w_ar ws (n_v vs 0) 4 := by show v_ad (w_fd w1 _ _) = v_ad (w_fd ws _ _); rw [s1.2, if_neg (fun e => absurd e.2 (by decide))]
  have ar_0_4_2 : w_ar w2 (n_v vs 0) 4 = w_ar ws (n_v vs 0) 4 := by rw [← ar_0_4_1]; show v_ad (w_fd w2 _ _) = v_ad (w_fd w1 _ _); rw [s2.2]
  have ar_0_4_3 : w_ar w3 (n_v vs 0) 4 = w_ar ws (n_v vs 0) 4 := by rw [← ar_0_4_2]; show v_ad (w_fd w3 _ _) = v_ad (w_fd w2 _ _); rw [s3.2]
  have ar_0_4_4 : w_ar w4 (n_v vs 0) 4 = w_ar ws (n_v vs 0) 4 := by rw [← ar_0_4_3]; show v_ad (w_fd w4 _ _) = v_ad (w_fd w3 _ _); rw [s4.2]
  have ar_0_4_5 : w_ar w5 (n_v vs 0) 4 = w_ar ws (n_v vs 0) 4 := by rw [← ar_0_4_4]; show v_ad (w_fd w5 _ _) = v_ad (w_fd w4 _ _); rw [s5.2]
  have cr_0_4 := fdq_110 hD hth r0
  have ar_0_5_1 : w_ar w1 (n_v vs 0) 5 = w_ar ws (n_v vs 0) 5 := by show v_ad (w_fd w1 _ _) = v_ad (w_fd ws _ _); rw [s1.2, if_neg (fun e => absurd e.2 (by decide))]
  have ar_0_5_2 : w_ar w2 (n_v vs 0) 5 = w_ar ws (n_v vs 0) 5 := by rw [← ar_0_5_1]; show v_ad (w_fd w2 _ _) = v_ad (w_fd w1 _ _); rw [s2.2]
  have ar_0_5_3 : w_ar w3 (n_v vs 0) 5 = w_ar ws (n_v vs 0) 5 := by rw [← ar_0_5_2]; show v_ad (w_fd w3 _ _) = v_ad (w_fd w2 _ _); rw [s3.2]
  have ar_0_5_4 : w_ar w4 (n_v vs 0) 5 = w_ar ws (n_v vs 0) 5 := by rw [← ar_0_5_3]; show v_ad (w_fd w4 _ _) = v_ad (w_fd w3 _ _); rw [s4.2]
  have ar_0_5_5 : w_ar w5 (n_v vs 0) 5 = w_ar ws (n_v vs 0) 5 := by rw [← ar_0_5_4]; show v_ad (w_fd w5 _ _) = v_ad (w_fd w4 _ _); rw [s5.2]
  have cr_0_5 := fdq_111 hD hth r0
  have ar_5_7_1 : w_ar w1 (n_v vs 5) 7 = w_ar ws (n_v vs 5) 7 := by show v_ad (w_fd w1 _ _) = v_ad (w_fd ws _ _); rw [s1.2, if_neg (fun e => absurd e.2 (by decide))]
  have ar_5_7_2 : w_ar w2 (n_v vs 5) 7 = w_ar ws (n_v vs 5) 7 := by rw [← ar_5_7_1]; show v_ad (w_fd w2 _ _) = v_ad (w_fd w1 _ _); rw [s2.2]
  have ar_5_7_3 : w_ar w3 (n_v vs 5) 7 = w_ar ws (n_v vs 5) 7 := by rw [← ar_5_7_2]; show v_ad (w_fd w3 _ _) = v_ad (w_fd w2 _ _); rw [s3.2]
  have ar_5_7_4 : w_ar w4 (n_v vs 5) 7 = w_ar ws (n_v vs 5) 7 := by rw [← ar_5_7_3]; show v_ad (w_fd w4 _ _) = v_ad (w_fd w3 _ _); rw [s4.2]
  have ar_5_7_5 : w_ar w5 (n_v vs 5) 7 = w_ar ws (n_v vs 5) 7 := by rw [← ar_5_7_4]; show v_ad (w_fd w5 _ _) = v_ad (w_fd w4 _ _); rw [s5.2]
  have cr_5_7 := fdq_46 hD hth r5
  have ar_5_8_1 : w_ar w1 (n_v vs 5) 8 = w_ar ws (n_v vs 5) 8 := by show v_ad (w_fd w1 _ _) = v_ad (w_fd ws _ _); rw [s1.2, if_neg (fun e => absurd e.2 (by decide))]
  have ar_5_8_2 : w_ar w2 (n_v vs 5) 8 = w_ar ws (n_v vs 5) 8 := by rw [← ar_5_8_1]; show v_ad (w_fd w2 _ _) = v_ad (w_fd w1 _ _); rw [s2.2]
  have ar_5_8_3 : w_ar w3 (n_v vs 5) 8 = w_ar ws (n_v vs 5) 8 := by rw [← ar_5_8_2]; show v_ad (w_fd w3 _ _) = v_ad (w_fd w2 _ _); rw [s3.2]
  have ar_5_8_4 : w_ar w4 (n_v vs 5) 8 = w_ar ws (n_v vs 5) 8 := by rw [← ar_5_8_3]; show v_ad (w_fd w4 _ _) = v_ad (w_fd w3 _ _); rw [s4.2]
  have ar_5_8_5 : w_ar w5 (n_v vs 5) 8 = w_ar ws (n_v vs 5) 8 := by rw [← ar_5_8_4]; show v_ad (w_fd w5 _ _) = v_ad (w_fd w4 _ _); rw [s5.2]
  have cr_5_8 := fdq_47 hD hth r5
  have ar_5_9_1 : w_ar w1 (n_v vs 5) 9 = w_ar ws (n_v vs 5) 9 := by show v_ad (w_fd w1 _ _) = v_ad (w_fd ws _ _); rw [s1.2, if_neg (fun e => absurd e.2 (by decide))]
  have ar_5_9_2 : w_ar w2 (n_v vs 5) 9 = w_ar ws (n_v vs 5) 9 := by rw [← ar_5_9_1]; show v_ad (w_fd w2 _ _) = v_ad (w_fd w1 _ _); rw [s2.2]
  have ar_5_9_3 : w_ar w3 (n_v vs 5) 9 = w_ar ws (n_v vs 5) 9 := by rw [← ar_5_9_2]; show v_ad (w_fd w3 _ _) = v_ad (w_fd w2 _ _); rw [s3.2]
  have ar_5_9_4 : w_ar w4 (n_v vs 5) 9 = w_ar ws (n_v vs 5) 9 := by rw [← ar_5_9_3]; show v_ad (w_fd w4 _ _) = v_ad (w_fd w3 _ _); rw [s4.2]
  have ar_5_9_5 : w_ar w5 (n_v vs 5) 9 = w_ar ws (n_v vs 5) 9 := by rw [← ar_5_9_4]; show v_ad (w_fd w5 _ _) = v_ad (w_fd w4 _ _); rw [s5.2]
  have cr_5_9 := fdq_112 hD hth r5
  have ar_6_9_1 : w_ar w1 (n_v vs 6) 9 = w_ar ws (n_v vs 6) 9 := by show v_ad (w_fd w1 _ _) = v_ad (w_fd ws _ _); rw [s1.2, if_neg (fun e => absurd e.2 (by decide))]
  have ar_6_9_2 : w_ar w2 (n_v vs 6) 9 = w_ar ws (n_v vs 6) 9 := by rw [← ar_6_9_1]; show v_ad (w_fd w2 _ _) = v_ad (w_fd w1 _ _); rw [s2.2]
  have ar_6_9_3 : w_ar w3 (n_v vs 6) 9 = w_ar ws (n_v vs 6) 9 := by rw [← ar_6_9_2]; show v_ad (w_fd w3 _ _) = v_ad (w_fd w2 _ _); rw [s3.2]
  have ar_6_9_4 : w_ar w4 (n_v vs 6) 9 = w_ar ws (n_v vs 6) 9 := by rw [← ar_6_9_3]; show v_ad (w_fd w4 _ _) = v_ad (w_fd w3 _ _); rw [s4.2]
  have ar_6_9_5 : w_ar w5 (n_v vs 6) 9 = w_ar ws (n_v vs 6) 9 := by rw [← ar_6_9_4]; show v_ad (w_fd w5 _ _) = v_ad (w_fd w4 _ _); rw [s5.2]
  have cr_6_9 := fdq_76 hD hth r6
  have ad_13 : v_ad (n_v vs 13) = w_ar ws (n_v vs 0) 5 := congrArg v_ad f1
  have ad_12 : v_ad (n_v vs 12) = w_ar ws (n_v vs 0) 4 := congrArg v_ad f2
  have ad_11 : v_ad (n_v vs 11) = w_ar ws (n_v vs 0) 3 := congrArg v_ad f3
  have ad_10 : v_ad (n_v vs 10) = w_ar ws (n_v vs 0) 2 := congrArg v_ad f4
  have g0 : v_iv (n_v vs 15) = w_fi ws (n_v vs 0) 1 := congrArg v_iv f0
  have g9 : v_iv (n_v vs 8) = w_fi w1 (n_v vs 0) 1 := congrArg v_iv f9
  simp only [ar_5_7_1, ar_5_8_1, ar_5_9_1, ar_6_9_1, ar_5_7_2, ar_5_8_2, ar_5_9_2, ar_6_9_2, ar_5_7_3, ar_5_8_3, ar_5_9_3, ar_6_9_3, ar_5_7_4, ar_5_8_4, ar_5_9_4, ar_6_9_4, ar_0_2_5, ar_0_3_5, ar_0_4_5, ar_0_5_5, ar_5_7_5, ar_5_8_5, ar_5_9_5, ar_6_9_5] at f10 f13 f16 f19 f23 f24
  have fe_0_1_1 : w_fi ws (n_v vs 0) 1 = v_iv (n_v vs 15) := by show v_iv (w_fd _ _ _) = _; rw [s1.2, if_pos ⟨rfl, rfl⟩]
  have fe_0_1_2 : w_fi w1 (n_v vs 0) 1 = w_fi w2 (n_v vs 0) 1 := congrArg v_iv (s2.2 _ _)
  have fe_0_1_3 : w_fi w2 (n_v vs 0) 1 = w_fi w3 (n_v vs 0) 1 := congrArg v_iv (s3.2 _ _)
  have fe_0_1_4 : w_fi w3 (n_v vs 0) 1 = w_fi w4 (n_v vs 0) 1 := congrArg v_iv (s4.2 _ _)
  have fe_0_1_5 : w_fi w4 (n_v vs 0) 1 = w_fi w5 (n_v vs 0) 1 := congrArg v_iv (s5.2 _ _)
  have hE_0_2_1 : ∀ j : Int, w_ei ws (w_ar ws (n_v vs 0) 2) j = w_ei w1 (w_ar ws (n_v vs 0) 2) j := fun j => s1.1 _ _
  have hE_0_2_2 : ∀ j : Int, w_ei w1 (w_ar ws (n_v vs 0) 2) j = w_ei w2 (w_ar ws (n_v vs 0) 2) j := el_kp s2.1 r13 cr_0_2 (by decide)
  have hE_0_2_3 : ∀ j : Int, w_ei w2 (w_ar ws (n_v vs 0) 2) j = w_ei w3 (w_ar ws (n_v vs 0) 2) j := el_kp s3.1 r12 cr_0_2 (by decide)
  have hE_0_2_4 : ∀ j : Int, w_ei w3 (w_ar ws (n_v vs 0) 2) j = w_ei w4 (w_ar ws (n_v vs 0) 2) j := el_kp s4.1 r11 cr_0_2 (by decide)
  have hE_0_2_5 : ∀ j : Int, 0 ≤ j → (j = v_iv (n_v vs 8) → w_ei w4 (w_ar ws (n_v vs 0) 2) j = v_iv (n_v vs 1)) ∧ (j ≠ v_iv (n_v vs 8) → w_ei w4 (w_ar ws (n_v vs 0) 2) j = w_ei w5 (w_ar ws (n_v vs 0) 2) j) := fun j hj => ⟨fun h => by unfold w_ei; rw [s5.1, if_pos ⟨ad_10.symm, by rw [h]⟩], fun h => by unfold w_ei; rw [s5.1, if_neg (fun e => h (by have := e.2; omega))]⟩
  have hK_0_2 := elq_53 hD hth cr_0_2
  have hE_0_3_1 : ∀ j : Int, w_ei ws (w_ar ws (n_v vs 0) 3) j = w_ei w1 (w_ar ws (n_v vs 0) 3) j := fun j => s1.1 _ _
  have hE_0_3_2 : ∀ j : Int, w_ei w1 (w_ar ws (n_v vs 0) 3) j = w_ei w2 (w_ar ws (n_v vs 0) 3) j := el_kp s2.1 r13 cr_0_3 (by decide)
  have hE_0_3_3 : ∀ j : Int, w_ei w2 (w_ar ws (n_v vs 0) 3) j = w_ei w3 (w_ar ws (n_v vs 0) 3) j := el_kp s3.1 r12 cr_0_3 (by decide)
  have hE_0_3_4 : ∀ j : Int, 0 ≤ j → (j = v_iv (n_v vs 8) → w_ei w3 (w_ar ws (n_v vs 0) 3) j = v_iv (n_v vs 2)) ∧ (j ≠ v_iv (n_v vs 8) → w_ei w3 (w_ar ws (n_v vs 0) 3) j = w_ei w4 (w_ar ws (n_v vs 0) 3) j) := fun j hj => ⟨fun h => by unfold w_ei; rw [s4.1, if_pos ⟨ad_11.symm, by rw [h]⟩], fun h => by unfold w_ei; rw [s4.1, if_neg (fun e => h (by have := e.2; omega))]⟩
  have hE_0_3_5 : ∀ j : Int, w_ei w4 (w_ar ws (n_v vs 0) 3) j = w_ei w5 (w_ar ws (n_v vs 0) 3) j := el_kp s5.1 r10 cr_0_3 (by decide)
  have hK_0_3 := elq_54 hD hth cr_0_3
  have hE_0_4_1 : ∀ j : Int, w_ei ws (w_ar ws (n_v vs 0) 4) j = w_ei w1 (w_ar ws (n_v vs 0) 4) j := fun j => s1.1 _ _
  have hE_0_4_2 : ∀ j : Int, w_ei w1 (w_ar ws (n_v vs 0) 4) j = w_ei w2 (w_ar ws (n_v vs 0) 4) j := el_kp s2.1 r13 cr_0_4 (by decide)
  have hE_0_4_3 : ∀ j : Int, 0 ≤ j → (j = v_iv (n_v vs 8) → w_ei w2 (w_ar ws (n_v vs 0) 4) j = v_iv (n_v vs 3)) ∧ (j ≠ v_iv (n_v vs 8) → w_ei w2 (w_ar ws (n_v vs 0) 4) j = w_ei w3 (w_ar ws (n_v vs 0) 4) j) := fun j hj => ⟨fun h => by unfold w_ei; rw [s3.1, if_pos ⟨ad_12.symm, by rw [h]⟩], fun h => by unfold w_ei; rw [s3.1, if_neg (fun e => h (by have := e.2; omega))]⟩
  have hE_0_4_4 : ∀ j : Int, w_ei w3 (w_ar ws (n_v vs 0) 4) j = w_ei w4 (w_ar ws (n_v vs 0) 4) j := el_kp s4.1 r11 cr_0_4 (by decide)
  have hE_0_4_5 : ∀ j : Int, w_ei w4 (w_ar ws (n_v vs 0) 4) j = w_ei w5 (w_ar ws (n_v vs 0) 4) j := el_kp s5.1 r10 cr_0_4 (by decide)
  have hK_0_4 := elq_55 hD hth cr_0_4
  have hE_0_5_1 : ∀ j : Int, w_ei ws (w_ar ws (n_v vs 0) 5) j = w_ei w1 (w_ar ws (n_v vs 0) 5) j := fun j => s1.1 _ _
  have hE_0_5_2 : ∀ j : Int, 0 ≤ j → (j = v_iv (n_v vs 8) → w_ei w1 (w_ar ws (n_v vs 0) 5) j = v_iv (n_v vs 4)) ∧ (j ≠ v_iv (n_v vs 8) → w_ei w1 (w_ar ws (n_v vs 0) 5) j = w_ei w2 (w_ar ws (n_v vs 0) 5) j) := fun j hj => ⟨fun h => by unfold w_ei; rw [s2.1, if_pos ⟨ad_13.symm, by rw [h]⟩], fun h => by unfold w_ei; rw [s2.1, if_neg (fun e => h (by have := e.2; omega))]⟩
  have hE_0_5_3 : ∀ j : Int, w_ei w2 (w_ar ws (n_v vs 0) 5) j = w_ei w3 (w_ar ws (n_v vs 0) 5) j := el_kp s3.1 r12 cr_0_5 (by decide)
  have hE_0_5_4 : ∀ j : Int, w_ei w3 (w_ar ws (n_v vs 0) 5) j = w_ei w4 (w_ar ws (n_v vs 0) 5) j := el_kp s4.1 r11 cr_0_5 (by decide)
  have hE_0_5_5 : ∀ j : Int, w_ei w4 (w_ar ws (n_v vs 0) 5) j = w_ei w5 (w_ar ws (n_v vs 0) 5) j := el_kp s5.1 r10 cr_0_5 (by decide)
  have hK_0_5 := elq_56 hD hth cr_0_5
  have hE_5_7_1 : ∀ j : Int, w_ei ws (w_ar ws (n_v vs 5) 7) j = w_ei w1 (w_ar ws (n_v vs 5) 7) j := fun j => s1.1 _ _
  have hE_5_7_2 : ∀ j : Int, w_ei w1 (w_ar ws (n_v vs 5) 7) j = w_ei w2 (w_ar ws (n_v vs 5) 7) j := el_kp s2.1 r13 cr_5_7 (by decide)
  have hE_5_7_3 : ∀ j : Int, w_ei w2 (w_ar ws (n_v vs 5) 7) j = w_ei w3 (w_ar ws (n_v vs 5) 7) j := el_kp s3.1 r12 cr_5_7 (by decide)
  have hE_5_7_4 : ∀ j : Int, w_ei w3 (w_ar ws (n_v vs 5) 7) j = w_ei w4 (w_ar ws (n_v vs 5) 7) j := el_kp s4.1 r11 cr_5_7 (by decide)
  have hE_5_7_5 : ∀ j : Int, w_ei w4 (w_ar ws (n_v vs 5) 7) j = w_ei w5 (w_ar ws (n_v vs 5) 7) j := el_kp s5.1 r10 cr_5_7 (by decide)
  have hK_5_7 := elq_11 hD hth cr_5_7
  have hE_5_8_1 : ∀ j : Int, w_ei ws (w_ar ws (n_v vs 5) 8) j = w_ei w1 (w_ar ws (n_v vs 5) 8) j := fun j => s1.1 _ _
  have hE_5_8_2 : ∀ j : Int, w_ei w1 (w_ar ws (n_v vs 5) 8) j = w_ei w2 (w_ar ws (n_v vs 5) 8) j := el_kp s2.1 r13 cr_5_8 (by decide)
  have hE_5_8_3 : ∀ j : Int, w_ei w2 (w_ar ws (n_v vs 5) 8) j = w_ei w3 (w_ar ws (n_v vs 5) 8) j := el_kp s3.1 r12 cr_5_8 (by decide)
  have hE_5_8_4 : ∀ j : Int, w_ei w3 (w_ar ws (n_v vs 5) 8) j = w_ei w4 (w_ar ws (n_v vs 5) 8) j := el_kp s4.1 r11 cr_5_8 (by decide)
  have hE_5_8_5 : ∀ j : Int, w_ei w4 (w_ar ws (n_v vs 5) 8) j = w_ei w5 (w_ar ws (n_v vs 5) 8) j := el_kp s5.1 r10 cr_5_8 (by decide)
  have hK_5_8 := elq_12 hD hth cr_5_8
  have hE_5_9_1 : ∀ j : Int, w_ei ws (w_ar ws (n_v vs 5) 9) j = w_ei w1 (w_ar ws (n_v vs 5) 9) j := fun j => s1.1 _ _
  have hE_5_9_2 : ∀ j : Int, w_ei w1 (w_ar ws (n_v vs 5) 9) j = w_ei w2 (w_ar ws (n_v vs 5) 9) j := el_kp s2.1 r13 cr_5_9 (by decide)
  have hE_5_9_3 : ∀ j : Int, w_ei w2 (w_ar ws (n_v vs 5) 9) j = w_ei w3 (w_ar ws (n_v vs 5) 9) j := el_kp s3.1 r12 cr_5_9 (by decide)
  have hE_5_9_4 : ∀ j : Int, w_ei w3 (w_ar ws (n_v vs 5) 9) j = w_ei w4 (w_ar ws (n_v vs 5) 9) j := el_kp s4.1 r11 cr_5_9 (by decide)
  have hE_5_9_5 : ∀ j : Int, w_ei w4 (w_ar ws (n_v vs 5) 9) j = w_ei w5 (w_ar ws (n_v vs 5) 9) j := el_kp s5.1 r10 cr_5_9 (by decide)
  have hK_5_9 := elq_57 hD hth cr_5_9
  have hE_6_9_1 : ∀ j : Int, w_ei ws (w_ar ws (n_v vs 6) 9) j = w_ei w1 (w_ar ws (n_v vs 6) 9) j := fun j => s1.1 _ _
  have hE_6_9_2 : ∀ j : Int, w_ei w1 (w_ar ws (n_v vs 6) 9) j = w_ei w2 (w_ar ws (n_v vs 6) 9) j := el_kp s2.1 r13 cr_6_9 (by decide)
  have hE_6_9_3 : ∀ j : Int, w_ei w2 (w_ar ws (n_v vs 6) 9) j = w_ei w3 (w_ar ws (n_v vs 6) 9) j := el_kp s3.1 r12 cr_6_9 (by decide)
  have hE_6_9_4 : ∀ j : Int, w_ei w3 (w_ar ws (n_v vs 6) 9) j = w_ei w4 (w_ar ws (n_v vs 6) 9) j := el_kp s4.1 r11 cr_6_9 (by decide)
  have hE_6_9_5 : ∀ j : Int, w_ei w4 (w_ar ws (n_v vs 6) 9) j = w_ei w5 (w_ar ws (n_v vs 6) 9) j := el_kp s5.1 r10 cr_6_9 (by decide)
  have hK_6_9 := elq_38 hD hth cr_6_9
  have kz_0_1 := fdq_113 hD hth r0
  have nf0 : fc_1 PRD (20, [0, 5, 6, 7], [60, 1, 8, 652, 1, 2, 3, 4, 5, 1007, 1008, 1009, 2009]) ws (vs) := ⟨nf_in hl rfl, sgq_477 (vc_St_addArc_at_gl_1_0 (v_iv (n_v vs 1)) (v_iv (n_v vs 2)) (v_iv (n_v vs 3)) (v_iv (n_v vs 4)) (v_iv (n_v vs 7)) (v_iv (n_v vs 8)) (v_iv (n_v vs 9)) (v_iv (n_v vs 14)) (v_iv (n_v vs 15)) (w_fi ws (n_v vs 0) 1) (w_ei ws (w_ar ws (n_v vs 5) 7)) (w_ei ws (w_ar ws (n_v vs 5) 8)) (w_ei ws (w_ar ws (n_v vs 5) 9)) (w_ei ws (w_ar ws (n_v vs 6) 9)) (w_fi w1 (n_v vs 0) 1) (w_ei w1 (w_ar ws (n_v vs 5) 7)) (w_ei w1 (w_ar ws (n_v vs 5) 8)) (w_ei w1 (w_ar ws (n_v vs 5) 9)) (w_ei w1 (w_ar ws (n_v vs 6) 9)) (w_ei w2 (w_ar ws (n_v vs 5) 7)) (w_ei w2 (w_ar ws (n_v vs 5) 8)) (w_ei w2 (w_ar ws (n_v vs 5) 9)) (w_ei w2 (w_ar ws (n_v vs 6) 9)) (w_ei w3 (w_ar ws (n_v vs 5) 7)) (w_ei w3 (w_ar ws (n_v vs 5) 8)) (w_ei w3 (w_ar ws (n_v vs 5) 9)) (w_ei w3 (w_ar ws (n_v vs 6) 9)) (w_ei w4 (w_ar ws (n_v vs 5) 7)) (w_ei w4 (w_ar ws (n_v vs 5) 8)) (w_ei w4 (w_ar ws (n_v vs 5) 9)) (w_ei w4 (w_ar ws (n_v vs 6) 9)) (w_ei w5 (w_ar ws (n_v vs 0) 2)) (w_ei w5 (w_ar ws (n_v vs 0) 3)) (w_ei w5 (w_ar ws (n_v vs 0) 4)) (w_ei w5 (w_ar ws (n_v vs 0) 5)) (w_ei w5 (w_ar ws (n_v vs 5) 7)) (w_ei w5 (w_ar ws (n_v vs 5) 8)) (w_ei w5 (w_ar ws (n_v vs 5) 9)) (w_ei w5 (w_ar ws (n_v vs 6) 9)) (w_fi w5 (n_v vs 0) 1) (w_fi w2 (n_v vs 0) 1) (w_fi w3 (n_v vs 0) 1) (w_fi w4 (n_v vs 0) 1) (w_ei ws (w_ar ws (n_v vs 0) 2)) (w_ei w1 (w_ar ws (n_v vs 0) 2)) (w_ei w2 (w_ar ws (n_v vs 0) 2)) (w_ei w3 (w_ar ws (n_v vs 0) 2)) (w_ei w4 (w_ar ws (n_v vs 0) 2)) (w_ei ws (w_ar ws (n_v vs 0) 3)) (w_ei w1 (w_ar ws (n_v vs 0) 3)) (w_ei w2 (w_ar ws (n_v vs 0) 3)) (w_ei w3 (w_ar ws (n_v vs 0) 3)) (w_ei w4 (w_ar ws (n_v vs 0) 3)) (w_ei ws (w_ar ws (n_v vs 0) 4)) (w_ei w1 (w_ar ws (n_v vs 0) 4)) (w_ei w2 (w_ar ws (n_v vs 0) 4)) (w_ei w3 (w_ar ws (n_v vs 0) 4)) (w_ei w4 (w_ar ws (n_v vs 0) 4)) (w_ei ws (w_ar ws (n_v vs 0) 5)) (w_ei w1 (w_ar ws (n_v vs 0) 5)) (w_ei w2 (w_ar ws (n_v vs 0) 5)) (w_ei w3 (w_ar ws (n_v vs 0) 5)) (w_ei w4 (w_ar ws (n_v vs 0) 5)) k1 k2 k3 k4 k7 k8 k9 k14 k15 d0 g0 (shm_475 f5) (shm_476 f6) (shm_12 f8) g9 f10 (shm_476 f11) f13 (shm_476 f14) f16 (shm_476 f17) f19 (shm_476 f20) (shm_6 f22) f23 f24 (shm_476 f25) fe_0_1_1 fe_0_1_2 fe_0_1_3 fe_0_1_4 fe_0_1_5 hE_0_2_1 hE_0_2_2 hE_0_2_3 hE_0_2_4 hE_0_2_5 hK_0_2 hE_0_3_1 hE_0_3_2 hE_0_3_3 hE_0_3_4 hE_0_3_5 hK_0_3 hE_0_4_1 hE_0_4_2 hE_0_4_3 hE_0_4_4 hE_0_4_5 hK_0_4 hE_0_5_1 hE_0_5_2 hE_0_5_3 hE_0_5_4 hE_0_5_5 hK_0_5 hE_5_7_1 hE_5_7_2 hE_5_7_3 hE_5_7_4 hE_5_7_5 hK_5_7 hE_5_8_1 hE_5_8_2 hE_5_8_3 hE_5_8_4 hE_5_8_5 hK_5_8 hE_5_9_1 hE_5_9_2 hE_5_9_3 hE_5_9_4 hE_5_9_5 hK_5_9 hE_6_9_1 hE_6_9_2 hE_6_9_3 hE_6_9_4 hE_6_9_5 hK_6_9 kz_0_1)⟩
  refine ⟨(fun _ h => (by cases h)), [], trivial, ?_, (fun _ h => (by cases h))⟩
  rw [List.append_nil]
  exact List.forall_mem_cons.mpr ⟨⟨show (20 : Nat) < 100 from by decide, nf0⟩, (fun _ h => (by cases h))⟩
def n_St_addArc_at_gl_an : List an_T := []
def t_St_addArc_at_gl_ct : ct_L := []
set_option maxRecDepth 100000 in
theorem c_St_addArc_at_gl {l : Launch} {D : va_G} {kA : Nat → ClassId} : ct_ok PRD l D kA GG y_St_addArc_at_gl z_St_addArc_at_gl e_St_addArc_at_gl := chk_all_ok (FT := [(15, 10, 1), (18, 10, 2), (22, 10, 3), (25, 10, 4), (28, 10, 5)]) (PT := [(15, 10, 1, .int)]) (CT := t_St_addArc_at_gl_ct) (KT := []) (NT := []) (AN := n_St_addArc_at_gl_an) (OT := [o_St_addArc_at_gl_0, o_St_addArc_at_gl_1]) 0 200 (List.forall_mem_cons.mpr ⟨oo_St_addArc_at_gl_0, List.forall_mem_cons.mpr ⟨oo_St_addArc_at_gl_1, List.forall_mem_nil _⟩⟩) (by decide +kernel) ⟨List.forall_mem_cons.mpr ⟨gf_St_15, List.forall_mem_cons.mpr ⟨gf_St_18, List.forall_mem_cons.mpr ⟨gf_St_22, List.forall_mem_cons.mpr ⟨gf_St_25, List.forall_mem_cons.mpr ⟨gf_St_28, List.forall_mem_nil _⟩⟩⟩⟩⟩, List.forall_mem_cons.mpr ⟨pf_St_15, List.forall_mem_nil _⟩, List.forall_mem_nil _, List.forall_mem_nil _, List.forall_mem_nil _, GG_pl⟩ (by decide +kernel)
set_option maxHeartbeats 4000000 in
theorem vc_St_begin_0_0 (x1 : Int) (x2 : Int) (arcs_0 : Int) (nodes_0 : Int) (nodes_1 : Int) (arcs_1 : Int) (arcs_2 : Int) (k1 : 0 ≤ x1 ∧ x1 ≤ 72) (k2 : 0 ≤ x2 ∧ x2 ≤ 0) (g0 : x2 = arcs_0) (g1 : x1 = nodes_0) (fe_0_0_1 : nodes_0 = nodes_1) (fe_0_1_1 : arcs_0 = x2) (fe_0_0_2 : nodes_1 = x1) (fe_0_1_2 : arcs_1 = arcs_2) (kz_0_0 : 0 ≤ nodes_0 ∧ nodes_0 ≤ 72) (kz_0_1 : 0 ≤ arcs_0 ∧ arcs_0 ≤ 384) : (arcs_0 = 0) ∧ (nodes_0 = x1) := by
  subst fe_0_0_1
  subst fe_0_1_2
  first
    | omega
  
def o_St_begin_0 : or_T := (10, 3, [(0, (2, 0, 0, [10])), (1, (0, 0, 72, [])), (2, (0, 0, 0, []))], [(9, [2, 0], [1]), (9, [1, 0], [0]), (101, [0, 2], [1]), (101, [0, 1], [0])], [], [], [(20, [0, 1], [50, 2, 0, 1, 0, 2, 7, 1, 3, 2, 0, 1, 0, 0, 1, 3, 2, 0, 0, 1, 1])], [], [])
theorem oo_St_begin_0 {kA : Nat → ClassId} : or_ok PRD kA GG o_St_begin_0 := by
  refine or_mk fun A ta ws vs hD hth hl => ?_
  intro t0 r0 t1 k1 t2 k2 f0 f1 ta1 w1 le1 s1 ta2 w2 le2 s2
  replace f0 := shm_215 f0
  replace f1 := shm_163 f1
  have s1 : (∀ b j, w_el ws b j = w_el w1 b j) ∧ ∀ b j, w_fd ws b j = if b = v_ad (n_v vs 0) ∧ j = 1 then n_v vs 2 else w_fd w1 b j := s1.2
  have s2 : (∀ b j, w_el w1 b j = w_el w2 b j) ∧ ∀ b j, w_fd w1 b j = if b = v_ad (n_v vs 0) ∧ j = 0 then n_v vs 1 else w_fd w2 b j := s2.2
  have g0 : v_iv (n_v vs 2) = w_fi ws (n_v vs 0) 1 := congrArg v_iv f0
  have g1 : v_iv (n_v vs 1) = w_fi ws (n_v vs 0) 0 := congrArg v_iv f1
  have fe_0_0_1 : w_fi ws (n_v vs 0) 0 = w_fi w1 (n_v vs 0) 0 := by show v_iv (w_fd _ _ _) = v_iv (w_fd _ _ _); rw [s1.2, if_neg (fun e => absurd e.2 (by decide))]
  have fe_0_1_1 : w_fi ws (n_v vs 0) 1 = v_iv (n_v vs 2) := by show v_iv (w_fd _ _ _) = _; rw [s1.2, if_pos ⟨rfl, rfl⟩]
  have fe_0_0_2 : w_fi w1 (n_v vs 0) 0 = v_iv (n_v vs 1) := by show v_iv (w_fd _ _ _) = _; rw [s2.2, if_pos ⟨rfl, rfl⟩]
  have fe_0_1_2 : w_fi w1 (n_v vs 0) 1 = w_fi w2 (n_v vs 0) 1 := by show v_iv (w_fd _ _ _) = v_iv (w_fd _ _ _); rw [s2.2, if_neg (fun e => absurd e.2 (by decide))]
  have kz_0_0 := fdq_114 hD hth r0
  have kz_0_1 := fdq_113 hD hth r0
  have nf0 : fc_1 PRD (20, [0, 1], [50, 2, 0, 1, 0, 2, 7, 1, 3, 2, 0, 1, 0, 0, 1, 3, 2, 0, 0, 1, 1]) ws (vs) := ⟨nf_in hl rfl, sgq_478 (vc_St_begin_0_0 (v_iv (n_v vs 1)) (v_iv (n_v vs 2)) (w_fi ws (n_v vs 0) 1) (w_fi ws (n_v vs 0) 0) (w_fi w1 (n_v vs 0) 0) (w_fi w1 (n_v vs 0) 1) (w_fi w2 (n_v vs 0) 1) k1 k2 g0 g1 fe_0_0_1 fe_0_1_1 fe_0_0_2 fe_0_1_2 kz_0_0 kz_0_1)⟩
  refine ⟨(fun _ h => (by cases h)), [], trivial, ?_, (fun _ h => (by cases h))⟩
  rw [List.append_nil]
  exact List.forall_mem_cons.mpr ⟨⟨show (20 : Nat) < 100 from by decide, nf0⟩, (fun _ h => (by cases h))⟩
def n_St_begin_an : List an_T := []
def t_St_begin_ct : ct_L := []
set_option maxRecDepth 100000 in
theorem c_St_begin {l : Launch} {D : va_G} {kA : Nat → ClassId} : ct_ok PRD l D kA GG y_St_begin z_St_begin e_St_begin := chk_all_ok (FT := []) (PT := [(9, 10, 0, .int), (15, 10, 1, .int)]) (CT := t_St_begin_ct) (KT := []) (NT := []) (AN := n_St_begin_an) (OT := [o_St_begin_0]) 0 200 (List.forall_mem_cons.mpr ⟨oo_St_begin_0, List.forall_mem_nil _⟩) (by decide +kernel) ⟨List.forall_mem_nil _, List.forall_mem_cons.mpr ⟨pf_St_9, List.forall_mem_cons.mpr ⟨pf_St_15, List.forall_mem_nil _⟩⟩, List.forall_mem_nil _, List.forall_mem_nil _, List.forall_mem_nil _, GG_pl⟩ (by decide +kernel)

set_option maxHeartbeats 4000000 in
theorem vc_St_raise_at_gl_0_0 (x1 : Int) (x2 : Int) (x3 : Int) (x4 : Int) (from_0 : Int → Int) (to_0 : Int → Int) (room_0 : Int → Int) (gain_0 : Int → Int) (place_0 : Int → Int) (by_0 : Int → Int) (nodes_0 : Int) (arcs_0 : Int) (k1 : 0 ≤ x1 ∧ x1 ≤ 288) (k2 : 0 ≤ x2 ∧ x2 ≤ 9999) (k3 : 0 ≤ x3 ∧ x3 ≤ 0) (k4 : 0 ≤ x4 ∧ x4 ≤ 0) (f0 : FRI (nodes_0) (arcs_0) (from_0) (to_0) (room_0) (gain_0) (place_0) (by_0) (x1)) (f1 : PBT (nodes_0) (place_0) (x2) (x1)) (hK_0_2 : ∀ j : Int, 0 ≤ j → j < 384 → 0 ≤ from_0 j ∧ from_0 j ≤ 71) (hK_0_3 : ∀ j : Int, 0 ≤ j → j < 384 → 0 ≤ to_0 j ∧ to_0 j ≤ 71) (hK_0_4 : ∀ j : Int, 0 ≤ j → j < 384 → (-2147483648) ≤ room_0 j ∧ room_0 j ≤ 2147483647) (hK_0_5 : ∀ j : Int, 0 ≤ j → j < 384 → (-20) ≤ gain_0 j ∧ gain_0 j ≤ 20) (hK_0_6 : ∀ j : Int, 0 ≤ j → j < 72 → (-2147483648) ≤ place_0 j ∧ place_0 j ≤ 2147483647) (hK_0_7 : ∀ j : Int, 0 ≤ j → j < 72 → (-1) ≤ by_0 j ∧ by_0 j ≤ 383) (kz_0_0 : 0 ≤ nodes_0 ∧ nodes_0 ≤ 72) (kz_0_1 : 0 ≤ arcs_0 ∧ arcs_0 ≤ 384) : RAI (nodes_0) (arcs_0) (from_0) (to_0) (room_0) (gain_0) (place_0) (by_0) (x1) (x4) (x3) := by
  first
    | exact rai_start ‹FRI _ _ _ _ _ _ _ _ _› (by omega) (by omega)
    | (skip; exact rai_skip ‹RAI _ _ _ _ _ _ _ _ _ _ _› (by first | (left; omega) | (right; omega)) (by omega))
    | (skip; exact rai_set ‹RAI _ _ _ _ _ _ _ _ _ _ _› (by assumption) rfl (by omega) (by assumption) rfl rfl (by omega) (by omega) (by omega) (by omega) (by omega))
  
set_option maxHeartbeats 4000000 in
theorem vc_St_raise_at_gl_0_1 (x1 : Int) (x2 : Int) (x3 : Int) (x4 : Int) (from_0 : Int → Int) (to_0 : Int → Int) (room_0 : Int → Int) (gain_0 : Int → Int) (place_0 : Int → Int) (by_0 : Int → Int) (nodes_0 : Int) (arcs_0 : Int) (k1 : 0 ≤ x1 ∧ x1 ≤ 288) (k2 : 0 ≤ x2 ∧ x2 ≤ 9999) (k3 : 0 ≤ x3 ∧ x3 ≤ 0) (k4 : 0 ≤ x4 ∧ x4 ≤ 0) (f0 : FRI (nodes_0) (arcs_0) (from_0) (to_0) (room_0) (gain_0) (place_0) (by_0) (x1)) (f1 : PBT (nodes_0) (place_0) (x2) (x1)) (hK_0_2 : ∀ j : Int, 0 ≤ j → j < 384 → 0 ≤ from_0 j ∧ from_0 j ≤ 71) (hK_0_3 : ∀ j : Int, 0 ≤ j → j < 384 → 0 ≤ to_0 j ∧ to_0 j ≤ 71) (hK_0_4 : ∀ j : Int, 0 ≤ j → j < 384 → (-2147483648) ≤ room_0 j ∧ room_0 j ≤ 2147483647) (hK_0_5 : ∀ j : Int, 0 ≤ j → j < 384 → (-20) ≤ gain_0 j ∧ gain_0 j ≤ 20) (hK_0_6 : ∀ j : Int, 0 ≤ j → j < 72 → (-2147483648) ≤ place_0 j ∧ place_0 j ≤ 2147483647) (hK_0_7 : ∀ j : Int, 0 ≤ j → j < 72 → (-1) ≤ by_0 j ∧ by_0 j ≤ 383) (kz_0_0 : 0 ≤ nodes_0 ∧ nodes_0 ≤ 72) (kz_0_1 : 0 ≤ arcs_0 ∧ arcs_0 ≤ 384) : PBW (nodes_0) (place_0) (x2) (x1) (x4) := by
  first
    | exact pbw_up ‹PBT _ _ _ _› (by omega)
    | exact pbw_up ‹PBW _ _ _ _ _› (by omega)
    | (skip; exact pbw_set ‹PBW _ _ _ _ _› (‹RAI _ _ _ _ _ _ _ _ _ _ _›).1 (by assumption) rfl (by omega) (by have := (‹RAI _ _ _ _ _ _ _ _ _ _ _›).2.2.1; omega) (by omega) (by omega) (by omega))
  
set_option maxHeartbeats 4000000 in
theorem vc_St_raise_at_gl_0_2 (x1 : Int) (x2 : Int) (x3 : Int) (x4 : Int) (from_0 : Int → Int) (to_0 : Int → Int) (room_0 : Int → Int) (gain_0 : Int → Int) (place_0 : Int → Int) (by_0 : Int → Int) (nodes_0 : Int) (arcs_0 : Int) (k1 : 0 ≤ x1 ∧ x1 ≤ 288) (k2 : 0 ≤ x2 ∧ x2 ≤ 9999) (k3 : 0 ≤ x3 ∧ x3 ≤ 0) (k4 : 0 ≤ x4 ∧ x4 ≤ 0) (f0 : FRI (nodes_0) (arcs_0) (from_0) (to_0) (room_0) (gain_0) (place_0) (by_0) (x1)) (f1 : PBT (nodes_0) (place_0) (x2) (x1)) (hK_0_2 : ∀ j : Int, 0 ≤ j → j < 384 → 0 ≤ from_0 j ∧ from_0 j ≤ 71) (hK_0_3 : ∀ j : Int, 0 ≤ j → j < 384 → 0 ≤ to_0 j ∧ to_0 j ≤ 71) (hK_0_4 : ∀ j : Int, 0 ≤ j → j < 384 → (-2147483648) ≤ room_0 j ∧ room_0 j ≤ 2147483647) (hK_0_5 : ∀ j : Int, 0 ≤ j → j < 384 → (-20) ≤ gain_0 j ∧ gain_0 j ≤ 20) (hK_0_6 : ∀ j : Int, 0 ≤ j → j < 72 → (-2147483648) ≤ place_0 j ∧ place_0 j ≤ 2147483647) (hK_0_7 : ∀ j : Int, 0 ≤ j → j < 72 → (-1) ≤ by_0 j ∧ by_0 j ≤ 383) (kz_0_0 : 0 ≤ nodes_0 ∧ nodes_0 ≤ 72) (kz_0_1 : 0 ≤ arcs_0 ∧ arcs_0 ≤ 384) : x4 ≤ arcs_0 := by
  first
    | (have a := (‹FRI _ _ _ _ _ _ _ _ _›).1.2.2.1; omega)
    | omega
def o_St_raise_at_gl_0 : or_T := (4, 5, [(0, (2, 0, 0, [10])), (1, (0, 0, 288, [])), (2, (0, 0, 9999, [])), (3, (0, 0, 0, [])), (4, (0, 0, 0, []))], [(20, [0, 1], [60, 2, 6, 516, 0, 1, 2, 3, 4, 5, 6, 7]), (20, [0, 2, 1], [60, 1, 1, 520, 0, 6])], [], [], [(20, [0, 1, 4, 3], [60, 2, 6, 517, 0, 1, 2, 3, 4, 5, 6, 7]), (20, [0, 2, 1, 4], [60, 1, 1, 519, 0, 6]), (20, [4, 0], [50, 1, 0, 1001, 0, 2, 1, 0, 2, 1, 1]), (24, [0, 0], [])], [], [])
theorem oo_St_raise_at_gl_0 {kA : Nat → ClassId} : or_ok PRD kA GG o_St_raise_at_gl_0 := by
  refine or_mk fun A ta ws vs hD hth hl => ?_
  intro t0 r0 t1 k1 t2 k2 t3 k3 t4 k4 f0 f1
  have cr_0_2 := fdq_108 hD hth r0
  have cr_0_3 := fdq_109 hD hth r0
  have cr_0_4 := fdq_110 hD hth r0
  have cr_0_5 := fdq_111 hD hth r0
  have cr_0_6 := fdq_115 hD hth r0
  have cr_0_7 := fdq_116 hD hth r0
  have hK_0_2 := elq_53 hD hth cr_0_2
  have hK_0_3 := elq_54 hD hth cr_0_3
  have hK_0_4 := elq_55 hD hth cr_0_4
  have hK_0_5 := elq_56 hD hth cr_0_5
  have hK_0_6 := elq_58 hD hth cr_0_6
  have hK_0_7 := elq_59 hD hth cr_0_7
  have kz_0_0 := fdq_114 hD hth r0
  have kz_0_1 := fdq_113 hD hth r0
  have nf0 : fc_1 PRD (20, [0, 1, 4, 3], [60, 2, 6, 517, 0, 1, 2, 3, 4, 5, 6, 7]) ws (vs) := ⟨nf_in hl rfl, sgq_481 (vc_St_raise_at_gl_0_0 (v_iv (n_v vs 1)) (v_iv (n_v vs 2)) (v_iv (n_v vs 3)) (v_iv (n_v vs 4)) (w_ei ws (w_ar ws (n_v vs 0) 2)) (w_ei ws (w_ar ws (n_v vs 0) 3)) (w_ei ws (w_ar ws (n_v vs 0) 4)) (w_ei ws (w_ar ws (n_v vs 0) 5)) (w_ei ws (w_ar ws (n_v vs 0) 6)) (w_ei ws (w_ar ws (n_v vs 0) 7)) (w_fi ws (n_v vs 0) 0) (w_fi ws (n_v vs 0) 1) k1 k2 k3 k4 (shm_479 f0) (shm_480 f1) hK_0_2 hK_0_3 hK_0_4 hK_0_5 hK_0_6 hK_0_7 kz_0_0 kz_0_1)⟩
  have nf1 : fc_1 PRD (20, [0, 2, 1, 4], [60, 1, 1, 519, 0, 6]) ws (vs) := ⟨nf_in hl rfl, sgq_482 (vc_St_raise_at_gl_0_1 (v_iv (n_v vs 1)) (v_iv (n_v vs 2)) (v_iv (n_v vs 3)) (v_iv (n_v vs 4)) (w_ei ws (w_ar ws (n_v vs 0) 2)) (w_ei ws (w_ar ws (n_v vs 0) 3)) (w_ei ws (w_ar ws (n_v vs 0) 4)) (w_ei ws (w_ar ws (n_v vs 0) 5)) (w_ei ws (w_ar ws (n_v vs 0) 6)) (w_ei ws (w_ar ws (n_v vs 0) 7)) (w_fi ws (n_v vs 0) 0) (w_fi ws (n_v vs 0) 1) k1 k2 k3 k4 (shm_479 f0) (shm_480 f1) hK_0_2 hK_0_3 hK_0_4 hK_0_5 hK_0_6 hK_0_7 kz_0_0 kz_0_1)⟩
  have nf2 : fc_1 PRD (20, [4, 0], [50, 1, 0, 1001, 0, 2, 1, 0, 2, 1, 1]) ws (vs) := ⟨nf_in hl rfl, sgq_483 (vc_St_raise_at_gl_0_2 (v_iv (n_v vs 1)) (v_iv (n_v vs 2)) (v_iv (n_v vs 3)) (v_iv (n_v vs 4)) (w_ei ws (w_ar ws (n_v vs 0) 2)) (w_ei ws (w_ar ws (n_v vs 0) 3)) (w_ei ws (w_ar ws (n_v vs 0) 4)) (w_ei ws (w_ar ws (n_v vs 0) 5)) (w_ei ws (w_ar ws (n_v vs 0) 6)) (w_ei ws (w_ar ws (n_v vs 0) 7)) (w_fi ws (n_v vs 0) 0) (w_fi ws (n_v vs 0) 1) k1 k2 k3 k4 (shm_479 f0) (shm_480 f1) hK_0_2 hK_0_3 hK_0_4 hK_0_5 hK_0_6 hK_0_7 kz_0_0 kz_0_1)⟩
  have nf3 : fc_1 PRD (24, [0, 0], []) ws (vs) := by
    refine ⟨nf_in hl rfl, sgq_1 ?_⟩
    · show n_v vs 0 = n_v vs 0
      first | rfl | simp only [true_and]
  refine ⟨(fun _ h => (by cases h)), [], trivial, ?_, (fun _ h => (by cases h))⟩
  rw [List.append_nil]
  exact List.forall_mem_cons.mpr ⟨⟨show (20 : Nat) < 100 from by decide, nf0⟩, List.forall_mem_cons.mpr ⟨⟨show (20 : Nat) < 100 from by decide, nf1⟩, List.forall_mem_cons.mpr ⟨⟨show (20 : Nat) < 100 from by decide, nf2⟩, List.forall_mem_cons.mpr ⟨⟨show (24 : Nat) < 100 from by decide, nf3⟩, (fun _ h => (by cases h))⟩⟩⟩⟩
set_option maxHeartbeats 4000000 in
theorem vc_St_raise_at_gl_1_0 (x1 : Int) (x2 : Int) (x4 : Int) (x5 : Int) (x6 : Int) (arcs_0 : Int) (from_0 : Int → Int) (to_0 : Int → Int) (room_0 : Int → Int) (gain_0 : Int → Int) (place_0 : Int → Int) (by_0 : Int → Int) (nodes_0 : Int) (k1 : 0 ≤ x1 ∧ x1 ≤ 288) (k2 : 0 ≤ x2 ∧ x2 ≤ 9999) (k4 : 0 ≤ x4 ∧ x4 ≤ 1) (k5 : 0 ≤ x5 ∧ x5 ≤ 384) (k6 : 0 ≤ x6 ∧ x6 ≤ 384) (d0 : x6 + 0 ≤ x5 ∧ x5 ≤ x6 + 4294967296) (d1 : x5 + (-4294967296) ≤ x4 ∧ x4 ≤ x5 + 0) (f0 : x6 ≤ x5) (g1 : x6 = arcs_0) (f2 : RAI (nodes_0) (arcs_0) (from_0) (to_0) (room_0) (gain_0) (place_0) (by_0) (x1) (x5) (x4)) (f3 : PBW (nodes_0) (place_0) (x2) (x1) (x5)) (f4 : x5 ≤ arcs_0) (hK_0_2 : ∀ j : Int, 0 ≤ j → j < 384 → 0 ≤ from_0 j ∧ from_0 j ≤ 71) (hK_0_3 : ∀ j : Int, 0 ≤ j → j < 384 → 0 ≤ to_0 j ∧ to_0 j ≤ 71) (hK_0_4 : ∀ j : Int, 0 ≤ j → j < 384 → (-2147483648) ≤ room_0 j ∧ room_0 j ≤ 2147483647) (hK_0_5 : ∀ j : Int, 0 ≤ j → j < 384 → (-20) ≤ gain_0 j ∧ gain_0 j ≤ 20) (hK_0_6 : ∀ j : Int, 0 ≤ j → j < 72 → (-2147483648) ≤ place_0 j ∧ place_0 j ≤ 2147483647) (hK_0_7 : ∀ j : Int, 0 ≤ j → j < 72 → (-1) ≤ by_0 j ∧ by_0 j ≤ 383) (kz_0_0 : 0 ≤ nodes_0 ∧ nodes_0 ≤ 72) (kz_0_1 : 0 ≤ arcs_0 ∧ arcs_0 ≤ 384) : RAP (nodes_0) (arcs_0) (from_0) (to_0) (room_0) (gain_0) (place_0) (by_0) (x1) (x4) := by
  exact rai_end ‹RAI _ _ _ _ _ _ _ _ _ _ _› (by omega) (by omega) (by omega)
set_option maxHeartbeats 4000000 in
theorem vc_St_raise_at_gl_1_1 (x1 : Int) (x2 : Int) (x4 : Int) (x5 : Int) (x6 : Int) (arcs_0 : Int) (from_0 : Int → Int) (to_0 : Int → Int) (room_0 : Int → Int) (gain_0 : Int → Int) (place_0 : Int → Int) (by_0 : Int → Int) (nodes_0 : Int) (k1 : 0 ≤ x1 ∧ x1 ≤ 288) (k2 : 0 ≤ x2 ∧ x2 ≤ 9999) (k4 : 0 ≤ x4 ∧ x4 ≤ 1) (k5 : 0 ≤ x5 ∧ x5 ≤ 384) (k6 : 0 ≤ x6 ∧ x6 ≤ 384) (d0 : x6 + 0 ≤ x5 ∧ x5 ≤ x6 + 4294967296) (d1 : x5 + (-4294967296) ≤ x4 ∧ x4 ≤ x5 + 0) (f0 : x6 ≤ x5) (g1 : x6 = arcs_0) (f2 : RAI (nodes_0) (arcs_0) (from_0) (to_0) (room_0) (gain_0) (place_0) (by_0) (x1) (x5) (x4)) (f3 : PBW (nodes_0) (place_0) (x2) (x1) (x5)) (f4 : x5 ≤ arcs_0) (hK_0_2 : ∀ j : Int, 0 ≤ j → j < 384 → 0 ≤ from_0 j ∧ from_0 j ≤ 71) (hK_0_3 : ∀ j : Int, 0 ≤ j → j < 384 → 0 ≤ to_0 j ∧ to_0 j ≤ 71) (hK_0_4 : ∀ j : Int, 0 ≤ j → j < 384 → (-2147483648) ≤ room_0 j ∧ room_0 j ≤ 2147483647) (hK_0_5 : ∀ j : Int, 0 ≤ j → j < 384 → (-20) ≤ gain_0 j ∧ gain_0 j ≤ 20) (hK_0_6 : ∀ j : Int, 0 ≤ j → j < 72 → (-2147483648) ≤ place_0 j ∧ place_0 j ≤ 2147483647) (hK_0_7 : ∀ j : Int, 0 ≤ j → j < 72 → (-1) ≤ by_0 j ∧ by_0 j ≤ 383) (kz_0_0 : 0 ≤ nodes_0 ∧ nodes_0 ≤ 72) (kz_0_1 : 0 ≤ arcs_0 ∧ arcs_0 ≤ 384) : PBU (nodes_0) (place_0) (x2) (x1) := by
  exact pbw_round ‹PBW _ _ _ _ _› (by have := (‹RAI _ _ _ _ _ _ _ _ _ _ _›).1.2.2.2.1; omega) (by omega) (by omega)
def o_St_raise_at_gl_1 : or_T := (103, 7, [(0, (2, 0, 0, [10])), (1, (0, 0, 288, [])), (2, (0, 0, 9999, [])), (4, (0, 0, 1, [])), (5, (0, 0, 384, [])), (6, (0, 0, 384, []))], [(7, [5, 6], [3]), (9, [6, 3], [1]), (20, [3, 1, 5, 4], [60, 2, 6, 517, 0, 1, 2, 3, 4, 5, 6, 7]), (20, [3, 2, 1, 5], [60, 1, 1, 519, 0, 6]), (20, [5, 3], [50, 1, 0, 1001, 0, 2, 1, 0, 2, 1, 1]), (24, [0, 3], [])], [], [], [(20, [0, 1, 4], [60, 2, 6, 518, 0, 1, 2, 3, 4, 5, 6, 7]), (20, [0, 2, 1], [60, 1, 1, 521, 0, 6])], [], [(5, 6, 0, 4294967296), (4, 5, -4294967296, 0)])
theorem oo_St_raise_at_gl_1 {kA : Nat → ClassId} : or_ok PRD kA GG o_St_raise_at_gl_1 := by
  refine or_mk fun A ta ws vs hD hth hl => ?_
  intro t0 r0 t1 k1 t2 k2 t4 k4 t5 k5 t6 k6 d0 d1 f0 f1 f2 f3 f4 f5
  replace f1 := shm_215 f1
  replace f2 := shm_481 f2
  replace f3 := shm_482 f3
  replace f4 := shm_483 f4
  replace f5 := shm_5 f5
  have q3 : n_v vs 3 = n_v vs 0 := f5.symm
  simp only [q3] at f1 f2 f3 f4
  have cr_0_2 := fdq_108 hD hth r0
  have cr_0_3 := fdq_109 hD hth r0
  have cr_0_4 := fdq_110 hD hth r0
  have cr_0_5 := fdq_111 hD hth r0
  have cr_0_6 := fdq_115 hD hth r0
  have cr_0_7 := fdq_116 hD hth r0
  have g1 : v_iv (n_v vs 6) = w_fi ws (n_v vs 0) 1 := congrArg v_iv f1
  have hK_0_2 := elq_53 hD hth cr_0_2
  have hK_0_3 := elq_54 hD hth cr_0_3
  have hK_0_4 := elq_55 hD hth cr_0_4
  have hK_0_5 := elq_56 hD hth cr_0_5
  have hK_0_6 := elq_58 hD hth cr_0_6
  have hK_0_7 := elq_59 hD hth cr_0_7
  have kz_0_0 := fdq_114 hD hth r0
  have kz_0_1 := fdq_113 hD hth r0
  have nf0 : fc_1 PRD (20, [0, 1, 4], [60, 2, 6, 518, 0, 1, 2, 3, 4, 5, 6, 7]) ws (vs) := ⟨nf_in hl rfl, sgq_484 (vc_St_raise_at_gl_1_0 (v_iv (n_v vs 1)) (v_iv (n_v vs 2)) (v_iv (n_v vs 4)) (v_iv (n_v vs 5)) (v_iv (n_v vs 6)) (w_fi ws (n_v vs 0) 1) (w_ei ws (w_ar ws (n_v vs 0) 2)) (w_ei ws (w_ar ws (n_v vs 0) 3)) (w_ei ws (w_ar ws (n_v vs 0) 4)) (w_ei ws (w_ar ws (n_v vs 0) 5)) (w_ei ws (w_ar ws (n_v vs 0) 6)) (w_ei ws (w_ar ws (n_v vs 0) 7)) (w_fi ws (n_v vs 0) 0) k1 k2 k4 k5 k6 d0 d1 (shm_2 f0) g1 f2 f3 f4 hK_0_2 hK_0_3 hK_0_4 hK_0_5 hK_0_6 hK_0_7 kz_0_0 kz_0_1)⟩
  have nf1 : fc_1 PRD (20, [0, 2, 1], [60, 1, 1, 521, 0, 6]) ws (vs) := ⟨nf_in hl rfl, sgq_485 (vc_St_raise_at_gl_1_1 (v_iv (n_v vs 1)) (v_iv (n_v vs 2)) (v_iv (n_v vs 4)) (v_iv (n_v vs 5)) (v_iv (n_v vs 6)) (w_fi ws (n_v vs 0) 1) (w_ei ws (w_ar ws (n_v vs 0) 2)) (w_ei ws (w_ar ws (n_v vs 0) 3)) (w_ei ws (w_ar ws (n_v vs 0) 4)) (w_ei ws (w_ar ws (n_v vs 0) 5)) (w_ei ws (w_ar ws (n_v vs 0) 6)) (w_ei ws (w_ar ws (n_v vs 0) 7)) (w_fi ws (n_v vs 0) 0) k1 k2 k4 k5 k6 d0 d1 (shm_2 f0) g1 f2 f3 f4 hK_0_2 hK_0_3 hK_0_4 hK_0_5 hK_0_6 hK_0_7 kz_0_0 kz_0_1)⟩
  refine ⟨(fun _ h => (by cases h)), [], trivial, ?_, (fun _ h => (by cases h))⟩
  rw [List.append_nil]
  exact List.forall_mem_cons.mpr ⟨⟨show (20 : Nat) < 100 from by decide, nf0⟩, List.forall_mem_cons.mpr ⟨⟨show (20 : Nat) < 100 from by decide, nf1⟩, (fun _ h => (by cases h))⟩⟩
set_option maxHeartbeats 4000000 in
theorem vc_St_raise_at_gl_2_0 (x1 : Int) (x2 : Int) (x4 : Int) (x5 : Int) (x6 : Int) (x8 : Int) (x9 : Int) (room_0 : Int → Int) (arcs_0 : Int) (from_0 : Int → Int) (to_0 : Int → Int) (gain_0 : Int → Int) (place_0 : Int → Int) (by_0 : Int → Int) (nodes_0 : Int) (k1 : 0 ≤ x1 ∧ x1 ≤ 288) (k2 : 0 ≤ x2 ∧ x2 ≤ 9999) (k4 : 0 ≤ x4 ∧ x4 ≤ 1) (k5 : 0 ≤ x5 ∧ x5 ≤ 383) (k6 : 1 ≤ x6 ∧ x6 ≤ 384) (k8 : (-2147483648) ≤ x8 ∧ x8 ≤ 0) (k9 : 1 ≤ x9 ∧ x9 ≤ 384) (d0 : x5 + 1 ≤ x9 ∧ x9 ≤ x5 + 1) (d1 : x6 + (-4294967296) ≤ x9 ∧ x9 ≤ x6 + 0) (d2 : x6 + (-4294967296) ≤ x5 ∧ x5 ≤ x6 + (-1)) (d3 : x5 + (-4294967296) ≤ x4 ∧ x4 ≤ x5 + 0) (f0 : x9 = x5 + 1) (f1 : x8 ≤ 0) (h2 : x8 = room_0 (x5)) (f4 : x5 < x6) (g5 : x6 = arcs_0) (f6 : RAI (nodes_0) (arcs_0) (from_0) (to_0) (room_0) (gain_0) (place_0) (by_0) (x1) (x5) (x4)) (f7 : PBW (nodes_0) (place_0) (x2) (x1) (x5)) (f8 : x5 ≤ arcs_0) (hK_0_2 : ∀ j : Int, 0 ≤ j → j < 384 → 0 ≤ from_0 j ∧ from_0 j ≤ 71) (hK_0_3 : ∀ j : Int, 0 ≤ j → j < 384 → 0 ≤ to_0 j ∧ to_0 j ≤ 71) (hK_0_4 : ∀ j : Int, 0 ≤ j → j < 384 → (-2147483648) ≤ room_0 j ∧ room_0 j ≤ 2147483647) (hK_0_5 : ∀ j : Int, 0 ≤ j → j < 384 → (-20) ≤ gain_0 j ∧ gain_0 j ≤ 20) (hK_0_6 : ∀ j : Int, 0 ≤ j → j < 72 → (-2147483648) ≤ place_0 j ∧ place_0 j ≤ 2147483647) (hK_0_7 : ∀ j : Int, 0 ≤ j → j < 72 → (-1) ≤ by_0 j ∧ by_0 j ≤ 383) (kz_0_0 : 0 ≤ nodes_0 ∧ nodes_0 ≤ 72) (kz_0_1 : 0 ≤ arcs_0 ∧ arcs_0 ≤ 384) : RAI (nodes_0) (arcs_0) (from_0) (to_0) (room_0) (gain_0) (place_0) (by_0) (x1) (x9) (x4) := by
  first
    | exact rai_start ‹FRI _ _ _ _ _ _ _ _ _› (by omega) (by omega)
    | (skip; (first | subst h2 | skip); exact rai_skip ‹RAI _ _ _ _ _ _ _ _ _ _ _› (by first | (left; omega) | (right; omega)) (by omega))
    | (skip; (first | subst h2 | skip); exact rai_set ‹RAI _ _ _ _ _ _ _ _ _ _ _› (by assumption) rfl (by omega) (by assumption) rfl rfl (by omega) (by omega) (by omega) (by omega) (by omega))
  
set_option maxHeartbeats 4000000 in
theorem vc_St_raise_at_gl_2_1 (x1 : Int) (x2 : Int) (x4 : Int) (x5 : Int) (x6 : Int) (x8 : Int) (x9 : Int) (room_0 : Int → Int) (arcs_0 : Int) (from_0 : Int → Int) (to_0 : Int → Int) (gain_0 : Int → Int) (place_0 : Int → Int) (by_0 : Int → Int) (nodes_0 : Int) (k1 : 0 ≤ x1 ∧ x1 ≤ 288) (k2 : 0 ≤ x2 ∧ x2 ≤ 9999) (k4 : 0 ≤ x4 ∧ x4 ≤ 1) (k5 : 0 ≤ x5 ∧ x5 ≤ 383) (k6 : 1 ≤ x6 ∧ x6 ≤ 384) (k8 : (-2147483648) ≤ x8 ∧ x8 ≤ 0) (k9 : 1 ≤ x9 ∧ x9 ≤ 384) (d0 : x5 + 1 ≤ x9 ∧ x9 ≤ x5 + 1) (d1 : x6 + (-4294967296) ≤ x9 ∧ x9 ≤ x6 + 0) (d2 : x6 + (-4294967296) ≤ x5 ∧ x5 ≤ x6 + (-1)) (d3 : x5 + (-4294967296) ≤ x4 ∧ x4 ≤ x5 + 0) (f0 : x9 = x5 + 1) (f1 : x8 ≤ 0) (h2 : x8 = room_0 (x5)) (f4 : x5 < x6) (g5 : x6 = arcs_0) (f6 : RAI (nodes_0) (arcs_0) (from_0) (to_0) (room_0) (gain_0) (place_0) (by_0) (x1) (x5) (x4)) (f7 : PBW (nodes_0) (place_0) (x2) (x1) (x5)) (f8 : x5 ≤ arcs_0) (hK_0_2 : ∀ j : Int, 0 ≤ j → j < 384 → 0 ≤ from_0 j ∧ from_0 j ≤ 71) (hK_0_3 : ∀ j : Int, 0 ≤ j → j < 384 → 0 ≤ to_0 j ∧ to_0 j ≤ 71) (hK_0_4 : ∀ j : Int, 0 ≤ j → j < 384 → (-2147483648) ≤ room_0 j ∧ room_0 j ≤ 2147483647) (hK_0_5 : ∀ j : Int, 0 ≤ j → j < 384 → (-20) ≤ gain_0 j ∧ gain_0 j ≤ 20) (hK_0_6 : ∀ j : Int, 0 ≤ j → j < 72 → (-2147483648) ≤ place_0 j ∧ place_0 j ≤ 2147483647) (hK_0_7 : ∀ j : Int, 0 ≤ j → j < 72 → (-1) ≤ by_0 j ∧ by_0 j ≤ 383) (kz_0_0 : 0 ≤ nodes_0 ∧ nodes_0 ≤ 72) (kz_0_1 : 0 ≤ arcs_0 ∧ arcs_0 ≤ 384) : PBW (nodes_0) (place_0) (x2) (x1) (x9) := by
  first
    | exact pbw_up ‹PBT _ _ _ _› (by omega)
    | exact pbw_up ‹PBW _ _ _ _ _› (by omega)
    | (skip; (first | subst h2 | skip); exact pbw_set ‹PBW _ _ _ _ _› (‹RAI _ _ _ _ _ _ _ _ _ _ _›).1 (by assumption) rfl (by omega) (by have := (‹RAI _ _ _ _ _ _ _ _ _ _ _›).2.2.1; omega) (by omega) (by omega) (by omega))
  
set_option maxHeartbeats 4000000 in
theorem vc_St_raise_at_gl_2_2 (x1 : Int) (x2 : Int) (x4 : Int) (x5 : Int) (x6 : Int) (x8 : Int) (x9 : Int) (room_0 : Int → Int) (arcs_0 : Int) (from_0 : Int → Int) (to_0 : Int → Int) (gain_0 : Int → Int) (place_0 : Int → Int) (by_0 : Int → Int) (nodes_0 : Int) (k1 : 0 ≤ x1 ∧ x1 ≤ 288) (k2 : 0 ≤ x2 ∧ x2 ≤ 9999) (k4 : 0 ≤ x4 ∧ x4 ≤ 1) (k5 : 0 ≤ x5 ∧ x5 ≤ 383) (k6 : 1 ≤ x6 ∧ x6 ≤ 384) (k8 : (-2147483648) ≤ x8 ∧ x8 ≤ 0) (k9 : 1 ≤ x9 ∧ x9 ≤ 384) (d0 : x5 + 1 ≤ x9 ∧ x9 ≤ x5 + 1) (d1 : x6 + (-4294967296) ≤ x9 ∧ x9 ≤ x6 + 0) (d2 : x6 + (-4294967296) ≤ x5 ∧ x5 ≤ x6 + (-1)) (d3 : x5 + (-4294967296) ≤ x4 ∧ x4 ≤ x5 + 0) (f0 : x9 = x5 + 1) (f1 : x8 ≤ 0) (h2 : x8 = room_0 (x5)) (f4 : x5 < x6) (g5 : x6 = arcs_0) (f6 : RAI (nodes_0) (arcs_0) (from_0) (to_0) (room_0) (gain_0) (place_0) (by_0) (x1) (x5) (x4)) (f7 : PBW (nodes_0) (place_0) (x2) (x1) (x5)) (f8 : x5 ≤ arcs_0) (hK_0_2 : ∀ j : Int, 0 ≤ j → j < 384 → 0 ≤ from_0 j ∧ from_0 j ≤ 71) (hK_0_3 : ∀ j : Int, 0 ≤ j → j < 384 → 0 ≤ to_0 j ∧ to_0 j ≤ 71) (hK_0_4 : ∀ j : Int, 0 ≤ j → j < 384 → (-2147483648) ≤ room_0 j ∧ room_0 j ≤ 2147483647) (hK_0_5 : ∀ j : Int, 0 ≤ j → j < 384 → (-20) ≤ gain_0 j ∧ gain_0 j ≤ 20) (hK_0_6 : ∀ j : Int, 0 ≤ j → j < 72 → (-2147483648) ≤ place_0 j ∧ place_0 j ≤ 2147483647) (hK_0_7 : ∀ j : Int, 0 ≤ j → j < 72 → (-1) ≤ by_0 j ∧ by_0 j ≤ 383) (kz_0_0 : 0 ≤ nodes_0 ∧ nodes_0 ≤ 72) (kz_0_1 : 0 ≤ arcs_0 ∧ arcs_0 ≤ 384) : x9 ≤ arcs_0 := by
  first
    | (have a := (‹FRI _ _ _ _ _ _ _ _ _›).1.2.2.1; omega)
    | omega
def o_St_raise_at_gl_2 : or_T := (4, 10, [(0, (2, 0, 0, [10])), (1, (0, 0, 288, [])), (2, (0, 0, 9999, [])), (4, (0, 0, 1, [])), (5, (0, 0, 383, [])), (6, (0, 1, 384, [])), (8, (0, -2147483648, 0, [])), (9, (0, 1, 384, []))], [(6, [9, 5], [1]), (8, [8], [5]), (10, [8, 7, 5], []), (9, [7, 3], [4]), (7, [5, 6], [2]), (9, [6, 3], [1]), (20, [3, 1, 5, 4], [60, 2, 6, 517, 0, 1, 2, 3, 4, 5, 6, 7]), (20, [3, 2, 1, 5], [60, 1, 1, 519, 0, 6]), (20, [5, 3], [50, 1, 0, 1001, 0, 2, 1, 0, 2, 1, 1]), (24, [0, 3], [])], [], [], [(20, [3, 1, 9, 4], [60, 2, 6, 517, 0, 1, 2, 3, 4, 5, 6, 7]), (20, [3, 2, 1, 9], [60, 1, 1, 519, 0, 6]), (20, [9, 3], [50, 1, 0, 1001, 0, 2, 1, 0, 2, 1, 1])], [], [(9, 5, 1, 1), (9, 6, -4294967296, 0), (5, 6, -4294967296, -1), (4, 5, -4294967296, 0)])
theorem oo_St_raise_at_gl_2 {kA : Nat → ClassId} : or_ok PRD kA GG o_St_raise_at_gl_2 := by
  refine or_mk fun A ta ws vs hD hth hl => ?_
  intro t0 r0 t1 k1 t2 k2 t4 k4 t5 k5 t6 k6 t8 k8 t9 k9 d0 d1 d2 d3 f0 f1 f2 f3 f4 f5 f6 f7 f8 f9
  replace f0 := shm_4 f0
  replace f1 := shm_295 f1
  replace f2 := shm_107 f2
  replace f3 := shm_108 f3
  replace f4 := shm_6 f4
  replace f5 := shm_215 f5
  replace f6 := shm_481 f6
  replace f7 := shm_482 f7
  replace f8 := shm_483 f8
  replace f9 := shm_5 f9
  have q3 : n_v vs 3 = n_v vs 0 := f9.symm
  simp only [q3] at f3 f5 f6 f7 f8
  have cr_0_2 := fdq_108 hD hth r0
  have cr_0_3 := fdq_109 hD hth r0
  have cr_0_4 := fdq_110 hD hth r0
  have cr_0_5 := fdq_111 hD hth r0
  have cr_0_6 := fdq_115 hD hth r0
  have cr_0_7 := fdq_116 hD hth r0
  have ad_7 : v_ad (n_v vs 7) = w_ar ws (n_v vs 0) 4 := congrArg v_ad f3
  simp only [ad_7] at f2
  have h2 : v_iv (n_v vs 8) = w_ei ws (w_ar ws (n_v vs 0) 4) (v_iv (n_v vs 5)) := f2
  have g5 : v_iv (n_v vs 6) = w_fi ws (n_v vs 0) 1 := congrArg v_iv f5
  have hK_0_2 := elq_53 hD hth cr_0_2
  have hK_0_3 := elq_54 hD hth cr_0_3
  have hK_0_4 := elq_55 hD hth cr_0_4
  have hK_0_5 := elq_56 hD hth cr_0_5
  have hK_0_6 := elq_58 hD hth cr_0_6
  have hK_0_7 := elq_59 hD hth cr_0_7
  have kz_0_0 := fdq_114 hD hth r0
  have kz_0_1 := fdq_113 hD hth r0
  have nf0 : fc_1 PRD (20, [3, 1, 9, 4], [60, 2, 6, 517, 0, 1, 2, 3, 4, 5, 6, 7]) ws (vs) := by
    refine ⟨nf_in hl rfl, sgq_481 ?_⟩
    · show RAI (w_fi ws (n_v vs 3) 0) (w_fi ws (n_v vs 3) 1) (w_ei ws (w_ar ws (n_v vs 3) 2)) (w_ei ws (w_ar ws (n_v vs 3) 3)) (w_ei ws (w_ar ws (n_v vs 3) 4)) (w_ei ws (w_ar ws (n_v vs 3) 5)) (w_ei ws (w_ar ws (n_v vs 3) 6)) (w_ei ws (w_ar ws (n_v vs 3) 7)) (v_iv (n_v vs 1)) (v_iv (n_v vs 9)) (v_iv (n_v vs 4))
      rw [q3]
      exact vc_St_raise_at_gl_2_0 (v_iv (n_v vs 1)) (v_iv (n_v vs 2)) (v_iv (n_v vs 4)) (v_iv (n_v vs 5)) (v_iv (n_v vs 6)) (v_iv (n_v vs 8)) (v_iv (n_v vs 9)) (w_ei ws (w_ar ws (n_v vs 0) 4)) (w_fi ws (n_v vs 0) 1) (w_ei ws (w_ar ws (n_v vs 0) 2)) (w_ei ws (w_ar ws (n_v vs 0) 3)) (w_ei ws (w_ar ws (n_v vs 0) 5)) (w_ei ws (w_ar ws (n_v vs 0) 6)) (w_ei ws (w_ar ws (n_v vs 0) 7)) (w_fi ws (n_v vs 0) 0) k1 k2 k4 k5 k6 k8 k9 d0 d1 d2 d3 f0 f1 h2 f4 g5 f6 f7 f8 hK_0_2 hK_0_3 hK_0_4 hK_0_5 hK_0_6 hK_0_7 kz_0_0 kz_0_1
  have nf1 : fc_1 PRD (20, [3, 2, 1, 9], [60, 1, 1, 519, 0, 6]) ws (vs) := by
    refine ⟨nf_in hl rfl, sgq_482 ?_⟩
    · show PBW (w_fi ws (n_v vs 3) 0) (w_ei ws (w_ar ws (n_v vs 3) 6)) (v_iv (n_v vs 2)) (v_iv (n_v vs 1)) (v_iv (n_v vs 9))
      rw [q3]
      exact vc_St_raise_at_gl_2_1 (v_iv (n_v vs 1)) (v_iv (n_v vs 2)) (v_iv (n_v vs 4)) (v_iv (n_v vs 5)) (v_iv (n_v vs 6)) (v_iv (n_v vs 8)) (v_iv (n_v vs 9)) (w_ei ws (w_ar ws (n_v vs 0) 4)) (w_fi ws (n_v vs 0) 1) (w_ei ws (w_ar ws (n_v vs 0) 2)) (w_ei ws (w_ar ws (n_v vs 0) 3)) (w_ei ws (w_ar ws (n_v vs 0) 5)) (w_ei ws (w_ar ws (n_v vs 0) 6)) (w_ei ws (w_ar ws (n_v vs 0) 7)) (w_fi ws (n_v vs 0) 0) k1 k2 k4 k5 k6 k8 k9 d0 d1 d2 d3 f0 f1 h2 f4 g5 f6 f7 f8 hK_0_2 hK_0_3 hK_0_4 hK_0_5 hK_0_6 hK_0_7 kz_0_0 kz_0_1
  have nf2 : fc_1 PRD (20, [9, 3], [50, 1, 0, 1001, 0, 2, 1, 0, 2, 1, 1]) ws (vs) := by
    refine ⟨nf_in hl rfl, sgq_483 ?_⟩
    · show v_iv (n_v vs 9) ≤ w_fi ws (n_v vs 3) 1
      rw [q3]
      exact vc_St_raise_at_gl_2_2 (v_iv (n_v vs 1)) (v_iv (n_v vs 2)) (v_iv (n_v vs 4)) (v_iv (n_v vs 5)) (v_iv (n_v vs 6)) (v_iv (n_v vs 8)) (v_iv (n_v vs 9)) (w_ei ws (w_ar ws (n_v vs 0) 4)) (w_fi ws (n_v vs 0) 1) (w_ei ws (w_ar ws (n_v vs 0) 2)) (w_ei ws (w_ar ws (n_v vs 0) 3)) (w_ei ws (w_ar ws (n_v vs 0) 5)) (w_ei ws (w_ar ws (n_v vs 0) 6)) (w_ei ws (w_ar ws (n_v vs 0) 7)) (w_fi ws (n_v vs 0) 0) k1 k2 k4 k5 k6 k8 k9 d0 d1 d2 d3 f0 f1 h2 f4 g5 f6 f7 f8 hK_0_2 hK_0_3 hK_0_4 hK_0_5 hK_0_6 hK_0_7 kz_0_0 kz_0_1
  refine ⟨(fun _ h => (by cases h)), [], trivial, ?_, (fun _ h => (by cases h))⟩
  rw [List.append_nil]
  exact List.forall_mem_cons.mpr ⟨⟨show (20 : Nat) < 100 from by decide, nf0⟩, List.forall_mem_cons.mpr ⟨⟨show (20 : Nat) < 100 from by decide, nf1⟩, List.forall_mem_cons.mpr ⟨⟨show (20 : Nat) < 100 from by decide, nf2⟩, (fun _ h => (by cases h))⟩⟩⟩
set_option maxHeartbeats 4000000 in
theorem vc_St_raise_at_gl_3_r0 (x1 : Int) (x2 : Int) (x4 : Int) (x5 : Int) (x6 : Int) (x8 : Int) (x11 : Int) (x12 : Int) (x14 : Int) (gain_0 : Int → Int) (place_0 : Int → Int) (from_0 : Int → Int) (room_0 : Int → Int) (arcs_0 : Int) (to_0 : Int → Int) (by_0 : Int → Int) (nodes_0 : Int) (k1 : 0 ≤ x1 ∧ x1 ≤ 288) (k2 : 0 ≤ x2 ∧ x2 ≤ 9999) (k4 : 0 ≤ x4 ∧ x4 ≤ 1) (k5 : 0 ≤ x5 ∧ x5 ≤ 383) (k6 : 1 ≤ x6 ∧ x6 ≤ 384) (k8 : 1 ≤ x8 ∧ x8 ≤ 2147483647) (k11 : 0 ≤ x11 ∧ x11 ≤ 71) (k12 : (-2147483648) ≤ x12 ∧ x12 ≤ 2147483647) (k14 : (-20) ≤ x14 ∧ x14 ≤ 20) (d0 : x6 + (-4294967296) ≤ x5 ∧ x5 ≤ x6 + (-1)) (d1 : x5 + (-4294967296) ≤ x4 ∧ x4 ≤ x5 + 0) (h0 : x14 = gain_0 (x5)) (h2 : x12 = place_0 (x11)) (h3 : x11 = from_0 (x5)) (f6 : 0 < x8) (h7 : x8 = room_0 (x5)) (f9 : x5 < x6) (g10 : x6 = arcs_0) (f11 : RAI (nodes_0) (arcs_0) (from_0) (to_0) (room_0) (gain_0) (place_0) (by_0) (x1) (x5) (x4)) (f12 : PBW (nodes_0) (place_0) (x2) (x1) (x5)) (f13 : x5 ≤ arcs_0) (hK_0_2 : ∀ j : Int, 0 ≤ j → j < 384 → 0 ≤ from_0 j ∧ from_0 j ≤ 71) (hK_0_3 : ∀ j : Int, 0 ≤ j → j < 384 → 0 ≤ to_0 j ∧ to_0 j ≤ 71) (hK_0_4 : ∀ j : Int, 0 ≤ j → j < 384 → (-2147483648) ≤ room_0 j ∧ room_0 j ≤ 2147483647) (hK_0_5 : ∀ j : Int, 0 ≤ j → j < 384 → (-20) ≤ gain_0 j ∧ gain_0 j ≤ 20) (hK_0_6 : ∀ j : Int, 0 ≤ j → j < 72 → (-2147483648) ≤ place_0 j ∧ place_0 j ≤ 2147483647) (hK_0_7 : ∀ j : Int, 0 ≤ j → j < 72 → (-1) ≤ by_0 j ∧ by_0 j ≤ 383) (kz_0_0 : 0 ≤ nodes_0 ∧ nodes_0 ≤ 72) (kz_0_1 : 0 ≤ arcs_0 ∧ arcs_0 ≤ 384) : 0 ≤ x12 ∧ x12 ≤ 600000000 := by
  first | subst h0 | skip
  first | subst h2 | skip
  first | subst h3 | skip
  first | subst h7 | skip
  have r := (‹RAI _ _ _ _ _ _ _ _ _ _ _›).1.2.2.2.2
  have r0 := (‹RAI _ _ _ _ _ _ _ _ _ _ _›).2.2.1
  have r1 := r x5 (by omega) (by omega)
  have b := ‹PBW _ _ _ _ _› (from_0 x5) r1.1 r1.2.1
  have a := (‹RAI _ _ _ _ _ _ _ _ _ _ _›).1.2.2.2.1
  omega
set_option maxHeartbeats 4000000 in
theorem vc_St_raise_at_gl_3_r1 (x1 : Int) (x2 : Int) (x4 : Int) (x5 : Int) (x6 : Int) (x8 : Int) (x11 : Int) (x12 : Int) (x14 : Int) (gain_0 : Int → Int) (place_0 : Int → Int) (from_0 : Int → Int) (room_0 : Int → Int) (arcs_0 : Int) (to_0 : Int → Int) (by_0 : Int → Int) (nodes_0 : Int) (k1 : 0 ≤ x1 ∧ x1 ≤ 288) (k2 : 0 ≤ x2 ∧ x2 ≤ 9999) (k4 : 0 ≤ x4 ∧ x4 ≤ 1) (k5 : 0 ≤ x5 ∧ x5 ≤ 383) (k6 : 1 ≤ x6 ∧ x6 ≤ 384) (k8 : 1 ≤ x8 ∧ x8 ≤ 2147483647) (k11 : 0 ≤ x11 ∧ x11 ≤ 71) (k12 : (-2147483648) ≤ x12 ∧ x12 ≤ 2147483647) (k14 : (-20) ≤ x14 ∧ x14 ≤ 20) (d0 : x6 + (-4294967296) ≤ x5 ∧ x5 ≤ x6 + (-1)) (d1 : x5 + (-4294967296) ≤ x4 ∧ x4 ≤ x5 + 0) (h0 : x14 = gain_0 (x5)) (h2 : x12 = place_0 (x11)) (h3 : x11 = from_0 (x5)) (f6 : 0 < x8) (h7 : x8 = room_0 (x5)) (f9 : x5 < x6) (g10 : x6 = arcs_0) (f11 : RAI (nodes_0) (arcs_0) (from_0) (to_0) (room_0) (gain_0) (place_0) (by_0) (x1) (x5) (x4)) (f12 : PBW (nodes_0) (place_0) (x2) (x1) (x5)) (f13 : x5 ≤ arcs_0) (hK_0_2 : ∀ j : Int, 0 ≤ j → j < 384 → 0 ≤ from_0 j ∧ from_0 j ≤ 71) (hK_0_3 : ∀ j : Int, 0 ≤ j → j < 384 → 0 ≤ to_0 j ∧ to_0 j ≤ 71) (hK_0_4 : ∀ j : Int, 0 ≤ j → j < 384 → (-2147483648) ≤ room_0 j ∧ room_0 j ≤ 2147483647) (hK_0_5 : ∀ j : Int, 0 ≤ j → j < 384 → (-20) ≤ gain_0 j ∧ gain_0 j ≤ 20) (hK_0_6 : ∀ j : Int, 0 ≤ j → j < 72 → (-2147483648) ≤ place_0 j ∧ place_0 j ≤ 2147483647) (hK_0_7 : ∀ j : Int, 0 ≤ j → j < 72 → (-1) ≤ by_0 j ∧ by_0 j ≤ 383) (kz_0_0 : 0 ≤ nodes_0 ∧ nodes_0 ≤ 72) (kz_0_1 : 0 ≤ arcs_0 ∧ arcs_0 ≤ 384) : (-1) ≤ x14 ∧ x14 ≤ 1 := by
  first | subst h0 | skip
  first | subst h2 | skip
  first | subst h3 | skip
  first | subst h7 | skip
  have r := (‹RAI _ _ _ _ _ _ _ _ _ _ _›).1.2.2.2.2
  have r0 := (‹RAI _ _ _ _ _ _ _ _ _ _ _›).2.2.1
  have r1 := r x5 (by omega) (by omega)
  have b := ‹PBW _ _ _ _ _› (from_0 x5) r1.1 r1.2.1
  have a := (‹RAI _ _ _ _ _ _ _ _ _ _ _›).1.2.2.2.1
  omega
def o_St_raise_at_gl_3 : or_T := (38, 15, [(0, (2, 0, 0, [10])), (1, (0, 0, 288, [])), (2, (0, 0, 9999, [])), (3, (2, 0, 0, [10])), (4, (0, 0, 1, [])), (5, (0, 0, 383, [])), (6, (0, 1, 384, [])), (7, (2, 0, 0, [120])), (8, (0, 1, 2147483647, [])), (9, (2, 0, 0, [122])), (10, (2, 0, 0, [118])), (11, (0, 0, 71, [])), (12, (0, -2147483648, 2147483647, [])), (13, (2, 0, 0, [121])), (14, (0, -20, 20, []))], [(10, [14, 13, 5], []), (9, [13, 3], [5]), (10, [12, 9, 11], []), (10, [11, 10, 5], []), (9, [10, 3], [2]), (9, [9, 3], [6]), (8, [8], [4]), (10, [8, 7, 5], []), (9, [7, 3], [4]), (7, [5, 6], [2]), (9, [6, 3], [1]), (20, [3, 1, 5, 4], [60, 2, 6, 517, 0, 1, 2, 3, 4, 5, 6, 7]), (20, [3, 2, 1, 5], [60, 1, 1, 519, 0, 6]), (20, [5, 3], [50, 1, 0, 1001, 0, 2, 1, 0, 2, 1, 1]), (24, [0, 3], [])], [(12, (0, 0, 600000000, [])), (14, (0, -1, 1, []))], [], [], [], [(5, 6, -4294967296, -1), (4, 5, -4294967296, 0)])
theorem oo_St_raise_at_gl_3 {kA : Nat → ClassId} : or_ok PRD kA GG o_St_raise_at_gl_3 := by
  refine or_mk fun A ta ws vs hD hth hl => ?_
  intro t0 r0 t1 k1 t2 k2 t3 r3 t4 k4 t5 k5 t6 k6 t7 r7 t8 k8 t9 r9 t10 r10 t11 k11 t12 k12 t13 r13 t14 k14 d0 d1 f0 f1 f2 f3 f4 f5 f6 f7 f8 f9 f10 f11 f12 f13 f14
  replace f0 := shm_107 f0
  replace f1 := shm_110 f1
  replace f2 := shm_107 f2
  replace f3 := shm_107 f3
  replace f4 := shm_120 f4
  replace f5 := shm_111 f5
  replace f7 := shm_107 f7
  replace f8 := shm_108 f8
  replace f10 := shm_215 f10
  replace f11 := shm_481 f11
  replace f12 := shm_482 f12
  replace f13 := shm_483 f13
  replace f14 := shm_5 f14
  have q3 : n_v vs 3 = n_v vs 0 := f14.symm
  simp only [q3] at f1 f4 f5 f8 f10 f11 f12 f13
  have cr_0_2 := fdq_108 hD hth r0
  have cr_0_3 := fdq_109 hD hth r0
  have cr_0_4 := fdq_110 hD hth r0
  have cr_0_5 := fdq_111 hD hth r0
  have cr_0_6 := fdq_115 hD hth r0
  have cr_0_7 := fdq_116 hD hth r0
  have ad_13 : v_ad (n_v vs 13) = w_ar ws (n_v vs 0) 5 := congrArg v_ad f1
  have ad_10 : v_ad (n_v vs 10) = w_ar ws (n_v vs 0) 2 := congrArg v_ad f4
  have ad_9 : v_ad (n_v vs 9) = w_ar ws (n_v vs 0) 6 := congrArg v_ad f5
  have ad_7 : v_ad (n_v vs 7) = w_ar ws (n_v vs 0) 4 := congrArg v_ad f8
  simp only [ad_13] at f0
  have h0 : v_iv (n_v vs 14) = w_ei ws (w_ar ws (n_v vs 0) 5) (v_iv (n_v vs 5)) := f0
  simp only [ad_9] at f2
  have h2 : v_iv (n_v vs 12) = w_ei ws (w_ar ws (n_v vs 0) 6) (v_iv (n_v vs 11)) := f2
  simp only [ad_10] at f3
  have h3 : v_iv (n_v vs 11) = w_ei ws (w_ar ws (n_v vs 0) 2) (v_iv (n_v vs 5)) := f3
  simp only [ad_7] at f7
  have h7 : v_iv (n_v vs 8) = w_ei ws (w_ar ws (n_v vs 0) 4) (v_iv (n_v vs 5)) := f7
  have g10 : v_iv (n_v vs 6) = w_fi ws (n_v vs 0) 1 := congrArg v_iv f10
  have hK_0_2 := elq_53 hD hth cr_0_2
  have hK_0_3 := elq_54 hD hth cr_0_3
  have hK_0_4 := elq_55 hD hth cr_0_4
  have hK_0_5 := elq_56 hD hth cr_0_5
  have hK_0_6 := elq_58 hD hth cr_0_6
  have hK_0_7 := elq_59 hD hth cr_0_7
  have kz_0_0 := fdq_114 hD hth r0
  have kz_0_1 := fdq_113 hD hth r0
  have hrf0 : 0 ≤ v_iv (n_v vs 12) ∧ v_iv (n_v vs 12) ≤ 600000000 := vc_St_raise_at_gl_3_r0 (v_iv (n_v vs 1)) (v_iv (n_v vs 2)) (v_iv (n_v vs 4)) (v_iv (n_v vs 5)) (v_iv (n_v vs 6)) (v_iv (n_v vs 8)) (v_iv (n_v vs 11)) (v_iv (n_v vs 12)) (v_iv (n_v vs 14)) (w_ei ws (w_ar ws (n_v vs 0) 5)) (w_ei ws (w_ar ws (n_v vs 0) 6)) (w_ei ws (w_ar ws (n_v vs 0) 2)) (w_ei ws (w_ar ws (n_v vs 0) 4)) (w_fi ws (n_v vs 0) 1) (w_ei ws (w_ar ws (n_v vs 0) 3)) (w_ei ws (w_ar ws (n_v vs 0) 7)) (w_fi ws (n_v vs 0) 0) k1 k2 k4 k5 k6 k8 k11 k12 k14 d0 d1 h0 h2 h3 (shm_308 f6) h7 (shm_6 f9) g10 f11 f12 f13 hK_0_2 hK_0_3 hK_0_4 hK_0_5 hK_0_6 hK_0_7 kz_0_0 kz_0_1
  have hrf1 : (-1) ≤ v_iv (n_v vs 14) ∧ v_iv (n_v vs 14) ≤ 1 := vc_St_raise_at_gl_3_r1 (v_iv (n_v vs 1)) (v_iv (n_v vs 2)) (v_iv (n_v vs 4)) (v_iv (n_v vs 5)) (v_iv (n_v vs 6)) (v_iv (n_v vs 8)) (v_iv (n_v vs 11)) (v_iv (n_v vs 12)) (v_iv (n_v vs 14)) (w_ei ws (w_ar ws (n_v vs 0) 5)) (w_ei ws (w_ar ws (n_v vs 0) 6)) (w_ei ws (w_ar ws (n_v vs 0) 2)) (w_ei ws (w_ar ws (n_v vs 0) 4)) (w_fi ws (n_v vs 0) 1) (w_ei ws (w_ar ws (n_v vs 0) 3)) (w_ei ws (w_ar ws (n_v vs 0) 7)) (w_fi ws (n_v vs 0) 0) k1 k2 k4 k5 k6 k8 k11 k12 k14 d0 d1 h0 h2 h3 (shm_308 f6) h7 (shm_6 f9) g10 f11 f12 f13 hK_0_2 hK_0_3 hK_0_4 hK_0_5 hK_0_6 hK_0_7 kz_0_0 kz_0_1
  have rf12 : tv_ok ta (0, 0, 600000000, []) (n_v vs 12) := tv_in t12 (by first | omega | grind) (by first | omega | grind)
  have rf14 : tv_ok ta (0, -1, 1, []) (n_v vs 14) := tv_in t14 (by first | omega | grind) (by first | omega | grind)
  refine ⟨List.forall_mem_cons.mpr ⟨rf12, List.forall_mem_cons.mpr ⟨rf14, (fun _ h => (by cases h))⟩⟩, [], trivial, ?_, (fun _ h => (by cases h))⟩
  rw [List.append_nil]
  exact (fun _ h => (by cases h))
set_option maxHeartbeats 4000000 in
theorem vc_St_raise_at_gl_4_0 (x1 : Int) (x2 : Int) (x4 : Int) (x5 : Int) (x6 : Int) (x8 : Int) (x11 : Int) (x12 : Int) (x14 : Int) (x15 : Int) (x17 : Int) (x18 : Int) (x19 : Int) (place_0 : Int → Int) (to_0 : Int → Int) (gain_0 : Int → Int) (from_0 : Int → Int) (room_0 : Int → Int) (arcs_0 : Int) (by_0 : Int → Int) (nodes_0 : Int) (k1 : 0 ≤ x1 ∧ x1 ≤ 288) (k2 : 0 ≤ x2 ∧ x2 ≤ 9999) (k4 : 0 ≤ x4 ∧ x4 ≤ 1) (k5 : 0 ≤ x5 ∧ x5 ≤ 383) (k6 : 1 ≤ x6 ∧ x6 ≤ 384) (k8 : 1 ≤ x8 ∧ x8 ≤ 2147483647) (k11 : 0 ≤ x11 ∧ x11 ≤ 71) (k12 : 0 ≤ x12 ∧ x12 ≤ 600000000) (k14 : (-1) ≤ x14 ∧ x14 ≤ 1) (k15 : (-1) ≤ x15 ∧ x15 ≤ 600000001) (k17 : 0 ≤ x17 ∧ x17 ≤ 71) (k18 : (-1) ≤ x18 ∧ x18 ≤ 2147483647) (k19 : 1 ≤ x19 ∧ x19 ≤ 384) (d0 : x5 + 1 ≤ x19 ∧ x19 ≤ x5 + 1) (d1 : x6 + (-4294967296) ≤ x19 ∧ x19 ≤ x6 + 0) (d2 : x18 + (-4294967296) ≤ x15 ∧ x15 ≤ x18 + 0) (d3 : x14 + 0 ≤ x15 ∧ x15 ≤ x14 + 600000000) (d4 : x12 + (-1) ≤ x15 ∧ x15 ≤ x12 + 1) (d5 : x6 + (-4294967296) ≤ x5 ∧ x5 ≤ x6 + (-1)) (d6 : x5 + (-4294967296) ≤ x4 ∧ x4 ≤ x5 + 0) (f0 : x19 = x5 + 1) (f1 : x15 ≤ x18) (h2 : x18 = place_0 (x17)) (h3 : x17 = to_0 (x5)) (f6 : x15 = x12 + x14) (h7 : x14 = gain_0 (x5)) (h9 : x12 = place_0 (x11)) (h10 : x11 = from_0 (x5)) (f12 : 0 < x8) (h13 : x8 = room_0 (x5)) (f15 : x5 < x6) (g16 : x6 = arcs_0) (f17 : RAI (nodes_0) (arcs_0) (from_0) (to_0) (room_0) (gain_0) (place_0) (by_0) (x1) (x5) (x4)) (f18 : PBW (nodes_0) (place_0) (x2) (x1) (x5)) (f19 : x5 ≤ arcs_0) (hK_0_2 : ∀ j : Int, 0 ≤ j → j < 384 → 0 ≤ from_0 j ∧ from_0 j ≤ 71) (hK_0_3 : ∀ j : Int, 0 ≤ j → j < 384 → 0 ≤ to_0 j ∧ to_0 j ≤ 71) (hK_0_4 : ∀ j : Int, 0 ≤ j → j < 384 → (-2147483648) ≤ room_0 j ∧ room_0 j ≤ 2147483647) (hK_0_5 : ∀ j : Int, 0 ≤ j → j < 384 → (-20) ≤ gain_0 j ∧ gain_0 j ≤ 20) (hK_0_6 : ∀ j : Int, 0 ≤ j → j < 72 → (-2147483648) ≤ place_0 j ∧ place_0 j ≤ 2147483647) (hK_0_7 : ∀ j : Int, 0 ≤ j → j < 72 → (-1) ≤ by_0 j ∧ by_0 j ≤ 383) (kz_0_0 : 0 ≤ nodes_0 ∧ nodes_0 ≤ 72) (kz_0_1 : 0 ≤ arcs_0 ∧ arcs_0 ≤ 384) : RAI (nodes_0) (arcs_0) (from_0) (to_0) (room_0) (gain_0) (place_0) (by_0) (x1) (x19) (x4) := by
  first
    | exact rai_start ‹FRI _ _ _ _ _ _ _ _ _› (by omega) (by omega)
    | (skip; (first | subst h2 | skip); (first | subst h3 | skip); (first | subst h7 | skip); (first | subst h9 | skip); (first | subst h10 | skip); (first | subst h13 | skip); exact rai_skip ‹RAI _ _ _ _ _ _ _ _ _ _ _› (by first | (left; omega) | (right; omega)) (by omega))
    | (skip; (first | subst h2 | skip); (first | subst h3 | skip); (first | subst h7 | skip); (first | subst h9 | skip); (first | subst h10 | skip); (first | subst h13 | skip); exact rai_set ‹RAI _ _ _ _ _ _ _ _ _ _ _› (by assumption) rfl (by omega) (by assumption) rfl rfl (by omega) (by omega) (by omega) (by omega) (by omega))
  
set_option maxHeartbeats 4000000 in
theorem vc_St_raise_at_gl_4_1 (x1 : Int) (x2 : Int) (x4 : Int) (x5 : Int) (x6 : Int) (x8 : Int) (x11 : Int) (x12 : Int) (x14 : Int) (x15 : Int) (x17 : Int) (x18 : Int) (x19 : Int) (place_0 : Int → Int) (to_0 : Int → Int) (gain_0 : Int → Int) (from_0 : Int → Int) (room_0 : Int → Int) (arcs_0 : Int) (by_0 : Int → Int) (nodes_0 : Int) (k1 : 0 ≤ x1 ∧ x1 ≤ 288) (k2 : 0 ≤ x2 ∧ x2 ≤ 9999) (k4 : 0 ≤ x4 ∧ x4 ≤ 1) (k5 : 0 ≤ x5 ∧ x5 ≤ 383) (k6 : 1 ≤ x6 ∧ x6 ≤ 384) (k8 : 1 ≤ x8 ∧ x8 ≤ 2147483647) (k11 : 0 ≤ x11 ∧ x11 ≤ 71) (k12 : 0 ≤ x12 ∧ x12 ≤ 600000000) (k14 : (-1) ≤ x14 ∧ x14 ≤ 1) (k15 : (-1) ≤ x15 ∧ x15 ≤ 600000001) (k17 : 0 ≤ x17 ∧ x17 ≤ 71) (k18 : (-1) ≤ x18 ∧ x18 ≤ 2147483647) (k19 : 1 ≤ x19 ∧ x19 ≤ 384) (d0 : x5 + 1 ≤ x19 ∧ x19 ≤ x5 + 1) (d1 : x6 + (-4294967296) ≤ x19 ∧ x19 ≤ x6 + 0) (d2 : x18 + (-4294967296) ≤ x15 ∧ x15 ≤ x18 + 0) (d3 : x14 + 0 ≤ x15 ∧ x15 ≤ x14 + 600000000) (d4 : x12 + (-1) ≤ x15 ∧ x15 ≤ x12 + 1) (d5 : x6 + (-4294967296) ≤ x5 ∧ x5 ≤ x6 + (-1)) (d6 : x5 + (-4294967296) ≤ x4 ∧ x4 ≤ x5 + 0) (f0 : x19 = x5 + 1) (f1 : x15 ≤ x18) (h2 : x18 = place_0 (x17)) (h3 : x17 = to_0 (x5)) (f6 : x15 = x12 + x14) (h7 : x14 = gain_0 (x5)) (h9 : x12 = place_0 (x11)) (h10 : x11 = from_0 (x5)) (f12 : 0 < x8) (h13 : x8 = room_0 (x5)) (f15 : x5 < x6) (g16 : x6 = arcs_0) (f17 : RAI (nodes_0) (arcs_0) (from_0) (to_0) (room_0) (gain_0) (place_0) (by_0) (x1) (x5) (x4)) (f18 : PBW (nodes_0) (place_0) (x2) (x1) (x5)) (f19 : x5 ≤ arcs_0) (hK_0_2 : ∀ j : Int, 0 ≤ j → j < 384 → 0 ≤ from_0 j ∧ from_0 j ≤ 71) (hK_0_3 : ∀ j : Int, 0 ≤ j → j < 384 → 0 ≤ to_0 j ∧ to_0 j ≤ 71) (hK_0_4 : ∀ j : Int, 0 ≤ j → j < 384 → (-2147483648) ≤ room_0 j ∧ room_0 j ≤ 2147483647) (hK_0_5 : ∀ j : Int, 0 ≤ j → j < 384 → (-20) ≤ gain_0 j ∧ gain_0 j ≤ 20) (hK_0_6 : ∀ j : Int, 0 ≤ j → j < 72 → (-2147483648) ≤ place_0 j ∧ place_0 j ≤ 2147483647) (hK_0_7 : ∀ j : Int, 0 ≤ j → j < 72 → (-1) ≤ by_0 j ∧ by_0 j ≤ 383) (kz_0_0 : 0 ≤ nodes_0 ∧ nodes_0 ≤ 72) (kz_0_1 : 0 ≤ arcs_0 ∧ arcs_0 ≤ 384) : PBW (nodes_0) (place_0) (x2) (x1) (x19) := by
  first
    | exact pbw_up ‹PBT _ _ _ _› (by omega)
    | exact pbw_up ‹PBW _ _ _ _ _› (by omega)
    | (skip; (first | subst h2 | skip); (first | subst h3 | skip); (first | subst h7 | skip); (first | subst h9 | skip); (first | subst h10 | skip); (first | subst h13 | skip); exact pbw_set ‹PBW _ _ _ _ _› (‹RAI _ _ _ _ _ _ _ _ _ _ _›).1 (by assumption) rfl (by omega) (by have := (‹RAI _ _ _ _ _ _ _ _ _ _ _›).2.2.1; omega) (by omega) (by omega) (by omega))
  
set_option maxHeartbeats 4000000 in
theorem vc_St_raise_at_gl_4_2 (x1 : Int) (x2 : Int) (x4 : Int) (x5 : Int) (x6 : Int) (x8 : Int) (x11 : Int) (x12 : Int) (x14 : Int) (x15 : Int) (x17 : Int) (x18 : Int) (x19 : Int) (place_0 : Int → Int) (to_0 : Int → Int) (gain_0 : Int → Int) (from_0 : Int → Int) (room_0 : Int → Int) (arcs_0 : Int) (by_0 : Int → Int) (nodes_0 : Int) (k1 : 0 ≤ x1 ∧ x1 ≤ 288) (k2 : 0 ≤ x2 ∧ x2 ≤ 9999) (k4 : 0 ≤ x4 ∧ x4 ≤ 1) (k5 : 0 ≤ x5 ∧ x5 ≤ 383) (k6 : 1 ≤ x6 ∧ x6 ≤ 384) (k8 : 1 ≤ x8 ∧ x8 ≤ 2147483647) (k11 : 0 ≤ x11 ∧ x11 ≤ 71) (k12 : 0 ≤ x12 ∧ x12 ≤ 600000000) (k14 : (-1) ≤ x14 ∧ x14 ≤ 1) (k15 : (-1) ≤ x15 ∧ x15 ≤ 600000001) (k17 : 0 ≤ x17 ∧ x17 ≤ 71) (k18 : (-1) ≤ x18 ∧ x18 ≤ 2147483647) (k19 : 1 ≤ x19 ∧ x19 ≤ 384) (d0 : x5 + 1 ≤ x19 ∧ x19 ≤ x5 + 1) (d1 : x6 + (-4294967296) ≤ x19 ∧ x19 ≤ x6 + 0) (d2 : x18 + (-4294967296) ≤ x15 ∧ x15 ≤ x18 + 0) (d3 : x14 + 0 ≤ x15 ∧ x15 ≤ x14 + 600000000) (d4 : x12 + (-1) ≤ x15 ∧ x15 ≤ x12 + 1) (d5 : x6 + (-4294967296) ≤ x5 ∧ x5 ≤ x6 + (-1)) (d6 : x5 + (-4294967296) ≤ x4 ∧ x4 ≤ x5 + 0) (f0 : x19 = x5 + 1) (f1 : x15 ≤ x18) (h2 : x18 = place_0 (x17)) (h3 : x17 = to_0 (x5)) (f6 : x15 = x12 + x14) (h7 : x14 = gain_0 (x5)) (h9 : x12 = place_0 (x11)) (h10 : x11 = from_0 (x5)) (f12 : 0 < x8) (h13 : x8 = room_0 (x5)) (f15 : x5 < x6) (g16 : x6 = arcs_0) (f17 : RAI (nodes_0) (arcs_0) (from_0) (to_0) (room_0) (gain_0) (place_0) (by_0) (x1) (x5) (x4)) (f18 : PBW (nodes_0) (place_0) (x2) (x1) (x5)) (f19 : x5 ≤ arcs_0) (hK_0_2 : ∀ j : Int, 0 ≤ j → j < 384 → 0 ≤ from_0 j ∧ from_0 j ≤ 71) (hK_0_3 : ∀ j : Int, 0 ≤ j → j < 384 → 0 ≤ to_0 j ∧ to_0 j ≤ 71) (hK_0_4 : ∀ j : Int, 0 ≤ j → j < 384 → (-2147483648) ≤ room_0 j ∧ room_0 j ≤ 2147483647) (hK_0_5 : ∀ j : Int, 0 ≤ j → j < 384 → (-20) ≤ gain_0 j ∧ gain_0 j ≤ 20) (hK_0_6 : ∀ j : Int, 0 ≤ j → j < 72 → (-2147483648) ≤ place_0 j ∧ place_0 j ≤ 2147483647) (hK_0_7 : ∀ j : Int, 0 ≤ j → j < 72 → (-1) ≤ by_0 j ∧ by_0 j ≤ 383) (kz_0_0 : 0 ≤ nodes_0 ∧ nodes_0 ≤ 72) (kz_0_1 : 0 ≤ arcs_0 ∧ arcs_0 ≤ 384) : x19 ≤ arcs_0 := by
  first
    | (have a := (‹FRI _ _ _ _ _ _ _ _ _›).1.2.2.1; omega)
    | omega
def o_St_raise_at_gl_4 : or_T := (4, 20, [(0, (2, 0, 0, [10])), (1, (0, 0, 288, [])), (2, (0, 0, 9999, [])), (4, (0, 0, 1, [])), (5, (0, 0, 383, [])), (6, (0, 1, 384, [])), (8, (0, 1, 2147483647, [])), (11, (0, 0, 71, [])), (12, (0, 0, 600000000, [])), (14, (0, -1, 1, [])), (15, (0, -1, 600000001, [])), (17, (0, 0, 71, [])), (18, (0, -1, 2147483647, [])), (19, (0, 1, 384, []))], [(6, [19, 5], [1]), (7, [15, 18], [5]), (10, [18, 9, 17], []), (10, [17, 16, 5], []), (9, [16, 3], [3]), (9, [9, 3], [6]), (1, [15, 12, 14], []), (10, [14, 13, 5], []), (9, [13, 3], [5]), (10, [12, 9, 11], []), (10, [11, 10, 5], []), (9, [10, 3], [2]), (8, [8], [4]), (10, [8, 7, 5], []), (9, [7, 3], [4]), (7, [5, 6], [2]), (9, [6, 3], [1]), (20, [3, 1, 5, 4], [60, 2, 6, 517, 0, 1, 2, 3, 4, 5, 6, 7]), (20, [3, 2, 1, 5], [60, 1, 1, 519, 0, 6]), (20, [5, 3], [50, 1, 0, 1001, 0, 2, 1, 0, 2, 1, 1]), (24, [0, 3], [])], [], [], [(20, [3, 1, 19, 4], [60, 2, 6, 517, 0, 1, 2, 3, 4, 5, 6, 7]), (20, [3, 2, 1, 19], [60, 1, 1, 519, 0, 6]), (20, [19, 3], [50, 1, 0, 1001, 0, 2, 1, 0, 2, 1, 1])], [], [(19, 5, 1, 1), (19, 6, -4294967296, 0), (15, 18, -4294967296, 0), (15, 14, 0, 600000000), (15, 12, -1, 1), (5, 6, -4294967296, -1), (4, 5, -4294967296, 0)])
theorem oo_St_raise_at_gl_4 {kA : Nat → ClassId} : or_ok PRD kA GG o_St_raise_at_gl_4 := by
  refine or_mk fun A ta ws vs hD hth hl => ?_
  intro t0 r0 t1 k1 t2 k2 t4 k4 t5 k5 t6 k6 t8 k8 t11 k11 t12 k12 t14 k14 t15 k15 t17 k17 t18 k18 t19 k19 d0 d1 d2 d3 d4 d5 d6 f0 f1 f2 f3 f4 f5 f6 f7 f8 f9 f10 f11 f12 f13 f14 f15 f16 f17 f18 f19 f20
  replace f0 := shm_4 f0
  replace f1 := shm_24 f1
  replace f2 := shm_107 f2
  replace f3 := shm_107 f3
  replace f4 := shm_137 f4
  replace f5 := shm_111 f5
  replace f6 := shm_12 f6
  replace f7 := shm_107 f7
  replace f8 := shm_110 f8
  replace f9 := shm_107 f9
  replace f10 := shm_107 f10
  replace f11 := shm_120 f11
  replace f12 := shm_308 f12
  replace f13 := shm_107 f13
  replace f14 := shm_108 f14
  replace f15 := shm_6 f15
  replace f16 := shm_215 f16
  replace f17 := shm_481 f17
  replace f18 := shm_482 f18
  replace f19 := shm_483 f19
  replace f20 := shm_5 f20
  have q3 : n_v vs 3 = n_v vs 0 := f20.symm
  simp only [q3] at f4 f5 f8 f11 f14 f16 f17 f18 f19
  have cr_0_2 := fdq_108 hD hth r0
  have cr_0_3 := fdq_109 hD hth r0
  have cr_0_4 := fdq_110 hD hth r0
  have cr_0_5 := fdq_111 hD hth r0
  have cr_0_6 := fdq_115 hD hth r0
  have cr_0_7 := fdq_116 hD hth r0
  have ad_16 : v_ad (n_v vs 16) = w_ar ws (n_v vs 0) 3 := congrArg v_ad f4
  have ad_9 : v_ad (n_v vs 9) = w_ar ws (n_v vs 0) 6 := congrArg v_ad f5
  have ad_13 : v_ad (n_v vs 13) = w_ar ws (n_v vs 0) 5 := congrArg v_ad f8
  have ad_10 : v_ad (n_v vs 10) = w_ar ws (n_v vs 0) 2 := congrArg v_ad f11
  have ad_7 : v_ad (n_v vs 7) = w_ar ws (n_v vs 0) 4 := congrArg v_ad f14
  simp only [ad_9] at f2
  have h2 : v_iv (n_v vs 18) = w_ei ws (w_ar ws (n_v vs 0) 6) (v_iv (n_v vs 17)) := f2
  simp only [ad_16] at f3
  have h3 : v_iv (n_v vs 17) = w_ei ws (w_ar ws (n_v vs 0) 3) (v_iv (n_v vs 5)) := f3
  simp only [ad_13] at f7
  have h7 : v_iv (n_v vs 14) = w_ei ws (w_ar ws (n_v vs 0) 5) (v_iv (n_v vs 5)) := f7
  simp only [ad_9] at f9
  have h9 : v_iv (n_v vs 12) = w_ei ws (w_ar ws (n_v vs 0) 6) (v_iv (n_v vs 11)) := f9
  simp only [ad_10] at f10
  have h10 : v_iv (n_v vs 11) = w_ei ws (w_ar ws (n_v vs 0) 2) (v_iv (n_v vs 5)) := f10
  simp only [ad_7] at f13
  have h13 : v_iv (n_v vs 8) = w_ei ws (w_ar ws (n_v vs 0) 4) (v_iv (n_v vs 5)) := f13
  have g16 : v_iv (n_v vs 6) = w_fi ws (n_v vs 0) 1 := congrArg v_iv f16
  have hK_0_2 := elq_53 hD hth cr_0_2
  have hK_0_3 := elq_54 hD hth cr_0_3
  have hK_0_4 := elq_55 hD hth cr_0_4
  have hK_0_5 := elq_56 hD hth cr_0_5
  have hK_0_6 := elq_58 hD hth cr_0_6
  have hK_0_7 := elq_59 hD hth cr_0_7
  have kz_0_0 := fdq_114 hD hth r0
  have kz_0_1 := fdq_113 hD hth r0
  have nf0 : fc_1 PRD (20, [3, 1, 19, 4], [60, 2, 6, 517, 0, 1, 2, 3, 4, 5, 6, 7]) ws (vs) := by
    refine ⟨nf_in hl rfl, sgq_481 ?_⟩
    · show RAI (w_fi ws (n_v vs 3) 0) (w_fi ws (n_v vs 3) 1) (w_ei ws (w_ar ws (n_v vs 3) 2)) (w_ei ws (w_ar ws (n_v vs 3) 3)) (w_ei ws (w_ar ws (n_v vs 3) 4)) (w_ei ws (w_ar ws (n_v vs 3) 5)) (w_ei ws (w_ar ws (n_v vs 3) 6)) (w_ei ws (w_ar ws (n_v vs 3) 7)) (v_iv (n_v vs 1)) (v_iv (n_v vs 19)) (v_iv (n_v vs 4))
      rw [q3]
      exact vc_St_raise_at_gl_4_0 (v_iv (n_v vs 1)) (v_iv (n_v vs 2)) (v_iv (n_v vs 4)) (v_iv (n_v vs 5)) (v_iv (n_v vs 6)) (v_iv (n_v vs 8)) (v_iv (n_v vs 11)) (v_iv (n_v vs 12)) (v_iv (n_v vs 14)) (v_iv (n_v vs 15)) (v_iv (n_v vs 17)) (v_iv (n_v vs 18)) (v_iv (n_v vs 19)) (w_ei ws (w_ar ws (n_v vs 0) 6)) (w_ei ws (w_ar ws (n_v vs 0) 3)) (w_ei ws (w_ar ws (n_v vs 0) 5)) (w_ei ws (w_ar ws (n_v vs 0) 2)) (w_ei ws (w_ar ws (n_v vs 0) 4)) (w_fi ws (n_v vs 0) 1) (w_ei ws (w_ar ws (n_v vs 0) 7)) (w_fi ws (n_v vs 0) 0) k1 k2 k4 k5 k6 k8 k11 k12 k14 k15 k17 k18 k19 d0 d1 d2 d3 d4 d5 d6 f0 f1 h2 h3 f6 h7 h9 h10 f12 h13 f15 g16 f17 f18 f19 hK_0_2 hK_0_3 hK_0_4 hK_0_5 hK_0_6 hK_0_7 kz_0_0 kz_0_1
  have nf1 : fc_1 PRD (20, [3, 2, 1, 19], [60, 1, 1, 519, 0, 6]) ws (vs) := by
    refine ⟨nf_in hl rfl, sgq_482 ?_⟩
    · show PBW (w_fi ws (n_v vs 3) 0) (w_ei ws (w_ar ws (n_v vs 3) 6)) (v_iv (n_v vs 2)) (v_iv (n_v vs 1)) (v_iv (n_v vs 19))
      rw [q3]
      exact vc_St_raise_at_gl_4_1 (v_iv (n_v vs 1)) (v_iv (n_v vs 2)) (v_iv (n_v vs 4)) (v_iv (n_v vs 5)) (v_iv (n_v vs 6)) (v_iv (n_v vs 8)) (v_iv (n_v vs 11)) (v_iv (n_v vs 12)) (v_iv (n_v vs 14)) (v_iv (n_v vs 15)) (v_iv (n_v vs 17)) (v_iv (n_v vs 18)) (v_iv (n_v vs 19)) (w_ei ws (w_ar ws (n_v vs 0) 6)) (w_ei ws (w_ar ws (n_v vs 0) 3)) (w_ei ws (w_ar ws (n_v vs 0) 5)) (w_ei ws (w_ar ws (n_v vs 0) 2)) (w_ei ws (w_ar ws (n_v vs 0) 4)) (w_fi ws (n_v vs 0) 1) (w_ei ws (w_ar ws (n_v vs 0) 7)) (w_fi ws (n_v vs 0) 0) k1 k2 k4 k5 k6 k8 k11 k12 k14 k15 k17 k18 k19 d0 d1 d2 d3 d4 d5 d6 f0 f1 h2 h3 f6 h7 h9 h10 f12 h13 f15 g16 f17 f18 f19 hK_0_2 hK_0_3 hK_0_4 hK_0_5 hK_0_6 hK_0_7 kz_0_0 kz_0_1
  have nf2 : fc_1 PRD (20, [19, 3], [50, 1, 0, 1001, 0, 2, 1, 0, 2, 1, 1]) ws (vs) := by
    refine ⟨nf_in hl rfl, sgq_483 ?_⟩
    · show v_iv (n_v vs 19) ≤ w_fi ws (n_v vs 3) 1
      rw [q3]
      exact vc_St_raise_at_gl_4_2 (v_iv (n_v vs 1)) (v_iv (n_v vs 2)) (v_iv (n_v vs 4)) (v_iv (n_v vs 5)) (v_iv (n_v vs 6)) (v_iv (n_v vs 8)) (v_iv (n_v vs 11)) (v_iv (n_v vs 12)) (v_iv (n_v vs 14)) (v_iv (n_v vs 15)) (v_iv (n_v vs 17)) (v_iv (n_v vs 18)) (v_iv (n_v vs 19)) (w_ei ws (w_ar ws (n_v vs 0) 6)) (w_ei ws (w_ar ws (n_v vs 0) 3)) (w_ei ws (w_ar ws (n_v vs 0) 5)) (w_ei ws (w_ar ws (n_v vs 0) 2)) (w_ei ws (w_ar ws (n_v vs 0) 4)) (w_fi ws (n_v vs 0) 1) (w_ei ws (w_ar ws (n_v vs 0) 7)) (w_fi ws (n_v vs 0) 0) k1 k2 k4 k5 k6 k8 k11 k12 k14 k15 k17 k18 k19 d0 d1 d2 d3 d4 d5 d6 f0 f1 h2 h3 f6 h7 h9 h10 f12 h13 f15 g16 f17 f18 f19 hK_0_2 hK_0_3 hK_0_4 hK_0_5 hK_0_6 hK_0_7 kz_0_0 kz_0_1
  refine ⟨(fun _ h => (by cases h)), [], trivial, ?_, (fun _ h => (by cases h))⟩
  rw [List.append_nil]
  exact List.forall_mem_cons.mpr ⟨⟨show (20 : Nat) < 100 from by decide, nf0⟩, List.forall_mem_cons.mpr ⟨⟨show (20 : Nat) < 100 from by decide, nf1⟩, List.forall_mem_cons.mpr ⟨⟨show (20 : Nat) < 100 from by decide, nf2⟩, (fun _ h => (by cases h))⟩⟩⟩
set_option maxHeartbeats 4000000 in
theorem vc_St_raise_at_gl_5_r0 (x1 : Int) (x2 : Int) (x4 : Int) (x5 : Int) (x6 : Int) (x8 : Int) (x11 : Int) (x12 : Int) (x14 : Int) (x15 : Int) (x17 : Int) (x18 : Int) (x19 : Int) (x20 : Int) (x21 : Int) (x22 : Int) (gain_0 : Int → Int) (place_0 : Int → Int) (from_0 : Int → Int) (to_0 : Int → Int) (room_0 : Int → Int) (arcs_0 : Int) (by_0 : Int → Int) (nodes_0 : Int) (k1 : 0 ≤ x1 ∧ x1 ≤ 288) (k2 : 0 ≤ x2 ∧ x2 ≤ 9999) (k4 : 0 ≤ x4 ∧ x4 ≤ 1) (k5 : 0 ≤ x5 ∧ x5 ≤ 383) (k6 : 1 ≤ x6 ∧ x6 ≤ 384) (k8 : 1 ≤ x8 ∧ x8 ≤ 2147483647) (k11 : 0 ≤ x11 ∧ x11 ≤ 71) (k12 : 0 ≤ x12 ∧ x12 ≤ 600000000) (k14 : (-1) ≤ x14 ∧ x14 ≤ 1) (k15 : (-1) ≤ x15 ∧ x15 ≤ 600000001) (k17 : 0 ≤ x17 ∧ x17 ≤ 71) (k18 : (-2147483648) ≤ x18 ∧ x18 ≤ 600000000) (k19 : 0 ≤ x19 ∧ x19 ≤ 71) (k20 : 0 ≤ x20 ∧ x20 ≤ 71) (k21 : (-2147483648) ≤ x21 ∧ x21 ≤ 2147483647) (k22 : (-20) ≤ x22 ∧ x22 ≤ 20) (d0 : x18 + 1 ≤ x15 ∧ x15 ≤ x18 + 4294967296) (d1 : x14 + 0 ≤ x15 ∧ x15 ≤ x14 + 600000000) (d2 : x12 + (-1) ≤ x15 ∧ x15 ≤ x12 + 1) (d3 : x6 + (-4294967296) ≤ x5 ∧ x5 ≤ x6 + (-1)) (d4 : x5 + (-4294967296) ≤ x4 ∧ x4 ≤ x5 + 0) (h0 : x22 = gain_0 (x5)) (h2 : x21 = place_0 (x20)) (h3 : x20 = from_0 (x5)) (h6 : x19 = to_0 (x5)) (f8 : x18 < x15) (h9 : x18 = place_0 (x17)) (h10 : x17 = to_0 (x5)) (f11 : x15 = x12 + x14) (h12 : x14 = gain_0 (x5)) (h13 : x12 = place_0 (x11)) (h14 : x11 = from_0 (x5)) (f15 : 0 < x8) (h16 : x8 = room_0 (x5)) (f18 : x5 < x6) (g19 : x6 = arcs_0) (f20 : RAI (nodes_0) (arcs_0) (from_0) (to_0) (room_0) (gain_0) (place_0) (by_0) (x1) (x5) (x4)) (f21 : PBW (nodes_0) (place_0) (x2) (x1) (x5)) (f22 : x5 ≤ arcs_0) (hK_0_2 : ∀ j : Int, 0 ≤ j → j < 384 → 0 ≤ from_0 j ∧ from_0 j ≤ 71) (hK_0_3 : ∀ j : Int, 0 ≤ j → j < 384 → 0 ≤ to_0 j ∧ to_0 j ≤ 71) (hK_0_4 : ∀ j : Int, 0 ≤ j → j < 384 → (-2147483648) ≤ room_0 j ∧ room_0 j ≤ 2147483647) (hK_0_5 : ∀ j : Int, 0 ≤ j → j < 384 → (-20) ≤ gain_0 j ∧ gain_0 j ≤ 20) (hK_0_6 : ∀ j : Int, 0 ≤ j → j < 72 → (-2147483648) ≤ place_0 j ∧ place_0 j ≤ 2147483647) (hK_0_7 : ∀ j : Int, 0 ≤ j → j < 72 → (-1) ≤ by_0 j ∧ by_0 j ≤ 383) (kz_0_0 : 0 ≤ nodes_0 ∧ nodes_0 ≤ 72) (kz_0_1 : 0 ≤ arcs_0 ∧ arcs_0 ≤ 384) : 0 ≤ x21 ∧ x21 ≤ 600000000 := by
  first | subst h0 | skip
  first | subst h2 | skip
  first | subst h3 | skip
  first | subst h6 | skip
  first | subst h9 | skip
  first | subst h10 | skip
  first | subst h12 | skip
  first | subst h13 | skip
  first | subst h14 | skip
  first | subst h16 | skip
  have r := (‹RAI _ _ _ _ _ _ _ _ _ _ _›).1.2.2.2.2
  have r0 := (‹RAI _ _ _ _ _ _ _ _ _ _ _›).2.2.1
  have r1 := r x5 (by omega) (by omega)
  have b := ‹PBW _ _ _ _ _› (from_0 x5) r1.1 r1.2.1
  have a := (‹RAI _ _ _ _ _ _ _ _ _ _ _›).1.2.2.2.1
  omega
set_option maxHeartbeats 4000000 in
theorem vc_St_raise_at_gl_5_r1 (x1 : Int) (x2 : Int) (x4 : Int) (x5 : Int) (x6 : Int) (x8 : Int) (x11 : Int) (x12 : Int) (x14 : Int) (x15 : Int) (x17 : Int) (x18 : Int) (x19 : Int) (x20 : Int) (x21 : Int) (x22 : Int) (gain_0 : Int → Int) (place_0 : Int → Int) (from_0 : Int → Int) (to_0 : Int → Int) (room_0 : Int → Int) (arcs_0 : Int) (by_0 : Int → Int) (nodes_0 : Int) (k1 : 0 ≤ x1 ∧ x1 ≤ 288) (k2 : 0 ≤ x2 ∧ x2 ≤ 9999) (k4 : 0 ≤ x4 ∧ x4 ≤ 1) (k5 : 0 ≤ x5 ∧ x5 ≤ 383) (k6 : 1 ≤ x6 ∧ x6 ≤ 384) (k8 : 1 ≤ x8 ∧ x8 ≤ 2147483647) (k11 : 0 ≤ x11 ∧ x11 ≤ 71) (k12 : 0 ≤ x12 ∧ x12 ≤ 600000000) (k14 : (-1) ≤ x14 ∧ x14 ≤ 1) (k15 : (-1) ≤ x15 ∧ x15 ≤ 600000001) (k17 : 0 ≤ x17 ∧ x17 ≤ 71) (k18 : (-2147483648) ≤ x18 ∧ x18 ≤ 600000000) (k19 : 0 ≤ x19 ∧ x19 ≤ 71) (k20 : 0 ≤ x20 ∧ x20 ≤ 71) (k21 : (-2147483648) ≤ x21 ∧ x21 ≤ 2147483647) (k22 : (-20) ≤ x22 ∧ x22 ≤ 20) (d0 : x18 + 1 ≤ x15 ∧ x15 ≤ x18 + 4294967296) (d1 : x14 + 0 ≤ x15 ∧ x15 ≤ x14 + 600000000) (d2 : x12 + (-1) ≤ x15 ∧ x15 ≤ x12 + 1) (d3 : x6 + (-4294967296) ≤ x5 ∧ x5 ≤ x6 + (-1)) (d4 : x5 + (-4294967296) ≤ x4 ∧ x4 ≤ x5 + 0) (h0 : x22 = gain_0 (x5)) (h2 : x21 = place_0 (x20)) (h3 : x20 = from_0 (x5)) (h6 : x19 = to_0 (x5)) (f8 : x18 < x15) (h9 : x18 = place_0 (x17)) (h10 : x17 = to_0 (x5)) (f11 : x15 = x12 + x14) (h12 : x14 = gain_0 (x5)) (h13 : x12 = place_0 (x11)) (h14 : x11 = from_0 (x5)) (f15 : 0 < x8) (h16 : x8 = room_0 (x5)) (f18 : x5 < x6) (g19 : x6 = arcs_0) (f20 : RAI (nodes_0) (arcs_0) (from_0) (to_0) (room_0) (gain_0) (place_0) (by_0) (x1) (x5) (x4)) (f21 : PBW (nodes_0) (place_0) (x2) (x1) (x5)) (f22 : x5 ≤ arcs_0) (hK_0_2 : ∀ j : Int, 0 ≤ j → j < 384 → 0 ≤ from_0 j ∧ from_0 j ≤ 71) (hK_0_3 : ∀ j : Int, 0 ≤ j → j < 384 → 0 ≤ to_0 j ∧ to_0 j ≤ 71) (hK_0_4 : ∀ j : Int, 0 ≤ j → j < 384 → (-2147483648) ≤ room_0 j ∧ room_0 j ≤ 2147483647) (hK_0_5 : ∀ j : Int, 0 ≤ j → j < 384 → (-20) ≤ gain_0 j ∧ gain_0 j ≤ 20) (hK_0_6 : ∀ j : Int, 0 ≤ j → j < 72 → (-2147483648) ≤ place_0 j ∧ place_0 j ≤ 2147483647) (hK_0_7 : ∀ j : Int, 0 ≤ j → j < 72 → (-1) ≤ by_0 j ∧ by_0 j ≤ 383) (kz_0_0 : 0 ≤ nodes_0 ∧ nodes_0 ≤ 72) (kz_0_1 : 0 ≤ arcs_0 ∧ arcs_0 ≤ 384) : (-1) ≤ x22 ∧ x22 ≤ 1 := by
  first | subst h0 | skip
  first | subst h2 | skip
  first | subst h3 | skip
  first | subst h6 | skip
  first | subst h9 | skip
  first | subst h10 | skip
  first | subst h12 | skip
  first | subst h13 | skip
  first | subst h14 | skip
  first | subst h16 | skip
  have r := (‹RAI _ _ _ _ _ _ _ _ _ _ _›).1.2.2.2.2
  have r0 := (‹RAI _ _ _ _ _ _ _ _ _ _ _›).2.2.1
  have r1 := r x5 (by omega) (by omega)
  have b := ‹PBW _ _ _ _ _› (from_0 x5) r1.1 r1.2.1
  have a := (‹RAI _ _ _ _ _ _ _ _ _ _ _›).1.2.2.2.1
  omega
def o_St_raise_at_gl_5 : or_T := (80, 23, [(0, (2, 0, 0, [10])), (1, (0, 0, 288, [])), (2, (0, 0, 9999, [])), (3, (2, 0, 0, [10])), (4, (0, 0, 1, [])), (5, (0, 0, 383, [])), (6, (0, 1, 384, [])), (7, (2, 0, 0, [120])), (8, (0, 1, 2147483647, [])), (9, (2, 0, 0, [122])), (10, (2, 0, 0, [118])), (11, (0, 0, 71, [])), (12, (0, 0, 600000000, [])), (13, (2, 0, 0, [121])), (14, (0, -1, 1, [])), (15, (0, -1, 600000001, [])), (16, (2, 0, 0, [119])), (17, (0, 0, 71, [])), (18, (0, -2147483648, 600000000, [])), (19, (0, 0, 71, [])), (20, (0, 0, 71, [])), (21, (0, -2147483648, 2147483647, [])), (22, (0, -20, 20, []))], [(10, [22, 13, 5], []), (9, [13, 3], [5]), (10, [21, 9, 20], []), (10, [20, 10, 5], []), (9, [10, 3], [2]), (9, [9, 3], [6]), (10, [19, 16, 5], []), (9, [16, 3], [3]), (7, [15, 18], [4]), (10, [18, 9, 17], []), (10, [17, 16, 5], []), (1, [15, 12, 14], []), (10, [14, 13, 5], []), (10, [12, 9, 11], []), (10, [11, 10, 5], []), (8, [8], [4]), (10, [8, 7, 5], []), (9, [7, 3], [4]), (7, [5, 6], [2]), (9, [6, 3], [1]), (20, [3, 1, 5, 4], [60, 2, 6, 517, 0, 1, 2, 3, 4, 5, 6, 7]), (20, [3, 2, 1, 5], [60, 1, 1, 519, 0, 6]), (20, [5, 3], [50, 1, 0, 1001, 0, 2, 1, 0, 2, 1, 1]), (24, [0, 3], [])], [(21, (0, 0, 600000000, [])), (22, (0, -1, 1, []))], [], [], [], [(15, 18, 1, 4294967296), (15, 14, 0, 600000000), (15, 12, -1, 1), (5, 6, -4294967296, -1), (4, 5, -4294967296, 0)])
theorem oo_St_raise_at_gl_5 {kA : Nat → ClassId} : or_ok PRD kA GG o_St_raise_at_gl_5 := by
  refine or_mk fun A ta ws vs hD hth hl => ?_
  intro t0 r0 t1 k1 t2 k2 t3 r3 t4 k4 t5 k5 t6 k6 t7 r7 t8 k8 t9 r9 t10 r10 t11 k11 t12 k12 t13 r13 t14 k14 t15 k15 t16 r16 t17 k17 t18 k18 t19 k19 t20 k20 t21 k21 t22 k22 d0 d1 d2 d3 d4 f0 f1 f2 f3 f4 f5 f6 f7 f8 f9 f10 f11 f12 f13 f14 f15 f16 f17 f18 f19 f20 f21 f22 f23
  replace f0 := shm_107 f0
  replace f1 := shm_110 f1
  replace f2 := shm_107 f2
  replace f3 := shm_107 f3
  replace f4 := shm_120 f4
  replace f5 := shm_111 f5
  replace f6 := shm_107 f6
  replace f7 := shm_137 f7
  replace f9 := shm_107 f9
  replace f10 := shm_107 f10
  replace f12 := shm_107 f12
  replace f13 := shm_107 f13
  replace f14 := shm_107 f14
  replace f16 := shm_107 f16
  replace f17 := shm_108 f17
  replace f19 := shm_215 f19
  replace f20 := shm_481 f20
  replace f21 := shm_482 f21
  replace f22 := shm_483 f22
  replace f23 := shm_5 f23
  have q3 : n_v vs 3 = n_v vs 0 := f23.symm
  simp only [q3] at f1 f4 f5 f7 f17 f19 f20 f21 f22
  have cr_0_2 := fdq_108 hD hth r0
  have cr_0_3 := fdq_109 hD hth r0
  have cr_0_4 := fdq_110 hD hth r0
  have cr_0_5 := fdq_111 hD hth r0
  have cr_0_6 := fdq_115 hD hth r0
  have cr_0_7 := fdq_116 hD hth r0
  have ad_13 : v_ad (n_v vs 13) = w_ar ws (n_v vs 0) 5 := congrArg v_ad f1
  have ad_10 : v_ad (n_v vs 10) = w_ar ws (n_v vs 0) 2 := congrArg v_ad f4
  have ad_9 : v_ad (n_v vs 9) = w_ar ws (n_v vs 0) 6 := congrArg v_ad f5
  have ad_16 : v_ad (n_v vs 16) = w_ar ws (n_v vs 0) 3 := congrArg v_ad f7
  have ad_7 : v_ad (n_v vs 7) = w_ar ws (n_v vs 0) 4 := congrArg v_ad f17
  simp only [ad_13] at f0
  have h0 : v_iv (n_v vs 22) = w_ei ws (w_ar ws (n_v vs 0) 5) (v_iv (n_v vs 5)) := f0
  simp only [ad_9] at f2
  have h2 : v_iv (n_v vs 21) = w_ei ws (w_ar ws (n_v vs 0) 6) (v_iv (n_v vs 20)) := f2
  simp only [ad_10] at f3
  have h3 : v_iv (n_v vs 20) = w_ei ws (w_ar ws (n_v vs 0) 2) (v_iv (n_v vs 5)) := f3
  simp only [ad_16] at f6
  have h6 : v_iv (n_v vs 19) = w_ei ws (w_ar ws (n_v vs 0) 3) (v_iv (n_v vs 5)) := f6
  simp only [ad_9] at f9
  have h9 : v_iv (n_v vs 18) = w_ei ws (w_ar ws (n_v vs 0) 6) (v_iv (n_v vs 17)) := f9
  simp only [ad_16] at f10
  have h10 : v_iv (n_v vs 17) = w_ei ws (w_ar ws (n_v vs 0) 3) (v_iv (n_v vs 5)) := f10
  simp only [ad_13] at f12
  have h12 : v_iv (n_v vs 14) = w_ei ws (w_ar ws (n_v vs 0) 5) (v_iv (n_v vs 5)) := f12
  simp only [ad_9] at f13
  have h13 : v_iv (n_v vs 12) = w_ei ws (w_ar ws (n_v vs 0) 6) (v_iv (n_v vs 11)) := f13
  simp only [ad_10] at f14
  have h14 : v_iv (n_v vs 11) = w_ei ws (w_ar ws (n_v vs 0) 2) (v_iv (n_v vs 5)) := f14
  simp only [ad_7] at f16
  have h16 : v_iv (n_v vs 8) = w_ei ws (w_ar ws (n_v vs 0) 4) (v_iv (n_v vs 5)) := f16
  have g19 : v_iv (n_v vs 6) = w_fi ws (n_v vs 0) 1 := congrArg v_iv f19
  have hK_0_2 := elq_53 hD hth cr_0_2
  have hK_0_3 := elq_54 hD hth cr_0_3
  have hK_0_4 := elq_55 hD hth cr_0_4
  have hK_0_5 := elq_56 hD hth cr_0_5
  have hK_0_6 := elq_58 hD hth cr_0_6
  have hK_0_7 := elq_59 hD hth cr_0_7
  have kz_0_0 := fdq_114 hD hth r0
  have kz_0_1 := fdq_113 hD hth r0
  have hrf0 : 0 ≤ v_iv (n_v vs 21) ∧ v_iv (n_v vs 21) ≤ 600000000 := vc_St_raise_at_gl_5_r0 (v_iv (n_v vs 1)) (v_iv (n_v vs 2)) (v_iv (n_v vs 4)) (v_iv (n_v vs 5)) (v_iv (n_v vs 6)) (v_iv (n_v vs 8)) (v_iv (n_v vs 11)) (v_iv (n_v vs 12)) (v_iv (n_v vs 14)) (v_iv (n_v vs 15)) (v_iv (n_v vs 17)) (v_iv (n_v vs 18)) (v_iv (n_v vs 19)) (v_iv (n_v vs 20)) (v_iv (n_v vs 21)) (v_iv (n_v vs 22)) (w_ei ws (w_ar ws (n_v vs 0) 5)) (w_ei ws (w_ar ws (n_v vs 0) 6)) (w_ei ws (w_ar ws (n_v vs 0) 2)) (w_ei ws (w_ar ws (n_v vs 0) 3)) (w_ei ws (w_ar ws (n_v vs 0) 4)) (w_fi ws (n_v vs 0) 1) (w_ei ws (w_ar ws (n_v vs 0) 7)) (w_fi ws (n_v vs 0) 0) k1 k2 k4 k5 k6 k8 k11 k12 k14 k15 k17 k18 k19 k20 k21 k22 d0 d1 d2 d3 d4 h0 h2 h3 h6 (shm_21 f8) h9 h10 (shm_12 f11) h12 h13 h14 (shm_308 f15) h16 (shm_6 f18) g19 f20 f21 f22 hK_0_2 hK_0_3 hK_0_4 hK_0_5 hK_0_6 hK_0_7 kz_0_0 kz_0_1
  have hrf1 : (-1) ≤ v_iv (n_v vs 22) ∧ v_iv (n_v vs 22) ≤ 1 := vc_St_raise_at_gl_5_r1 (v_iv (n_v vs 1)) (v_iv (n_v vs 2)) (v_iv (n_v vs 4)) (v_iv (n_v vs 5)) (v_iv (n_v vs 6)) (v_iv (n_v vs 8)) (v_iv (n_v vs 11)) (v_iv (n_v vs 12)) (v_iv (n_v vs 14)) (v_iv (n_v vs 15)) (v_iv (n_v vs 17)) (v_iv (n_v vs 18)) (v_iv (n_v vs 19)) (v_iv (n_v vs 20)) (v_iv (n_v vs 21)) (v_iv (n_v vs 22)) (w_ei ws (w_ar ws (n_v vs 0) 5)) (w_ei ws (w_ar ws (n_v vs 0) 6)) (w_ei ws (w_ar ws (n_v vs 0) 2)) (w_ei ws (w_ar ws (n_v vs 0) 3)) (w_ei ws (w_ar ws (n_v vs 0) 4)) (w_fi ws (n_v vs 0) 1) (w_ei ws (w_ar ws (n_v vs 0) 7)) (w_fi ws (n_v vs 0) 0) k1 k2 k4 k5 k6 k8 k11 k12 k14 k15 k17 k18 k19 k20 k21 k22 d0 d1 d2 d3 d4 h0 h2 h3 h6 (shm_21 f8) h9 h10 (shm_12 f11) h12 h13 h14 (shm_308 f15) h16 (shm_6 f18) g19 f20 f21 f22 hK_0_2 hK_0_3 hK_0_4 hK_0_5 hK_0_6 hK_0_7 kz_0_0 kz_0_1
  have rf21 : tv_ok ta (0, 0, 600000000, []) (n_v vs 21) := tv_in t21 (by first | omega | grind) (by first | omega | grind)
  have rf22 : tv_ok ta (0, -1, 1, []) (n_v vs 22) := tv_in t22 (by first | omega | grind) (by first | omega | grind)
  refine ⟨List.forall_mem_cons.mpr ⟨rf21, List.forall_mem_cons.mpr ⟨rf22, (fun _ h => (by cases h))⟩⟩, [], trivial, ?_, (fun _ h => (by cases h))⟩
  rw [List.append_nil]
  exact (fun _ h => (by cases h))
set_option maxHeartbeats 4000000 in
theorem vc_St_raise_at_gl_6_0 (x1 : Int) (x2 : Int) (x4 : Int) (x5 : Int) (x6 : Int) (x8 : Int) (x11 : Int) (x12 : Int) (x14 : Int) (x15 : Int) (x17 : Int) (x18 : Int) (x19 : Int) (x20 : Int) (x21 : Int) (x22 : Int) (x23 : Int) (x25 : Int) (x26 : Int) (x27 : Int) (arcs_0 : Int) (to_1 : Int → Int) (arcs_1 : Int) (gain_2 : Int → Int) (place_2 : Int → Int) (from_2 : Int → Int) (to_2 : Int → Int) (room_2 : Int → Int) (arcs_2 : Int) (by_2 : Int → Int) (nodes_2 : Int) (nodes_0 : Int) (nodes_1 : Int) (from_0 : Int → Int) (from_1 : Int → Int) (to_0 : Int → Int) (room_0 : Int → Int) (room_1 : Int → Int) (gain_0 : Int → Int) (gain_1 : Int → Int) (place_0 : Int → Int) (place_1 : Int → Int) (by_0 : Int → Int) (by_1 : Int → Int) (k1 : 0 ≤ x1 ∧ x1 ≤ 288) (k2 : 0 ≤ x2 ∧ x2 ≤ 9999) (k4 : 0 ≤ x4 ∧ x4 ≤ 1) (k5 : 0 ≤ x5 ∧ x5 ≤ 383) (k6 : 1 ≤ x6 ∧ x6 ≤ 384) (k8 : 1 ≤ x8 ∧ x8 ≤ 2147483647) (k11 : 0 ≤ x11 ∧ x11 ≤ 71) (k12 : 0 ≤ x12 ∧ x12 ≤ 600000000) (k14 : (-1) ≤ x14 ∧ x14 ≤ 1) (k15 : (-1) ≤ x15 ∧ x15 ≤ 600000001) (k17 : 0 ≤ x17 ∧ x17 ≤ 71) (k18 : (-2147483648) ≤ x18 ∧ x18 ≤ 600000000) (k19 : 0 ≤ x19 ∧ x19 ≤ 71) (k20 : 0 ≤ x20 ∧ x20 ≤ 71) (k21 : 0 ≤ x21 ∧ x21 ≤ 600000000) (k22 : (-1) ≤ x22 ∧ x22 ≤ 1) (k23 : (-1) ≤ x23 ∧ x23 ≤ 600000001) (k25 : 0 ≤ x25 ∧ x25 ≤ 71) (k26 : 1 ≤ x26 ∧ x26 ≤ 1) (k27 : 1 ≤ x27 ∧ x27 ≤ 384) (d0 : x5 + 1 ≤ x27 ∧ x27 ≤ x5 + 1) (d1 : x6 + (-4294967296) ≤ x27 ∧ x27 ≤ x6 + 0) (d2 : x22 + 0 ≤ x23 ∧ x23 ≤ x22 + 600000000) (d3 : x21 + (-1) ≤ x23 ∧ x23 ≤ x21 + 1) (d4 : x18 + 1 ≤ x15 ∧ x15 ≤ x18 + 4294967296) (d5 : x14 + 0 ≤ x15 ∧ x15 ≤ x14 + 600000000) (d6 : x12 + (-1) ≤ x15 ∧ x15 ≤ x12 + 1) (d7 : x6 + (-4294967296) ≤ x5 ∧ x5 ≤ x6 + (-1)) (d8 : x5 + (-4294967296) ≤ x4 ∧ x4 ≤ x5 + 0) (f0 : x27 = x5 + 1) (f1 : x5 ≤ arcs_0) (h4 : x25 = to_1 (x5)) (f7 : x5 ≤ arcs_1) (f9 : x23 = x21 + x22) (h10 : x22 = gain_2 (x5)) (h12 : x21 = place_2 (x20)) (h13 : x20 = from_2 (x5)) (h16 : x19 = to_2 (x5)) (f17 : x18 < x15) (h18 : x18 = place_2 (x17)) (h19 : x17 = to_2 (x5)) (f20 : x15 = x12 + x14) (h21 : x14 = gain_2 (x5)) (h22 : x12 = place_2 (x11)) (h23 : x11 = from_2 (x5)) (f24 : 0 < x8) (h25 : x8 = room_2 (x5)) (f27 : x5 < x6) (g28 : x6 = arcs_2) (f29 : RAI (nodes_2) (arcs_2) (from_2) (to_2) (room_2) (gain_2) (place_2) (by_2) (x1) (x5) (x4)) (f30 : PBW (nodes_2) (place_2) (x2) (x1) (x5)) (f31 : x5 ≤ arcs_2) (fe_0_0_1 : nodes_0 = nodes_1) (fe_0_1_1 : arcs_0 = arcs_1) (fe_0_0_2 : nodes_1 = nodes_2) (fe_0_1_2 : arcs_1 = arcs_2) (hE_0_2_1 : ∀ j : Int, from_0 j = from_1 j) (hE_0_2_2 : ∀ j : Int, from_1 j = from_2 j) (hK_0_2 : ∀ j : Int, 0 ≤ j → j < 384 → 0 ≤ from_0 j ∧ from_0 j ≤ 71) (hE_0_3_1 : ∀ j : Int, to_0 j = to_1 j) (hE_0_3_2 : ∀ j : Int, to_1 j = to_2 j) (hK_0_3 : ∀ j : Int, 0 ≤ j → j < 384 → 0 ≤ to_0 j ∧ to_0 j ≤ 71) (hE_0_4_1 : ∀ j : Int, room_0 j = room_1 j) (hE_0_4_2 : ∀ j : Int, room_1 j = room_2 j) (hK_0_4 : ∀ j : Int, 0 ≤ j → j < 384 → (-2147483648) ≤ room_0 j ∧ room_0 j ≤ 2147483647) (hE_0_5_1 : ∀ j : Int, gain_0 j = gain_1 j) (hE_0_5_2 : ∀ j : Int, gain_1 j = gain_2 j) (hK_0_5 : ∀ j : Int, 0 ≤ j → j < 384 → (-20) ≤ gain_0 j ∧ gain_0 j ≤ 20) (hE_0_6_1 : ∀ j : Int, place_0 j = place_1 j) (hE_0_6_2 : ∀ j : Int, 0 ≤ j → (j = x19 → place_1 j = x23) ∧ (j ≠ x19 → place_1 j = place_2 j)) (hK_0_6 : ∀ j : Int, 0 ≤ j → j < 72 → (-2147483648) ≤ place_0 j ∧ place_0 j ≤ 2147483647) (hE_0_7_1 : ∀ j : Int, 0 ≤ j → (j = x25 → by_0 j = x5) ∧ (j ≠ x25 → by_0 j = by_1 j)) (hE_0_7_2 : ∀ j : Int, by_1 j = by_2 j) (hK_0_7 : ∀ j : Int, 0 ≤ j → j < 72 → (-1) ≤ by_0 j ∧ by_0 j ≤ 383) (kz_0_0 : 0 ≤ nodes_0 ∧ nodes_0 ≤ 72) (kz_0_1 : 0 ≤ arcs_0 ∧ arcs_0 ≤ 384) : RAI (nodes_0) (arcs_0) (from_0) (to_0) (room_0) (gain_0) (place_0) (by_0) (x1) (x27) (x26) := by
  subst fe_0_0_1
  subst fe_0_1_1
  subst fe_0_0_2
  subst fe_0_1_2
  have e_hE_0_2_1 := funext hE_0_2_1; subst e_hE_0_2_1
  have e_hE_0_2_2 := funext hE_0_2_2; subst e_hE_0_2_2
  have e_hE_0_3_1 := funext hE_0_3_1; subst e_hE_0_3_1
  have e_hE_0_3_2 := funext hE_0_3_2; subst e_hE_0_3_2
  have e_hE_0_4_1 := funext hE_0_4_1; subst e_hE_0_4_1
  have e_hE_0_4_2 := funext hE_0_4_2; subst e_hE_0_4_2
  have e_hE_0_5_1 := funext hE_0_5_1; subst e_hE_0_5_1
  have e_hE_0_5_2 := funext hE_0_5_2; subst e_hE_0_5_2
  have e_hE_0_6_1 := funext hE_0_6_1; subst e_hE_0_6_1
  have e_hE_0_7_2 := funext hE_0_7_2; subst e_hE_0_7_2
  first
    | exact rai_start ‹FRI _ _ _ _ _ _ _ _ _› (by omega) (by omega)
    | (skip; (first | subst h4 | skip); (first | subst h10 | skip); (first | subst h12 | skip); (first | subst h13 | skip); (first | subst h16 | skip); (first | subst h18 | skip); (first | subst h19 | skip); (first | subst h21 | skip); (first | subst h22 | skip); (first | subst h23 | skip); (first | subst h25 | skip); exact rai_skip ‹RAI _ _ _ _ _ _ _ _ _ _ _› (by first | (left; omega) | (right; omega)) (by omega))
    | (skip; (first | subst h4 | skip); (first | subst h10 | skip); (first | subst h12 | skip); (first | subst h13 | skip); (first | subst h16 | skip); (first | subst h18 | skip); (first | subst h19 | skip); (first | subst h21 | skip); (first | subst h22 | skip); (first | subst h23 | skip); (first | subst h25 | skip); exact rai_set ‹RAI _ _ _ _ _ _ _ _ _ _ _› (by assumption) rfl (by omega) (by assumption) rfl rfl (by omega) (by omega) (by omega) (by omega) (by omega))
  
set_option maxHeartbeats 4000000 in
theorem vc_St_raise_at_gl_6_1 (x1 : Int) (x2 : Int) (x4 : Int) (x5 : Int) (x6 : Int) (x8 : Int) (x11 : Int) (x12 : Int) (x14 : Int) (x15 : Int) (x17 : Int) (x18 : Int) (x19 : Int) (x20 : Int) (x21 : Int) (x22 : Int) (x23 : Int) (x25 : Int) (x26 : Int) (x27 : Int) (arcs_0 : Int) (to_1 : Int → Int) (arcs_1 : Int) (gain_2 : Int → Int) (place_2 : Int → Int) (from_2 : Int → Int) (to_2 : Int → Int) (room_2 : Int → Int) (arcs_2 : Int) (by_2 : Int → Int) (nodes_2 : Int) (nodes_0 : Int) (nodes_1 : Int) (from_0 : Int → Int) (from_1 : Int → Int) (to_0 : Int → Int) (room_0 : Int → Int) (room_1 : Int → Int) (gain_0 : Int → Int) (gain_1 : Int → Int) (place_0 : Int → Int) (place_1 : Int → Int) (by_0 : Int → Int) (by_1 : Int → Int) (k1 : 0 ≤ x1 ∧ x1 ≤ 288) (k2 : 0 ≤ x2 ∧ x2 ≤ 9999) (k4 : 0 ≤ x4 ∧ x4 ≤ 1) (k5 : 0 ≤ x5 ∧ x5 ≤ 383) (k6 : 1 ≤ x6 ∧ x6 ≤ 384) (k8 : 1 ≤ x8 ∧ x8 ≤ 2147483647) (k11 : 0 ≤ x11 ∧ x11 ≤ 71) (k12 : 0 ≤ x12 ∧ x12 ≤ 600000000) (k14 : (-1) ≤ x14 ∧ x14 ≤ 1) (k15 : (-1) ≤ x15 ∧ x15 ≤ 600000001) (k17 : 0 ≤ x17 ∧ x17 ≤ 71) (k18 : (-2147483648) ≤ x18 ∧ x18 ≤ 600000000) (k19 : 0 ≤ x19 ∧ x19 ≤ 71) (k20 : 0 ≤ x20 ∧ x20 ≤ 71) (k21 : 0 ≤ x21 ∧ x21 ≤ 600000000) (k22 : (-1) ≤ x22 ∧ x22 ≤ 1) (k23 : (-1) ≤ x23 ∧ x23 ≤ 600000001) (k25 : 0 ≤ x25 ∧ x25 ≤ 71) (k26 : 1 ≤ x26 ∧ x26 ≤ 1) (k27 : 1 ≤ x27 ∧ x27 ≤ 384) (d0 : x5 + 1 ≤ x27 ∧ x27 ≤ x5 + 1) (d1 : x6 + (-4294967296) ≤ x27 ∧ x27 ≤ x6 + 0) (d2 : x22 + 0 ≤ x23 ∧ x23 ≤ x22 + 600000000) (d3 : x21 + (-1) ≤ x23 ∧ x23 ≤ x21 + 1) (d4 : x18 + 1 ≤ x15 ∧ x15 ≤ x18 + 4294967296) (d5 : x14 + 0 ≤ x15 ∧ x15 ≤ x14 + 600000000) (d6 : x12 + (-1) ≤ x15 ∧ x15 ≤ x12 + 1) (d7 : x6 + (-4294967296) ≤ x5 ∧ x5 ≤ x6 + (-1)) (d8 : x5 + (-4294967296) ≤ x4 ∧ x4 ≤ x5 + 0) (f0 : x27 = x5 + 1) (f1 : x5 ≤ arcs_0) (h4 : x25 = to_1 (x5)) (f7 : x5 ≤ arcs_1) (f9 : x23 = x21 + x22) (h10 : x22 = gain_2 (x5)) (h12 : x21 = place_2 (x20)) (h13 : x20 = from_2 (x5)) (h16 : x19 = to_2 (x5)) (f17 : x18 < x15) (h18 : x18 = place_2 (x17)) (h19 : x17 = to_2 (x5)) (f20 : x15 = x12 + x14) (h21 : x14 = gain_2 (x5)) (h22 : x12 = place_2 (x11)) (h23 : x11 = from_2 (x5)) (f24 : 0 < x8) (h25 : x8 = room_2 (x5)) (f27 : x5 < x6) (g28 : x6 = arcs_2) (f29 : RAI (nodes_2) (arcs_2) (from_2) (to_2) (room_2) (gain_2) (place_2) (by_2) (x1) (x5) (x4)) (f30 : PBW (nodes_2) (place_2) (x2) (x1) (x5)) (f31 : x5 ≤ arcs_2) (fe_0_0_1 : nodes_0 = nodes_1) (fe_0_1_1 : arcs_0 = arcs_1) (fe_0_0_2 : nodes_1 = nodes_2) (fe_0_1_2 : arcs_1 = arcs_2) (hE_0_2_1 : ∀ j : Int, from_0 j = from_1 j) (hE_0_2_2 : ∀ j : Int, from_1 j = from_2 j) (hK_0_2 : ∀ j : Int, 0 ≤ j → j < 384 → 0 ≤ from_0 j ∧ from_0 j ≤ 71) (hE_0_3_1 : ∀ j : Int, to_0 j = to_1 j) (hE_0_3_2 : ∀ j : Int, to_1 j = to_2 j) (hK_0_3 : ∀ j : Int, 0 ≤ j → j < 384 → 0 ≤ to_0 j ∧ to_0 j ≤ 71) (hE_0_4_1 : ∀ j : Int, room_0 j = room_1 j) (hE_0_4_2 : ∀ j : Int, room_1 j = room_2 j) (hK_0_4 : ∀ j : Int, 0 ≤ j → j < 384 → (-2147483648) ≤ room_0 j ∧ room_0 j ≤ 2147483647) (hE_0_5_1 : ∀ j : Int, gain_0 j = gain_1 j) (hE_0_5_2 : ∀ j : Int, gain_1 j = gain_2 j) (hK_0_5 : ∀ j : Int, 0 ≤ j → j < 384 → (-20) ≤ gain_0 j ∧ gain_0 j ≤ 20) (hE_0_6_1 : ∀ j : Int, place_0 j = place_1 j) (hE_0_6_2 : ∀ j : Int, 0 ≤ j → (j = x19 → place_1 j = x23) ∧ (j ≠ x19 → place_1 j = place_2 j)) (hK_0_6 : ∀ j : Int, 0 ≤ j → j < 72 → (-2147483648) ≤ place_0 j ∧ place_0 j ≤ 2147483647) (hE_0_7_1 : ∀ j : Int, 0 ≤ j → (j = x25 → by_0 j = x5) ∧ (j ≠ x25 → by_0 j = by_1 j)) (hE_0_7_2 : ∀ j : Int, by_1 j = by_2 j) (hK_0_7 : ∀ j : Int, 0 ≤ j → j < 72 → (-1) ≤ by_0 j ∧ by_0 j ≤ 383) (kz_0_0 : 0 ≤ nodes_0 ∧ nodes_0 ≤ 72) (kz_0_1 : 0 ≤ arcs_0 ∧ arcs_0 ≤ 384) : PBW (nodes_0) (place_0) (x2) (x1) (x27) := by
  subst fe_0_0_1
  subst fe_0_1_1
  subst fe_0_0_2
  subst fe_0_1_2
  have e_hE_0_2_1 := funext hE_0_2_1; subst e_hE_0_2_1
  have e_hE_0_2_2 := funext hE_0_2_2; subst e_hE_0_2_2
  have e_hE_0_3_1 := funext hE_0_3_1; subst e_hE_0_3_1
  have e_hE_0_3_2 := funext hE_0_3_2; subst e_hE_0_3_2
  have e_hE_0_4_1 := funext hE_0_4_1; subst e_hE_0_4_1
  have e_hE_0_4_2 := funext hE_0_4_2; subst e_hE_0_4_2
  have e_hE_0_5_1 := funext hE_0_5_1; subst e_hE_0_5_1
  have e_hE_0_5_2 := funext hE_0_5_2; subst e_hE_0_5_2
  have e_hE_0_6_1 := funext hE_0_6_1; subst e_hE_0_6_1
  have e_hE_0_7_2 := funext hE_0_7_2; subst e_hE_0_7_2
  first
    | exact pbw_up ‹PBT _ _ _ _› (by omega)
    | exact pbw_up ‹PBW _ _ _ _ _› (by omega)
    | (skip; (first | subst h4 | skip); (first | subst h10 | skip); (first | subst h12 | skip); (first | subst h13 | skip); (first | subst h16 | skip); (first | subst h18 | skip); (first | subst h19 | skip); (first | subst h21 | skip); (first | subst h22 | skip); (first | subst h23 | skip); (first | subst h25 | skip); exact pbw_set ‹PBW _ _ _ _ _› (‹RAI _ _ _ _ _ _ _ _ _ _ _›).1 (by assumption) rfl (by omega) (by have := (‹RAI _ _ _ _ _ _ _ _ _ _ _›).2.2.1; omega) (by omega) (by omega) (by omega))
  
set_option maxHeartbeats 4000000 in
theorem vc_St_raise_at_gl_6_2 (x1 : Int) (x2 : Int) (x4 : Int) (x5 : Int) (x6 : Int) (x8 : Int) (x11 : Int) (x12 : Int) (x14 : Int) (x15 : Int) (x17 : Int) (x18 : Int) (x19 : Int) (x20 : Int) (x21 : Int) (x22 : Int) (x23 : Int) (x25 : Int) (x26 : Int) (x27 : Int) (arcs_0 : Int) (to_1 : Int → Int) (arcs_1 : Int) (gain_2 : Int → Int) (place_2 : Int → Int) (from_2 : Int → Int) (to_2 : Int → Int) (room_2 : Int → Int) (arcs_2 : Int) (by_2 : Int → Int) (nodes_2 : Int) (nodes_0 : Int) (nodes_1 : Int) (from_0 : Int → Int) (from_1 : Int → Int) (to_0 : Int → Int) (room_0 : Int → Int) (room_1 : Int → Int) (gain_0 : Int → Int) (gain_1 : Int → Int) (place_0 : Int → Int) (place_1 : Int → Int) (by_0 : Int → Int) (by_1 : Int → Int) (k1 : 0 ≤ x1 ∧ x1 ≤ 288) (k2 : 0 ≤ x2 ∧ x2 ≤ 9999) (k4 : 0 ≤ x4 ∧ x4 ≤ 1) (k5 : 0 ≤ x5 ∧ x5 ≤ 383) (k6 : 1 ≤ x6 ∧ x6 ≤ 384) (k8 : 1 ≤ x8 ∧ x8 ≤ 2147483647) (k11 : 0 ≤ x11 ∧ x11 ≤ 71) (k12 : 0 ≤ x12 ∧ x12 ≤ 600000000) (k14 : (-1) ≤ x14 ∧ x14 ≤ 1) (k15 : (-1) ≤ x15 ∧ x15 ≤ 600000001) (k17 : 0 ≤ x17 ∧ x17 ≤ 71) (k18 : (-2147483648) ≤ x18 ∧ x18 ≤ 600000000) (k19 : 0 ≤ x19 ∧ x19 ≤ 71) (k20 : 0 ≤ x20 ∧ x20 ≤ 71) (k21 : 0 ≤ x21 ∧ x21 ≤ 600000000) (k22 : (-1) ≤ x22 ∧ x22 ≤ 1) (k23 : (-1) ≤ x23 ∧ x23 ≤ 600000001) (k25 : 0 ≤ x25 ∧ x25 ≤ 71) (k26 : 1 ≤ x26 ∧ x26 ≤ 1) (k27 : 1 ≤ x27 ∧ x27 ≤ 384) (d0 : x5 + 1 ≤ x27 ∧ x27 ≤ x5 + 1) (d1 : x6 + (-4294967296) ≤ x27 ∧ x27 ≤ x6 + 0) (d2 : x22 + 0 ≤ x23 ∧ x23 ≤ x22 + 600000000) (d3 : x21 + (-1) ≤ x23 ∧ x23 ≤ x21 + 1) (d4 : x18 + 1 ≤ x15 ∧ x15 ≤ x18 + 4294967296) (d5 : x14 + 0 ≤ x15 ∧ x15 ≤ x14 + 600000000) (d6 : x12 + (-1) ≤ x15 ∧ x15 ≤ x12 + 1) (d7 : x6 + (-4294967296) ≤ x5 ∧ x5 ≤ x6 + (-1)) (d8 : x5 + (-4294967296) ≤ x4 ∧ x4 ≤ x5 + 0) (f0 : x27 = x5 + 1) (f1 : x5 ≤ arcs_0) (h4 : x25 = to_1 (x5)) (f7 : x5 ≤ arcs_1) (f9 : x23 = x21 + x22) (h10 : x22 = gain_2 (x5)) (h12 : x21 = place_2 (x20)) (h13 : x20 = from_2 (x5)) (h16 : x19 = to_2 (x5)) (f17 : x18 < x15) (h18 : x18 = place_2 (x17)) (h19 : x17 = to_2 (x5)) (f20 : x15 = x12 + x14) (h21 : x14 = gain_2 (x5)) (h22 : x12 = place_2 (x11)) (h23 : x11 = from_2 (x5)) (f24 : 0 < x8) (h25 : x8 = room_2 (x5)) (f27 : x5 < x6) (g28 : x6 = arcs_2) (f29 : RAI (nodes_2) (arcs_2) (from_2) (to_2) (room_2) (gain_2) (place_2) (by_2) (x1) (x5) (x4)) (f30 : PBW (nodes_2) (place_2) (x2) (x1) (x5)) (f31 : x5 ≤ arcs_2) (fe_0_0_1 : nodes_0 = nodes_1) (fe_0_1_1 : arcs_0 = arcs_1) (fe_0_0_2 : nodes_1 = nodes_2) (fe_0_1_2 : arcs_1 = arcs_2) (hE_0_2_1 : ∀ j : Int, from_0 j = from_1 j) (hE_0_2_2 : ∀ j : Int, from_1 j = from_2 j) (hK_0_2 : ∀ j : Int, 0 ≤ j → j < 384 → 0 ≤ from_0 j ∧ from_0 j ≤ 71) (hE_0_3_1 : ∀ j : Int, to_0 j = to_1 j) (hE_0_3_2 : ∀ j : Int, to_1 j = to_2 j) (hK_0_3 : ∀ j : Int, 0 ≤ j → j < 384 → 0 ≤ to_0 j ∧ to_0 j ≤ 71) (hE_0_4_1 : ∀ j : Int, room_0 j = room_1 j) (hE_0_4_2 : ∀ j : Int, room_1 j = room_2 j) (hK_0_4 : ∀ j : Int, 0 ≤ j → j < 384 → (-2147483648) ≤ room_0 j ∧ room_0 j ≤ 2147483647) (hE_0_5_1 : ∀ j : Int, gain_0 j = gain_1 j) (hE_0_5_2 : ∀ j : Int, gain_1 j = gain_2 j) (hK_0_5 : ∀ j : Int, 0 ≤ j → j < 384 → (-20) ≤ gain_0 j ∧ gain_0 j ≤ 20) (hE_0_6_1 : ∀ j : Int, place_0 j = place_1 j) (hE_0_6_2 : ∀ j : Int, 0 ≤ j → (j = x19 → place_1 j = x23) ∧ (j ≠ x19 → place_1 j = place_2 j)) (hK_0_6 : ∀ j : Int, 0 ≤ j → j < 72 → (-2147483648) ≤ place_0 j ∧ place_0 j ≤ 2147483647) (hE_0_7_1 : ∀ j : Int, 0 ≤ j → (j = x25 → by_0 j = x5) ∧ (j ≠ x25 → by_0 j = by_1 j)) (hE_0_7_2 : ∀ j : Int, by_1 j = by_2 j) (hK_0_7 : ∀ j : Int, 0 ≤ j → j < 72 → (-1) ≤ by_0 j ∧ by_0 j ≤ 383) (kz_0_0 : 0 ≤ nodes_0 ∧ nodes_0 ≤ 72) (kz_0_1 : 0 ≤ arcs_0 ∧ arcs_0 ≤ 384) : x27 ≤ arcs_0 := by
  subst fe_0_0_1
  subst fe_0_1_1
  subst fe_0_0_2
  subst fe_0_1_2
  have e_hE_0_2_1 := funext hE_0_2_1; subst e_hE_0_2_1
  have e_hE_0_2_2 := funext hE_0_2_2; subst e_hE_0_2_2
  have e_hE_0_3_1 := funext hE_0_3_1; subst e_hE_0_3_1
  have e_hE_0_3_2 := funext hE_0_3_2; subst e_hE_0_3_2
  have e_hE_0_4_1 := funext hE_0_4_1; subst e_hE_0_4_1
  have e_hE_0_4_2 := funext hE_0_4_2; subst e_hE_0_4_2
  have e_hE_0_5_1 := funext hE_0_5_1; subst e_hE_0_5_1
  have e_hE_0_5_2 := funext hE_0_5_2; subst e_hE_0_5_2
  have e_hE_0_6_1 := funext hE_0_6_1; subst e_hE_0_6_1
  have e_hE_0_7_2 := funext hE_0_7_2; subst e_hE_0_7_2
  first
    | (have a := (‹FRI _ _ _ _ _ _ _ _ _›).1.2.2.1; omega)
    | omega
def o_St_raise_at_gl_6 : or_T := (4, 28, [(0, (2, 0, 0, [10])), (1, (0, 0, 288, [])), (2, (0, 0, 9999, [])), (4, (0, 0, 1, [])), (5, (0, 0, 383, [])), (6, (0, 1, 384, [])), (8, (0, 1, 2147483647, [])), (9, (2, 0, 0, [122])), (11, (0, 0, 71, [])), (12, (0, 0, 600000000, [])), (14, (0, -1, 1, [])), (15, (0, -1, 600000001, [])), (17, (0, 0, 71, [])), (18, (0, -2147483648, 600000000, [])), (19, (0, 0, 71, [])), (20, (0, 0, 71, [])), (21, (0, 0, 600000000, [])), (22, (0, -1, 1, [])), (23, (0, -1, 600000001, [])), (24, (2, 0, 0, [123])), (25, (0, 0, 71, [])), (26, (0, 1, 1, [])), (27, (0, 1, 384, []))], [(6, [27, 5], [1]), (20, [5, 3], [50, 1, 0, 1001, 0, 2, 1, 0, 2, 1, 1]), (24, [0, 3], []), (100, [24, 25, 5], []), (10, [25, 16, 5], []), (9, [16, 3], [3]), (9, [24, 3], [7]), (20, [5, 3], [50, 1, 0, 1001, 0, 2, 1, 0, 2, 1, 1]), (100, [9, 19, 23], []), (1, [23, 21, 22], []), (10, [22, 13, 5], []), (9, [13, 3], [5]), (10, [21, 9, 20], []), (10, [20, 10, 5], []), (9, [10, 3], [2]), (9, [9, 3], [6]), (10, [19, 16, 5], []), (7, [15, 18], [4]), (10, [18, 9, 17], []), (10, [17, 16, 5], []), (1, [15, 12, 14], []), (10, [14, 13, 5], []), (10, [12, 9, 11], []), (10, [11, 10, 5], []), (8, [8], [4]), (10, [8, 7, 5], []), (9, [7, 3], [4]), (7, [5, 6], [2]), (9, [6, 3], [1]), (20, [3, 1, 5, 4], [60, 2, 6, 517, 0, 1, 2, 3, 4, 5, 6, 7]), (20, [3, 2, 1, 5], [60, 1, 1, 519, 0, 6]), (20, [5, 3], [50, 1, 0, 1001, 0, 2, 1, 0, 2, 1, 1])], [], [], [(20, [3, 1, 27, 26], [60, 2, 6, 517, 0, 1, 2, 3, 4, 5, 6, 7]), (20, [3, 2, 1, 27], [60, 1, 1, 519, 0, 6]), (20, [27, 3], [50, 1, 0, 1001, 0, 2, 1, 0, 2, 1, 1])], [], [(27, 5, 1, 1), (27, 6, -4294967296, 0), (23, 22, 0, 600000000), (23, 21, -1, 1), (15, 18, 1, 4294967296), (15, 14, 0, 600000000), (15, 12, -1, 1), (5, 6, -4294967296, -1), (4, 5, -4294967296, 0)])
theorem oo_St_raise_at_gl_6 {kA : Nat → ClassId} : or_ok PRD kA GG o_St_raise_at_gl_6 := by
  refine or_mk fun A ta ws vs hD hth hl => ?_
  intro t0 r0 t1 k1 t2 k2 t4 k4 t5 k5 t6 k6 t8 k8 t9 r9 t11 k11 t12 k12 t14 k14 t15 k15 t17 k17 t18 k18 t19 k19 t20 k20 t21 k21 t22 k22 t23 k23 t24 r24 t25 k25 t26 k26 t27 k27 d0 d1 d2 d3 d4 d5 d6 d7 d8 f0 f1 f2 ta1 w1 le1 s1 f4 f5 f6 f7 ta2 w2 le2 s2 f9 f10 f11 f12 f13 f14 f15 f16 f17 f18 f19 f20 f21 f22 f23 f24 f25 f26 f27 f28 f29 f30 f31
  replace f0 := shm_4 f0
  replace f1 := shm_483 f1
  replace f2 := shm_5 f2
  have s1 : (∀ b j, w_el ws b j = if b = v_ad (n_v vs 24) ∧ j = (v_iv (n_v vs 25)).toNat then v_iv (n_v vs 5) else w_el w1 b j) ∧ ∀ b k, w_fd ws b k = w_fd w1 b k := s1.2
  replace f4 := shm_107 f4
  replace f5 := shm_137 f5
  replace f6 := shm_198 f6
  replace f7 := shm_483 f7
  have s2 : (∀ b j, w_el w1 b j = if b = v_ad (n_v vs 9) ∧ j = (v_iv (n_v vs 19)).toNat then v_iv (n_v vs 23) else w_el w2 b j) ∧ ∀ b k, w_fd w1 b k = w_fd w2 b k := s2.2
  replace f9 := shm_12 f9
  replace f10 := shm_107 f10
  replace f11 := shm_110 f11
  replace f12 := shm_107 f12
  replace f13 := shm_107 f13
  replace f14 := shm_120 f14
  replace f15 := shm_111 f15
  replace f16 := shm_107 f16
  replace f17 := shm_21 f17
  replace f18 := shm_107 f18
  replace f19 := shm_107 f19
  replace f20 := shm_12 f20
  replace f21 := shm_107 f21
  replace f22 := shm_107 f22
  replace f23 := shm_107 f23
  replace f24 := shm_308 f24
  replace f25 := shm_107 f25
  replace f26 := shm_108 f26
  replace f27 := shm_6 f27
  replace f28 := shm_215 f28
  replace f29 := shm_481 f29
  replace f30 := shm_482 f30
  replace f31 := shm_483 f31
  have q3 : n_v vs 3 = n_v vs 0 := f2.symm
  simp only [q3] at f1 f5 f6 f7 f11 f14 f15 f26 f28 f29 f30 f31
  have ar_0_2_1 : w_ar w1 (n_v vs 0) 2 = w_ar ws (n_v vs 0) 2 := congrArg v_ad (s1.2 _ _).symm
  have ar_0_2_2 : w_ar w2 (n_v vs 0) 2 = w_ar ws (n_v vs 0) 2 := by rw [← ar_0_2_1]; show v_ad (w_fd w2 _ _) = v_ad (w_fd w1 _ _); rw [s2.2]
  have cr_0_2 := fdq_108 hD hth r0
  have ar_0_3_1 : w_ar w1 (n_v vs 0) 3 = w_ar ws (n_v vs 0) 3 := congrArg v_ad (s1.2 _ _).symm
  have ar_0_3_2 : w_ar w2 (n_v vs 0) 3 = w_ar ws (n_v vs 0) 3 := by rw [← ar_0_3_1]; show v_ad (w_fd w2 _ _) = v_ad (w_fd w1 _ _); rw [s2.2]
  have cr_0_3 := fdq_109 hD hth r0
  have ar_0_4_1 : w_ar w1 (n_v vs 0) 4 = w_ar ws (n_v vs 0) 4 := congrArg v_ad (s1.2 _ _).symm
  have ar_0_4_2 : w_ar w2 (n_v vs 0) 4 = w_ar ws (n_v vs 0) 4 := by rw [← ar_0_4_1]; show v_ad (w_fd w2 _ _) = v_ad (w_fd w1 _ _); rw [s2.2]
  have cr_0_4 := fdq_110 hD hth r0
  have ar_0_5_1 : w_ar w1 (n_v vs 0) 5 = w_ar ws (n_v vs 0) 5 := congrArg v_ad (s1.2 _ _).symm
  have ar_0_5_2 : w_ar w2 (n_v vs 0) 5 = w_ar ws (n_v vs 0) 5 := by rw [← ar_0_5_1]; show v_ad (w_fd w2 _ _) = v_ad (w_fd w1 _ _); rw [s2.2]
  have cr_0_5 := fdq_111 hD hth r0
  have ar_0_6_1 : w_ar w1 (n_v vs 0) 6 = w_ar ws (n_v vs 0) 6 := congrArg v_ad (s1.2 _ _).symm
  have ar_0_6_2 : w_ar w2 (n_v vs 0) 6 = w_ar ws (n_v vs 0) 6 := by rw [← ar_0_6_1]; show v_ad (w_fd w2 _ _) = v_ad (w_fd w1 _ _); rw [s2.2]
  have cr_0_6 := fdq_115 hD hth r0
  have ar_0_7_1 : w_ar w1 (n_v vs 0) 7 = w_ar ws (n_v vs 0) 7 := congrArg v_ad (s1.2 _ _).symm
  have ar_0_7_2 : w_ar w2 (n_v vs 0) 7 = w_ar ws (n_v vs 0) 7 := by rw [← ar_0_7_1]; show v_ad (w_fd w2 _ _) = v_ad (w_fd w1 _ _); rw [s2.2]
  have cr_0_7 := fdq_116 hD hth r0
  have ad_16 : v_ad (n_v vs 16) = w_ar ws (n_v vs 0) 3 := (congrArg v_ad f5).trans ar_0_3_1
  have ad_24 : v_ad (n_v vs 24) = w_ar ws (n_v vs 0) 7 := (congrArg v_ad f6).trans ar_0_7_1
  have ad_13 : v_ad (n_v vs 13) = w_ar ws (n_v vs 0) 5 := (congrArg v_ad f11).trans ar_0_5_2
  have ad_10 : v_ad (n_v vs 10) = w_ar ws (n_v vs 0) 2 := (congrArg v_ad f14).trans ar_0_2_2
  have ad_9 : v_ad (n_v vs 9) = w_ar ws (n_v vs 0) 6 := (congrArg v_ad f15).trans ar_0_6_2
  have ad_7 : v_ad (n_v vs 7) = w_ar ws (n_v vs 0) 4 := (congrArg v_ad f26).trans ar_0_4_2
  simp only [ad_16] at f4
  have h4 : v_iv (n_v vs 25) = w_ei w1 (w_ar ws (n_v vs 0) 3) (v_iv (n_v vs 5)) := f4
  simp only [ad_13] at f10
  have h10 : v_iv (n_v vs 22) = w_ei w2 (w_ar ws (n_v vs 0) 5) (v_iv (n_v vs 5)) := f10
  simp only [ad_9] at f12
  have h12 : v_iv (n_v vs 21) = w_ei w2 (w_ar ws (n_v vs 0) 6) (v_iv (n_v vs 20)) := f12
  simp only [ad_10] at f13
  have h13 : v_iv (n_v vs 20) = w_ei w2 (w_ar ws (n_v vs 0) 2) (v_iv (n_v vs 5)) := f13
  simp only [ad_16] at f16
  have h16 : v_iv (n_v vs 19) = w_ei w2 (w_ar ws (n_v vs 0) 3) (v_iv (n_v vs 5)) := f16
  simp only [ad_9] at f18
  have h18 : v_iv (n_v vs 18) = w_ei w2 (w_ar ws (n_v vs 0) 6) (v_iv (n_v vs 17)) := f18
  simp only [ad_16] at f19
  have h19 : v_iv (n_v vs 17) = w_ei w2 (w_ar ws (n_v vs 0) 3) (v_iv (n_v vs 5)) := f19
  simp only [ad_13] at f21
  have h21 : v_iv (n_v vs 14) = w_ei w2 (w_ar ws (n_v vs 0) 5) (v_iv (n_v vs 5)) := f21
  simp only [ad_9] at f22
  have h22 : v_iv (n_v vs 12) = w_ei w2 (w_ar ws (n_v vs 0) 6) (v_iv (n_v vs 11)) := f22
  simp only [ad_10] at f23
  have h23 : v_iv (n_v vs 11) = w_ei w2 (w_ar ws (n_v vs 0) 2) (v_iv (n_v vs 5)) := f23
  simp only [ad_7] at f25
  have h25 : v_iv (n_v vs 8) = w_ei w2 (w_ar ws (n_v vs 0) 4) (v_iv (n_v vs 5)) := f25
  have g28 : v_iv (n_v vs 6) = w_fi w2 (n_v vs 0) 1 := congrArg v_iv f28
  simp only [ar_0_2_2, ar_0_3_2, ar_0_4_2, ar_0_5_2, ar_0_6_2, ar_0_7_2] at f29 f30
  have fe_0_0_1 : w_fi ws (n_v vs 0) 0 = w_fi w1 (n_v vs 0) 0 := congrArg v_iv (s1.2 _ _)
  have fe_0_1_1 : w_fi ws (n_v vs 0) 1 = w_fi w1 (n_v vs 0) 1 := congrArg v_iv (s1.2 _ _)
  have fe_0_0_2 : w_fi w1 (n_v vs 0) 0 = w_fi w2 (n_v vs 0) 0 := congrArg v_iv (s2.2 _ _)
  have fe_0_1_2 : w_fi w1 (n_v vs 0) 1 = w_fi w2 (n_v vs 0) 1 := congrArg v_iv (s2.2 _ _)
  have hE_0_2_1 : ∀ j : Int, w_ei ws (w_ar ws (n_v vs 0) 2) j = w_ei w1 (w_ar ws (n_v vs 0) 2) j := el_kp s1.1 r24 cr_0_2 (by decide)
  have hE_0_2_2 : ∀ j : Int, w_ei w1 (w_ar ws (n_v vs 0) 2) j = w_ei w2 (w_ar ws (n_v vs 0) 2) j := el_kp s2.1 r9 cr_0_2 (by decide)
  have hK_0_2 := elq_53 hD hth cr_0_2
  have hE_0_3_1 : ∀ j : Int, w_ei ws (w_ar ws (n_v vs 0) 3) j = w_ei w1 (w_ar ws (n_v vs 0) 3) j := el_kp s1.1 r24 cr_0_3 (by decide)
  have hE_0_3_2 : ∀ j : Int, w_ei w1 (w_ar ws (n_v vs 0) 3) j = w_ei w2 (w_ar ws (n_v vs 0) 3) j := el_kp s2.1 r9 cr_0_3 (by decide)
  have hK_0_3 := elq_54 hD hth cr_0_3
  have hE_0_4_1 : ∀ j : Int, w_ei ws (w_ar ws (n_v vs 0) 4) j = w_ei w1 (w_ar ws (n_v vs 0) 4) j := el_kp s1.1 r24 cr_0_4 (by decide)
  have hE_0_4_2 : ∀ j : Int, w_ei w1 (w_ar ws (n_v vs 0) 4) j = w_ei w2 (w_ar ws (n_v vs 0) 4) j := el_kp s2.1 r9 cr_0_4 (by decide)
  have hK_0_4 := elq_55 hD hth cr_0_4
  have hE_0_5_1 : ∀ j : Int, w_ei ws (w_ar ws (n_v vs 0) 5) j = w_ei w1 (w_ar ws (n_v vs 0) 5) j := el_kp s1.1 r24 cr_0_5 (by decide)
  have hE_0_5_2 : ∀ j : Int, w_ei w1 (w_ar ws (n_v vs 0) 5) j = w_ei w2 (w_ar ws (n_v vs 0) 5) j := el_kp s2.1 r9 cr_0_5 (by decide)
  have hK_0_5 := elq_56 hD hth cr_0_5
  have hE_0_6_1 : ∀ j : Int, w_ei ws (w_ar ws (n_v vs 0) 6) j = w_ei w1 (w_ar ws (n_v vs 0) 6) j := el_kp s1.1 r24 cr_0_6 (by decide)
  have hE_0_6_2 : ∀ j : Int, 0 ≤ j → (j = v_iv (n_v vs 19) → w_ei w1 (w_ar ws (n_v vs 0) 6) j = v_iv (n_v vs 23)) ∧ (j ≠ v_iv (n_v vs 19) → w_ei w1 (w_ar ws (n_v vs 0) 6) j = w_ei w2 (w_ar ws (n_v vs 0) 6) j) := fun j hj => ⟨fun h => by unfold w_ei; rw [s2.1, if_pos ⟨ad_9.symm, by rw [h]⟩], fun h => by unfold w_ei; rw [s2.1, if_neg (fun e => h (by have := e.2; omega))]⟩
  have hK_0_6 := elq_58 hD hth cr_0_6
  have hE_0_7_1 : ∀ j : Int, 0 ≤ j → (j = v_iv (n_v vs 25) → w_ei ws (w_ar ws (n_v vs 0) 7) j = v_iv (n_v vs 5)) ∧ (j ≠ v_iv (n_v vs 25) → w_ei ws (w_ar ws (n_v vs 0) 7) j = w_ei w1 (w_ar ws (n_v vs 0) 7) j) := fun j hj => ⟨fun h => by unfold w_ei; rw [s1.1, if_pos ⟨ad_24.symm, by rw [h]⟩], fun h => by unfold w_ei; rw [s1.1, if_neg (fun e => h (by have := e.2; omega))]⟩
  have hE_0_7_2 : ∀ j : Int, w_ei w1 (w_ar ws (n_v vs 0) 7) j = w_ei w2 (w_ar ws (n_v vs 0) 7) j := el_kp s2.1 r9 cr_0_7 (by decide)
  have hK_0_7 := elq_59 hD hth cr_0_7
  have kz_0_0 := fdq_114 hD hth r0
  have kz_0_1 := fdq_113 hD hth r0
  have nf0 : fc_1 PRD (20, [3, 1, 27, 26], [60, 2, 6, 517, 0, 1, 2, 3, 4, 5, 6, 7]) ws (vs) := by
    refine ⟨nf_in hl rfl, sgq_481 ?_⟩
    · show RAI (w_fi ws (n_v vs 3) 0) (w_fi ws (n_v vs 3) 1) (w_ei ws (w_ar ws (n_v vs 3) 2)) (w_ei ws (w_ar ws (n_v vs 3) 3)) (w_ei ws (w_ar ws (n_v vs 3) 4)) (w_ei ws (w_ar ws (n_v vs 3) 5)) (w_ei ws (w_ar ws (n_v vs 3) 6)) (w_ei ws (w_ar ws (n_v vs 3) 7)) (v_iv (n_v vs 1)) (v_iv (n_v vs 27)) (v_iv (n_v vs 26))
      rw [q3]
      exact vc_St_raise_at_gl_6_0 (v_iv (n_v vs 1)) (v_iv (n_v vs 2)) (v_iv (n_v vs 4)) (v_iv (n_v vs 5)) (v_iv (n_v vs 6)) (v_iv (n_v vs 8)) (v_iv (n_v vs 11)) (v_iv (n_v vs 12)) (v_iv (n_v vs 14)) (v_iv (n_v vs 15)) (v_iv (n_v vs 17)) (v_iv (n_v vs 18)) (v_iv (n_v vs 19)) (v_iv (n_v vs 20)) (v_iv (n_v vs 21)) (v_iv (n_v vs 22)) (v_iv (n_v vs 23)) (v_iv (n_v vs 25)) (v_iv (n_v vs 26)) (v_iv (n_v vs 27)) (w_fi ws (n_v vs 0) 1) (w_ei w1 (w_ar ws (n_v vs 0) 3)) (w_fi w1 (n_v vs 0) 1) (w_ei w2 (w_ar ws (n_v vs 0) 5)) (w_ei w2 (w_ar ws (n_v vs 0) 6)) (w_ei w2 (w_ar ws (n_v vs 0) 2)) (w_ei w2 (w_ar ws (n_v vs 0) 3)) (w_ei w2 (w_ar ws (n_v vs 0) 4)) (w_fi w2 (n_v vs 0) 1) (w_ei w2 (w_ar ws (n_v vs 0) 7)) (w_fi w2 (n_v vs 0) 0) (w_fi ws (n_v vs 0) 0) (w_fi w1 (n_v vs 0) 0) (w_ei ws (w_ar ws (n_v vs 0) 2)) (w_ei w1 (w_ar ws (n_v vs 0) 2)) (w_ei ws (w_ar ws (n_v vs 0) 3)) (w_ei ws (w_ar ws (n_v vs 0) 4)) (w_ei w1 (w_ar ws (n_v vs 0) 4)) (w_ei ws (w_ar ws (n_v vs 0) 5)) (w_ei w1 (w_ar ws (n_v vs 0) 5)) (w_ei ws (w_ar ws (n_v vs 0) 6)) (w_ei w1 (w_ar ws (n_v vs 0) 6)) (w_ei ws (w_ar ws (n_v vs 0) 7)) (w_ei w1 (w_ar ws (n_v vs 0) 7)) k1 k2 k4 k5 k6 k8 k11 k12 k14 k15 k17 k18 k19 k20 k21 k22 k23 k25 k26 k27 d0 d1 d2 d3 d4 d5 d6 d7 d8 f0 f1 h4 f7 f9 h10 h12 h13 h16 f17 h18 h19 f20 h21 h22 h23 f24 h25 f27 g28 f29 f30 f31 fe_0_0_1 fe_0_1_1 fe_0_0_2 fe_0_1_2 hE_0_2_1 hE_0_2_2 hK_0_2 hE_0_3_1 hE_0_3_2 hK_0_3 hE_0_4_1 hE_0_4_2 hK_0_4 hE_0_5_1 hE_0_5_2 hK_0_5 hE_0_6_1 hE_0_6_2 hK_0_6 hE_0_7_1 hE_0_7_2 hK_0_7 kz_0_0 kz_0_1
  have nf1 : fc_1 PRD (20, [3, 2, 1, 27], [60, 1, 1, 519, 0, 6]) ws (vs) := by
    refine ⟨nf_in hl rfl, sgq_482 ?_⟩
    · show PBW (w_fi ws (n_v vs 3) 0) (w_ei ws (w_ar ws (n_v vs 3) 6)) (v_iv (n_v vs 2)) (v_iv (n_v vs 1)) (v_iv (n_v vs 27))
      rw [q3]
      exact vc_St_raise_at_gl_6_1 (v_iv (n_v vs 1)) (v_iv (n_v vs 2)) (v_iv (n_v vs 4)) (v_iv (n_v vs 5)) (v_iv (n_v vs 6)) (v_iv (n_v vs 8)) (v_iv (n_v vs 11)) (v_iv (n_v vs 12)) (v_iv (n_v vs 14)) (v_iv (n_v vs 15)) (v_iv (n_v vs 17)) (v_iv (n_v vs 18)) (v_iv (n_v vs 19)) (v_iv (n_v vs 20)) (v_iv (n_v vs 21)) (v_iv (n_v vs 22)) (v_iv (n_v vs 23)) (v_iv (n_v vs 25)) (v_iv (n_v vs 26)) (v_iv (n_v vs 27)) (w_fi ws (n_v vs 0) 1) (w_ei w1 (w_ar ws (n_v vs 0) 3)) (w_fi w1 (n_v vs 0) 1) (w_ei w2 (w_ar ws (n_v vs 0) 5)) (w_ei w2 (w_ar ws (n_v vs 0) 6)) (w_ei w2 (w_ar ws (n_v vs 0) 2)) (w_ei w2 (w_ar ws (n_v vs 0) 3)) (w_ei w2 (w_ar ws (n_v vs 0) 4)) (w_fi w2 (n_v vs 0) 1) (w_ei w2 (w_ar ws (n_v vs 0) 7)) (w_fi w2 (n_v vs 0) 0) (w_fi ws (n_v vs 0) 0) (w_fi w1 (n_v vs 0) 0) (w_ei ws (w_ar ws (n_v vs 0) 2)) (w_ei w1 (w_ar ws (n_v vs 0) 2)) (w_ei ws (w_ar ws (n_v vs 0) 3)) (w_ei ws (w_ar ws (n_v vs 0) 4)) (w_ei w1 (w_ar ws (n_v vs 0) 4)) (w_ei ws (w_ar ws (n_v vs 0) 5)) (w_ei w1 (w_ar ws (n_v vs 0) 5)) (w_ei ws (w_ar ws (n_v vs 0) 6)) (w_ei w1 (w_ar ws (n_v vs 0) 6)) (w_ei ws (w_ar ws (n_v vs 0) 7)) (w_ei w1 (w_ar ws (n_v vs 0) 7)) k1 k2 k4 k5 k6 k8 k11 k12 k14 k15 k17 k18 k19 k20 k21 k22 k23 k25 k26 k27 d0 d1 d2 d3 d4 d5 d6 d7 d8 f0 f1 h4 f7 f9 h10 h12 h13 h16 f17 h18 h19 f20 h21 h22 h23 f24 h25 f27 g28 f29 f30 f31 fe_0_0_1 fe_0_1_1 fe_0_0_2 fe_0_1_2 hE_0_2_1 hE_0_2_2 hK_0_2 hE_0_3_1 hE_0_3_2 hK_0_3 hE_0_4_1 hE_0_4_2 hK_0_4 hE_0_5_1 hE_0_5_2 hK_0_5 hE_0_6_1 hE_0_6_2 hK_0_6 hE_0_7_1 hE_0_7_2 hK_0_7 kz_0_0 kz_0_1
  have nf2 : fc_1 PRD (20, [27, 3], [50, 1, 0, 1001, 0, 2, 1, 0, 2, 1, 1]) ws (vs) := by
    refine ⟨nf_in hl rfl, sgq_483 ?_⟩
    · show v_iv (n_v vs 27) ≤ w_fi ws (n_v vs 3) 1
      rw [q3]
      exact vc_St_raise_at_gl_6_2 (v_iv (n_v vs 1)) (v_iv (n_v vs 2)) (v_iv (n_v vs 4)) (v_iv (n_v vs 5)) (v_iv (n_v vs 6)) (v_iv (n_v vs 8)) (v_iv (n_v vs 11)) (v_iv (n_v vs 12)) (v_iv (n_v vs 14)) (v_iv (n_v vs 15)) (v_iv (n_v vs 17)) (v_iv (n_v vs 18)) (v_iv (n_v vs 19)) (v_iv (n_v vs 20)) (v_iv (n_v vs 21)) (v_iv (n_v vs 22)) (v_iv (n_v vs 23)) (v_iv (n_v vs 25)) (v_iv (n_v vs 26)) (v_iv (n_v vs 27)) (w_fi ws (n_v vs 0) 1) (w_ei w1 (w_ar ws (n_v vs 0) 3)) (w_fi w1 (n_v vs 0) 1) (w_ei w2 (w_ar ws (n_v vs 0) 5)) (w_ei w2 (w_ar ws (n_v vs 0) 6)) (w_ei w2 (w_ar ws (n_v vs 0) 2)) (w_ei w2 (w_ar ws (n_v vs 0) 3)) (w_ei w2 (w_ar ws (n_v vs 0) 4)) (w_fi w2 (n_v vs 0) 1) (w_ei w2 (w_ar ws (n_v vs 0) 7)) (w_fi w2 (n_v vs 0) 0) (w_fi ws (n_v vs 0) 0) (w_fi w1 (n_v vs 0) 0) (w_ei ws (w_ar ws (n_v vs 0) 2)) (w_ei w1 (w_ar ws (n_v vs 0) 2)) (w_ei ws (w_ar ws (n_v vs 0) 3)) (w_ei ws (w_ar ws (n_v vs 0) 4)) (w_ei w1 (w_ar ws (n_v vs 0) 4)) (w_ei ws (w_ar ws (n_v vs 0) 5)) (w_ei w1 (w_ar ws (n_v vs 0) 5)) (w_ei ws (w_ar ws (n_v vs 0) 6)) (w_ei w1 (w_ar ws (n_v vs 0) 6)) (w_ei ws (w_ar ws (n_v vs 0) 7)) (w_ei w1 (w_ar ws (n_v vs 0) 7)) k1 k2 k4 k5 k6 k8 k11 k12 k14 k15 k17 k18 k19 k20 k21 k22 k23 k25 k26 k27 d0 d1 d2 d3 d4 d5 d6 d7 d8 f0 f1 h4 f7 f9 h10 h12 h13 h16 f17 h18 h19 f20 h21 h22 h23 f24 h25 f27 g28 f29 f30 f31 fe_0_0_1 fe_0_1_1 fe_0_0_2 fe_0_1_2 hE_0_2_1 hE_0_2_2 hK_0_2 hE_0_3_1 hE_0_3_2 hK_0_3 hE_0_4_1 hE_0_4_2 hK_0_4 hE_0_5_1 hE_0_5_2 hK_0_5 hE_0_6_1 hE_0_6_2 hK_0_6 hE_0_7_1 hE_0_7_2 hK_0_7 kz_0_0 kz_0_1
  refine ⟨(fun _ h => (by cases h)), [], trivial, ?_, (fun _ h => (by cases h))⟩
  rw [List.append_nil]
  exact List.forall_mem_cons.mpr ⟨⟨show (20 : Nat) < 100 from by decide, nf0⟩, List.forall_mem_cons.mpr ⟨⟨show (20 : Nat) < 100 from by decide, nf1⟩, List.forall_mem_cons.mpr ⟨⟨show (20 : Nat) < 100 from by decide, nf2⟩, (fun _ h => (by cases h))⟩⟩⟩
def n_St_raise_at_gl_an : List an_T := [(4, [(0, (2, 0, 0, [10])), (1, (0, 0, 1, [])), (2, (0, 0, 384, []))], [], (0, 0), [(0, 0, 99996), (1, 5, 384), (0, 0, 100000)], [(4, 5, (Int.negSucc 999999999999), 0)], [], [(2, 0, 0, [10]), (0, 0, 288, []), (0, 0, 9999, [])], 0, [], [(20, [3, 1, 5, 4], [60, 2, 6, 517, 0, 1, 2, 3, 4, 5, 6, 7]), (20, [3, 2, 1, 5], [60, 1, 1, 519, 0, 6]), (20, [5, 3], [50, 1, 0, 1001, 0, 2, 1, 0, 2, 1, 1]), (24, [0, 3], [])])]
def t_St_raise_at_gl_ct : ct_L := []
set_option maxRecDepth 100000 in
theorem c_St_raise_at_gl {l : Launch} {D : va_G} {kA : Nat → ClassId} : ct_ok PRD l D kA GG y_St_raise_at_gl z_St_raise_at_gl e_St_raise_at_gl := chk_all_ok (FT := [(15, 10, 1), (18, 10, 2), (22, 10, 3), (25, 10, 4), (28, 10, 5), (31, 10, 6), (34, 10, 7)]) (PT := []) (CT := t_St_raise_at_gl_ct) (KT := []) (NT := []) (AN := n_St_raise_at_gl_an) (OT := [o_St_raise_at_gl_0, o_St_raise_at_gl_1, o_St_raise_at_gl_2, o_St_raise_at_gl_3, o_St_raise_at_gl_4, o_St_raise_at_gl_5, o_St_raise_at_gl_6]) 3 280 (List.forall_mem_cons.mpr ⟨oo_St_raise_at_gl_0, List.forall_mem_cons.mpr ⟨oo_St_raise_at_gl_1, List.forall_mem_cons.mpr ⟨oo_St_raise_at_gl_2, List.forall_mem_cons.mpr ⟨oo_St_raise_at_gl_3, List.forall_mem_cons.mpr ⟨oo_St_raise_at_gl_4, List.forall_mem_cons.mpr ⟨oo_St_raise_at_gl_5, List.forall_mem_cons.mpr ⟨oo_St_raise_at_gl_6, List.forall_mem_nil _⟩⟩⟩⟩⟩⟩⟩) (by decide +kernel) ⟨List.forall_mem_cons.mpr ⟨gf_St_15, List.forall_mem_cons.mpr ⟨gf_St_18, List.forall_mem_cons.mpr ⟨gf_St_22, List.forall_mem_cons.mpr ⟨gf_St_25, List.forall_mem_cons.mpr ⟨gf_St_28, List.forall_mem_cons.mpr ⟨gf_St_31, List.forall_mem_cons.mpr ⟨gf_St_34, List.forall_mem_nil _⟩⟩⟩⟩⟩⟩⟩, List.forall_mem_nil _, List.forall_mem_nil _, List.forall_mem_nil _, List.forall_mem_nil _, GG_pl⟩ (by decide +kernel)
set_option maxHeartbeats 4000000 in
theorem vc_St_raise_at_gl2_0_0 (x1 : Int) (x2 : Int) (x3 : Int) (from_0 : Int → Int) (to_0 : Int → Int) (room_0 : Int → Int) (gain_0 : Int → Int) (place_0 : Int → Int) (nodes_0 : Int) (arcs_0 : Int) (k1 : 0 ≤ x1 ∧ x1 ≤ 73) (k2 : 0 ≤ x2 ∧ x2 ≤ 0) (k3 : 0 ≤ x3 ∧ x3 ≤ 0) (f0 : FNL (nodes_0) (arcs_0) (from_0) (to_0) (room_0) (gain_0) (place_0) (x1)) (hK_0_2 : ∀ j : Int, 0 ≤ j → j < 384 → 0 ≤ from_0 j ∧ from_0 j ≤ 71) (hK_0_3 : ∀ j : Int, 0 ≤ j → j < 384 → 0 ≤ to_0 j ∧ to_0 j ≤ 71) (hK_0_4 : ∀ j : Int, 0 ≤ j → j < 384 → (-2147483648) ≤ room_0 j ∧ room_0 j ≤ 2147483647) (hK_0_5 : ∀ j : Int, 0 ≤ j → j < 384 → (-20) ≤ gain_0 j ∧ gain_0 j ≤ 20) (hK_0_6 : ∀ j : Int, 0 ≤ j → j < 72 → (-2147483648) ≤ place_0 j ∧ place_0 j ≤ 2147483647) (kz_0_0 : 0 ≤ nodes_0 ∧ nodes_0 ≤ 72) (kz_0_1 : 0 ≤ arcs_0 ∧ arcs_0 ≤ 384) : FNI (nodes_0) (arcs_0) (from_0) (to_0) (room_0) (gain_0) (place_0) (x1) (x3) (x2) := by
  first
    | exact fni_start ‹FNL _ _ _ _ _ _ _ _› (by omega) (by omega)
    | (skip; exact fni_skip ‹FNI _ _ _ _ _ _ _ _ _ _› (by first | (left; omega) | (right; omega)) (by omega))
    | (skip; exact fni_set ‹FNI _ _ _ _ _ _ _ _ _ _› (by assumption) rfl (by omega) (by omega) (by omega) (by omega) (by omega) (by omega))
  
def o_St_raise_at_gl2_0 : or_T := (4, 4, [(0, (2, 0, 0, [10])), (1, (0, 0, 73, [])), (2, (0, 0, 0, [])), (3, (0, 0, 0, []))], [(20, [0, 1], [60, 2, 5, 526, 0, 1, 2, 3, 4, 5, 6])], [], [], [(20, [0, 1, 3, 2], [60, 2, 5, 527, 0, 1, 2, 3, 4, 5, 6]), (24, [0, 0], [])], [], [])
theorem oo_St_raise_at_gl2_0 {kA : Nat → ClassId} : or_ok PRD kA GG o_St_raise_at_gl2_0 := by
  refine or_mk fun A ta ws vs hD hth hl => ?_
  intro t0 r0 t1 k1 t2 k2 t3 k3 f0
  have cr_0_2 := fdq_108 hD hth r0
  have cr_0_3 := fdq_109 hD hth r0
  have cr_0_4 := fdq_110 hD hth r0
  have cr_0_5 := fdq_111 hD hth r0
  have cr_0_6 := fdq_115 hD hth r0
  have hK_0_2 := elq_53 hD hth cr_0_2
  have hK_0_3 := elq_54 hD hth cr_0_3
  have hK_0_4 := elq_55 hD hth cr_0_4
  have hK_0_5 := elq_56 hD hth cr_0_5
  have hK_0_6 := elq_58 hD hth cr_0_6
  have kz_0_0 := fdq_114 hD hth r0
  have kz_0_1 := fdq_113 hD hth r0
  have nf0 : fc_1 PRD (20, [0, 1, 3, 2], [60, 2, 5, 527, 0, 1, 2, 3, 4, 5, 6]) ws (vs) := ⟨nf_in hl rfl, sgq_487 (vc_St_raise_at_gl2_0_0 (v_iv (n_v vs 1)) (v_iv (n_v vs 2)) (v_iv (n_v vs 3)) (w_ei ws (w_ar ws (n_v vs 0) 2)) (w_ei ws (w_ar ws (n_v vs 0) 3)) (w_ei ws (w_ar ws (n_v vs 0) 4)) (w_ei ws (w_ar ws (n_v vs 0) 5)) (w_ei ws (w_ar ws (n_v vs 0) 6)) (w_fi ws (n_v vs 0) 0) (w_fi ws (n_v vs 0) 1) k1 k2 k3 (shm_486 f0) hK_0_2 hK_0_3 hK_0_4 hK_0_5 hK_0_6 kz_0_0 kz_0_1)⟩
  have nf1 : fc_1 PRD (24, [0, 0], []) ws (vs) := by
    refine ⟨nf_in hl rfl, sgq_1 ?_⟩
    · show n_v vs 0 = n_v vs 0
      first | rfl | simp only [true_and]
  refine ⟨(fun _ h => (by cases h)), [], trivial, ?_, (fun _ h => (by cases h))⟩
  rw [List.append_nil]
  exact List.forall_mem_cons.mpr ⟨⟨show (20 : Nat) < 100 from by decide, nf0⟩, List.forall_mem_cons.mpr ⟨⟨show (24 : Nat) < 100 from by decide, nf1⟩, (fun _ h => (by cases h))⟩⟩
set_option maxHeartbeats 4000000 in
theorem vc_St_raise_at_gl2_1_0 (x1 : Int) (x3 : Int) (x4 : Int) (x5 : Int) (arcs_0 : Int) (from_0 : Int → Int) (to_0 : Int → Int) (room_0 : Int → Int) (gain_0 : Int → Int) (place_0 : Int → Int) (nodes_0 : Int) (k1 : 0 ≤ x1 ∧ x1 ≤ 73) (k3 : 0 ≤ x3 ∧ x3 ≤ 1) (k4 : 0 ≤ x4 ∧ x4 ≤ 384) (k5 : 0 ≤ x5 ∧ x5 ≤ 384) (d0 : x5 + 0 ≤ x4 ∧ x4 ≤ x5 + 4294967296) (d1 : x4 + (-4294967296) ≤ x3 ∧ x3 ≤ x4 + 0) (f0 : x5 ≤ x4) (g1 : x5 = arcs_0) (f2 : FNI (nodes_0) (arcs_0) (from_0) (to_0) (room_0) (gain_0) (place_0) (x1) (x4) (x3)) (hK_0_2 : ∀ j : Int, 0 ≤ j → j < 384 → 0 ≤ from_0 j ∧ from_0 j ≤ 71) (hK_0_3 : ∀ j : Int, 0 ≤ j → j < 384 → 0 ≤ to_0 j ∧ to_0 j ≤ 71) (hK_0_4 : ∀ j : Int, 0 ≤ j → j < 384 → (-2147483648) ≤ room_0 j ∧ room_0 j ≤ 2147483647) (hK_0_5 : ∀ j : Int, 0 ≤ j → j < 384 → (-20) ≤ gain_0 j ∧ gain_0 j ≤ 20) (hK_0_6 : ∀ j : Int, 0 ≤ j → j < 72 → (-2147483648) ≤ place_0 j ∧ place_0 j ≤ 2147483647) (kz_0_0 : 0 ≤ nodes_0 ∧ nodes_0 ≤ 72) (kz_0_1 : 0 ≤ arcs_0 ∧ arcs_0 ≤ 384) : FNQ (nodes_0) (arcs_0) (from_0) (to_0) (room_0) (gain_0) (place_0) (x1) (x3) := by
  exact fni_end ‹FNI _ _ _ _ _ _ _ _ _ _› (by omega) (by omega)
def o_St_raise_at_gl2_1 : or_T := (103, 6, [(0, (2, 0, 0, [10])), (1, (0, 0, 73, [])), (3, (0, 0, 1, [])), (4, (0, 0, 384, [])), (5, (0, 0, 384, []))], [(7, [4, 5], [3]), (9, [5, 2], [1]), (20, [2, 1, 4, 3], [60, 2, 5, 527, 0, 1, 2, 3, 4, 5, 6]), (24, [0, 2], [])], [], [], [(20, [0, 1, 3], [60, 2, 5, 528, 0, 1, 2, 3, 4, 5, 6])], [], [(4, 5, 0, 4294967296), (3, 4, -4294967296, 0)])
theorem oo_St_raise_at_gl2_1 {kA : Nat → ClassId} : or_ok PRD kA GG o_St_raise_at_gl2_1 := by
  refine or_mk fun A ta ws vs hD hth hl => ?_
  intro t0 r0 t1 k1 t3 k3 t4 k4 t5 k5 d0 d1 f0 f1 f2 f3
  replace f1 := shm_215 f1
  replace f2 := shm_487 f2
  replace f3 := shm_5 f3
  have q2 : n_v vs 2 = n_v vs 0 := f3.symm
  simp only [q2] at f1 f2
  have cr_0_2 := fdq_108 hD hth r0
  have cr_0_3 := fdq_109 hD hth r0
  have cr_0_4 := fdq_110 hD hth r0
  have cr_0_5 := fdq_111 hD hth r0
  have cr_0_6 := fdq_115 hD hth r0
  have g1 : v_iv (n_v vs 5) = w_fi ws (n_v vs 0) 1 := congrArg v_iv f1
  have hK_0_2 := elq_53 hD hth cr_0_2
  have hK_0_3 := elq_54 hD hth cr_0_3
  have hK_0_4 := elq_55 hD hth cr_0_4
  have hK_0_5 := elq_56 hD hth cr_0_5
  have hK_0_6 := elq_58 hD hth cr_0_6
  have kz_0_0 := fdq_114 hD hth r0
  have kz_0_1 := fdq_113 hD hth r0
  have nf0 : fc_1 PRD (20, [0, 1, 3], [60, 2, 5, 528, 0, 1, 2, 3, 4, 5, 6]) ws (vs) := ⟨nf_in hl rfl, sgq_488 (vc_St_raise_at_gl2_1_0 (v_iv (n_v vs 1)) (v_iv (n_v vs 3)) (v_iv (n_v vs 4)) (v_iv (n_v vs 5)) (w_fi ws (n_v vs 0) 1) (w_ei ws (w_ar ws (n_v vs 0) 2)) (w_ei ws (w_ar ws (n_v vs 0) 3)) (w_ei ws (w_ar ws (n_v vs 0) 4)) (w_ei ws (w_ar ws (n_v vs 0) 5)) (w_ei ws (w_ar ws (n_v vs 0) 6)) (w_fi ws (n_v vs 0) 0) k1 k3 k4 k5 d0 d1 (shm_2 f0) g1 f2 hK_0_2 hK_0_3 hK_0_4 hK_0_5 hK_0_6 kz_0_0 kz_0_1)⟩
  refine ⟨(fun _ h => (by cases h)), [], trivial, ?_, (fun _ h => (by cases h))⟩
  rw [List.append_nil]
  exact List.forall_mem_cons.mpr ⟨⟨show (20 : Nat) < 100 from by decide, nf0⟩, (fun _ h => (by cases h))⟩
set_option maxHeartbeats 4000000 in
theorem vc_St_raise_at_gl2_2_0 (x1 : Int) (x3 : Int) (x4 : Int) (x5 : Int) (x7 : Int) (x8 : Int) (room_0 : Int → Int) (arcs_0 : Int) (from_0 : Int → Int) (to_0 : Int → Int) (gain_0 : Int → Int) (place_0 : Int → Int) (nodes_0 : Int) (k1 : 0 ≤ x1 ∧ x1 ≤ 73) (k3 : 0 ≤ x3 ∧ x3 ≤ 1) (k4 : 0 ≤ x4 ∧ x4 ≤ 383) (k5 : 1 ≤ x5 ∧ x5 ≤ 384) (k7 : (-2147483648) ≤ x7 ∧ x7 ≤ 0) (k8 : 1 ≤ x8 ∧ x8 ≤ 384) (d0 : x4 + 1 ≤ x8 ∧ x8 ≤ x4 + 1) (d1 : x5 + (-4294967296) ≤ x8 ∧ x8 ≤ x5 + 0) (d2 : x5 + (-4294967296) ≤ x4 ∧ x4 ≤ x5 + (-1)) (d3 : x4 + (-4294967296) ≤ x3 ∧ x3 ≤ x4 + 0) (f0 : x8 = x4 + 1) (f1 : x7 ≤ 0) (h2 : x7 = room_0 (x4)) (f4 : x4 < x5) (g5 : x5 = arcs_0) (f6 : FNI (nodes_0) (arcs_0) (from_0) (to_0) (room_0) (gain_0) (place_0) (x1) (x4) (x3)) (hK_0_2 : ∀ j : Int, 0 ≤ j → j < 384 → 0 ≤ from_0 j ∧ from_0 j ≤ 71) (hK_0_3 : ∀ j : Int, 0 ≤ j → j < 384 → 0 ≤ to_0 j ∧ to_0 j ≤ 71) (hK_0_4 : ∀ j : Int, 0 ≤ j → j < 384 → (-2147483648) ≤ room_0 j ∧ room_0 j ≤ 2147483647) (hK_0_5 : ∀ j : Int, 0 ≤ j → j < 384 → (-20) ≤ gain_0 j ∧ gain_0 j ≤ 20) (hK_0_6 : ∀ j : Int, 0 ≤ j → j < 72 → (-2147483648) ≤ place_0 j ∧ place_0 j ≤ 2147483647) (kz_0_0 : 0 ≤ nodes_0 ∧ nodes_0 ≤ 72) (kz_0_1 : 0 ≤ arcs_0 ∧ arcs_0 ≤ 384) : FNI (nodes_0) (arcs_0) (from_0) (to_0) (room_0) (gain_0) (place_0) (x1) (x8) (x3) := by
  first
    | exact fni_start ‹FNL _ _ _ _ _ _ _ _› (by omega) (by omega)
    | (skip; (first | subst h2 | skip); exact fni_skip ‹FNI _ _ _ _ _ _ _ _ _ _› (by first | (left; omega) | (right; omega)) (by omega))
    | (skip; (first | subst h2 | skip); exact fni_set ‹FNI _ _ _ _ _ _ _ _ _ _› (by assumption) rfl (by omega) (by omega) (by omega) (by omega) (by omega) (by omega))
  
def o_St_raise_at_gl2_2 : or_T := (4, 9, [(0, (2, 0, 0, [10])), (1, (0, 0, 73, [])), (3, (0, 0, 1, [])), (4, (0, 0, 383, [])), (5, (0, 1, 384, [])), (7, (0, -2147483648, 0, [])), (8, (0, 1, 384, []))], [(6, [8, 4], [1]), (8, [7], [5]), (10, [7, 6, 4], []), (9, [6, 2], [4]), (7, [4, 5], [2]), (9, [5, 2], [1]), (20, [2, 1, 4, 3], [60, 2, 5, 527, 0, 1, 2, 3, 4, 5, 6]), (24, [0, 2], [])], [], [], [(20, [2, 1, 8, 3], [60, 2, 5, 527, 0, 1, 2, 3, 4, 5, 6])], [], [(8, 4, 1, 1), (8, 5, -4294967296, 0), (4, 5, -4294967296, -1), (3, 4, -4294967296, 0)])
theorem oo_St_raise_at_gl2_2 {kA : Nat → ClassId} : or_ok PRD kA GG o_St_raise_at_gl2_2 := by
  refine or_mk fun A ta ws vs hD hth hl => ?_
  intro t0 r0 t1 k1 t3 k3 t4 k4 t5 k5 t7 k7 t8 k8 d0 d1 d2 d3 f0 f1 f2 f3 f4 f5 f6 f7
  replace f0 := shm_4 f0
  replace f1 := shm_295 f1
  replace f2 := shm_107 f2
  replace f3 := shm_108 f3
  replace f4 := shm_6 f4
  replace f5 := shm_215 f5
  replace f6 := shm_487 f6
  replace f7 := shm_5 f7
  have q2 : n_v vs 2 = n_v vs 0 := f7.symm
  simp only [q2] at f3 f5 f6
  have cr_0_2 := fdq_108 hD hth r0
  have cr_0_3 := fdq_109 hD hth r0
  have cr_0_4 := fdq_110 hD hth r0
  have cr_0_5 := fdq_111 hD hth r0
  have cr_0_6 := fdq_115 hD hth r0
  have ad_6 : v_ad (n_v vs 6) = w_ar ws (n_v vs 0) 4 := congrArg v_ad f3
  simp only [ad_6] at f2
  have h2 : v_iv (n_v vs 7) = w_ei ws (w_ar ws (n_v vs 0) 4) (v_iv (n_v vs 4)) := f2
  have g5 : v_iv (n_v vs 5) = w_fi ws (n_v vs 0) 1 := congrArg v_iv f5
  have hK_0_2 := elq_53 hD hth cr_0_2
  have hK_0_3 := elq_54 hD hth cr_0_3
  have hK_0_4 := elq_55 hD hth cr_0_4
  have hK_0_5 := elq_56 hD hth cr_0_5
  have hK_0_6 := elq_58 hD hth cr_0_6
  have kz_0_0 := fdq_114 hD hth r0
  have kz_0_1 := fdq_113 hD hth r0
  have nf0 : fc_1 PRD (20, [2, 1, 8, 3], [60, 2, 5, 527, 0, 1, 2, 3, 4, 5, 6]) ws (vs) := by
    refine ⟨nf_in hl rfl, sgq_487 ?_⟩
    · show FNI (w_fi ws (n_v vs 2) 0) (w_fi ws (n_v vs 2) 1) (w_ei ws (w_ar ws (n_v vs 2) 2)) (w_ei ws (w_ar ws (n_v vs 2) 3)) (w_ei ws (w_ar ws (n_v vs 2) 4)) (w_ei ws (w_ar ws (n_v vs 2) 5)) (w_ei ws (w_ar ws (n_v vs 2) 6)) (v_iv (n_v vs 1)) (v_iv (n_v vs 8)) (v_iv (n_v vs 3))
      rw [q2]
      exact vc_St_raise_at_gl2_2_0 (v_iv (n_v vs 1)) (v_iv (n_v vs 3)) (v_iv (n_v vs 4)) (v_iv (n_v vs 5)) (v_iv (n_v vs 7)) (v_iv (n_v vs 8)) (w_ei ws (w_ar ws (n_v vs 0) 4)) (w_fi ws (n_v vs 0) 1) (w_ei ws (w_ar ws (n_v vs 0) 2)) (w_ei ws (w_ar ws (n_v vs 0) 3)) (w_ei ws (w_ar ws (n_v vs 0) 5)) (w_ei ws (w_ar ws (n_v vs 0) 6)) (w_fi ws (n_v vs 0) 0) k1 k3 k4 k5 k7 k8 d0 d1 d2 d3 f0 f1 h2 f4 g5 f6 hK_0_2 hK_0_3 hK_0_4 hK_0_5 hK_0_6 kz_0_0 kz_0_1
  refine ⟨(fun _ h => (by cases h)), [], trivial, ?_, (fun _ h => (by cases h))⟩
  rw [List.append_nil]
  exact List.forall_mem_cons.mpr ⟨⟨show (20 : Nat) < 100 from by decide, nf0⟩, (fun _ h => (by cases h))⟩
set_option maxHeartbeats 4000000 in
theorem vc_St_raise_at_gl2_3_r0 (x1 : Int) (x3 : Int) (x4 : Int) (x5 : Int) (x7 : Int) (x10 : Int) (x11 : Int) (x13 : Int) (gain_0 : Int → Int) (place_0 : Int → Int) (from_0 : Int → Int) (room_0 : Int → Int) (arcs_0 : Int) (to_0 : Int → Int) (nodes_0 : Int) (k1 : 0 ≤ x1 ∧ x1 ≤ 73) (k3 : 0 ≤ x3 ∧ x3 ≤ 1) (k4 : 0 ≤ x4 ∧ x4 ≤ 383) (k5 : 1 ≤ x5 ∧ x5 ≤ 384) (k7 : 1 ≤ x7 ∧ x7 ≤ 2147483647) (k10 : 0 ≤ x10 ∧ x10 ≤ 71) (k11 : (-2147483648) ≤ x11 ∧ x11 ≤ 2147483647) (k13 : (-20) ≤ x13 ∧ x13 ≤ 20) (d0 : x5 + (-4294967296) ≤ x4 ∧ x4 ≤ x5 + (-1)) (d1 : x4 + (-4294967296) ≤ x3 ∧ x3 ≤ x4 + 0) (h0 : x13 = gain_0 (x4)) (h2 : x11 = place_0 (x10)) (h3 : x10 = from_0 (x4)) (f6 : 0 < x7) (h7 : x7 = room_0 (x4)) (f9 : x4 < x5) (g10 : x5 = arcs_0) (f11 : FNI (nodes_0) (arcs_0) (from_0) (to_0) (room_0) (gain_0) (place_0) (x1) (x4) (x3)) (hK_0_2 : ∀ j : Int, 0 ≤ j → j < 384 → 0 ≤ from_0 j ∧ from_0 j ≤ 71) (hK_0_3 : ∀ j : Int, 0 ≤ j → j < 384 → 0 ≤ to_0 j ∧ to_0 j ≤ 71) (hK_0_4 : ∀ j : Int, 0 ≤ j → j < 384 → (-2147483648) ≤ room_0 j ∧ room_0 j ≤ 2147483647) (hK_0_5 : ∀ j : Int, 0 ≤ j → j < 384 → (-20) ≤ gain_0 j ∧ gain_0 j ≤ 20) (hK_0_6 : ∀ j : Int, 0 ≤ j → j < 72 → (-2147483648) ≤ place_0 j ∧ place_0 j ≤ 2147483647) (kz_0_0 : 0 ≤ nodes_0 ∧ nodes_0 ≤ 72) (kz_0_1 : 0 ≤ arcs_0 ∧ arcs_0 ≤ 384) : 0 ≤ x11 ∧ x11 ≤ 23 := by
  first | subst h0 | skip
  first | subst h2 | skip
  first | subst h3 | skip
  first | subst h7 | skip
  have r := (‹FNI _ _ _ _ _ _ _ _ _ _›).1.2.2.2.2
  have r0 := (‹FNI _ _ _ _ _ _ _ _ _ _›).2.2.1
  have r1 := r x4 (by omega) (by omega)
  have b := fni_low ‹FNI _ _ _ _ _ _ _ _ _ _› r1.1 r1.2.1
  omega
set_option maxHeartbeats 4000000 in
theorem vc_St_raise_at_gl2_3_r1 (x1 : Int) (x3 : Int) (x4 : Int) (x5 : Int) (x7 : Int) (x10 : Int) (x11 : Int) (x13 : Int) (gain_0 : Int → Int) (place_0 : Int → Int) (from_0 : Int → Int) (room_0 : Int → Int) (arcs_0 : Int) (to_0 : Int → Int) (nodes_0 : Int) (k1 : 0 ≤ x1 ∧ x1 ≤ 73) (k3 : 0 ≤ x3 ∧ x3 ≤ 1) (k4 : 0 ≤ x4 ∧ x4 ≤ 383) (k5 : 1 ≤ x5 ∧ x5 ≤ 384) (k7 : 1 ≤ x7 ∧ x7 ≤ 2147483647) (k10 : 0 ≤ x10 ∧ x10 ≤ 71) (k11 : (-2147483648) ≤ x11 ∧ x11 ≤ 2147483647) (k13 : (-20) ≤ x13 ∧ x13 ≤ 20) (d0 : x5 + (-4294967296) ≤ x4 ∧ x4 ≤ x5 + (-1)) (d1 : x4 + (-4294967296) ≤ x3 ∧ x3 ≤ x4 + 0) (h0 : x13 = gain_0 (x4)) (h2 : x11 = place_0 (x10)) (h3 : x10 = from_0 (x4)) (f6 : 0 < x7) (h7 : x7 = room_0 (x4)) (f9 : x4 < x5) (g10 : x5 = arcs_0) (f11 : FNI (nodes_0) (arcs_0) (from_0) (to_0) (room_0) (gain_0) (place_0) (x1) (x4) (x3)) (hK_0_2 : ∀ j : Int, 0 ≤ j → j < 384 → 0 ≤ from_0 j ∧ from_0 j ≤ 71) (hK_0_3 : ∀ j : Int, 0 ≤ j → j < 384 → 0 ≤ to_0 j ∧ to_0 j ≤ 71) (hK_0_4 : ∀ j : Int, 0 ≤ j → j < 384 → (-2147483648) ≤ room_0 j ∧ room_0 j ≤ 2147483647) (hK_0_5 : ∀ j : Int, 0 ≤ j → j < 384 → (-20) ≤ gain_0 j ∧ gain_0 j ≤ 20) (hK_0_6 : ∀ j : Int, 0 ≤ j → j < 72 → (-2147483648) ≤ place_0 j ∧ place_0 j ≤ 2147483647) (kz_0_0 : 0 ≤ nodes_0 ∧ nodes_0 ≤ 72) (kz_0_1 : 0 ≤ arcs_0 ∧ arcs_0 ≤ 384) : (-1) ≤ x13 ∧ x13 ≤ 1 := by
  first | subst h0 | skip
  first | subst h2 | skip
  first | subst h3 | skip
  first | subst h7 | skip
  have r := (‹FNI _ _ _ _ _ _ _ _ _ _›).1.2.2.2.2
  have r0 := (‹FNI _ _ _ _ _ _ _ _ _ _›).2.2.1
  have r1 := r x4 (by omega) (by omega)
  have b := fni_low ‹FNI _ _ _ _ _ _ _ _ _ _› r1.1 r1.2.1
  omega
def o_St_raise_at_gl2_3 : or_T := (38, 14, [(0, (2, 0, 0, [10])), (1, (0, 0, 73, [])), (2, (2, 0, 0, [10])), (3, (0, 0, 1, [])), (4, (0, 0, 383, [])), (5, (0, 1, 384, [])), (6, (2, 0, 0, [120])), (7, (0, 1, 2147483647, [])), (8, (2, 0, 0, [122])), (9, (2, 0, 0, [118])), (10, (0, 0, 71, [])), (11, (0, -2147483648, 2147483647, [])), (12, (2, 0, 0, [121])), (13, (0, -20, 20, []))], [(10, [13, 12, 4], []), (9, [12, 2], [5]), (10, [11, 8, 10], []), (10, [10, 9, 4], []), (9, [9, 2], [2]), (9, [8, 2], [6]), (8, [7], [4]), (10, [7, 6, 4], []), (9, [6, 2], [4]), (7, [4, 5], [2]), (9, [5, 2], [1]), (20, [2, 1, 4, 3], [60, 2, 5, 527, 0, 1, 2, 3, 4, 5, 6]), (24, [0, 2], [])], [(11, (0, 0, 23, [])), (13, (0, -1, 1, []))], [], [], [], [(4, 5, -4294967296, -1), (3, 4, -4294967296, 0)])
theorem oo_St_raise_at_gl2_3 {kA : Nat → ClassId} : or_ok PRD kA GG o_St_raise_at_gl2_3 := by
  refine or_mk fun A ta ws vs hD hth hl => ?_
  intro t0 r0 t1 k1 t2 r2 t3 k3 t4 k4 t5 k5 t6 r6 t7 k7 t8 r8 t9 r9 t10 k10 t11 k11 t12 r12 t13 k13 d0 d1 f0 f1 f2 f3 f4 f5 f6 f7 f8 f9 f10 f11 f12
  replace f0 := shm_107 f0
  replace f1 := shm_110 f1
  replace f2 := shm_107 f2
  replace f3 := shm_107 f3
  replace f4 := shm_120 f4
  replace f5 := shm_111 f5
  replace f7 := shm_107 f7
  replace f8 := shm_108 f8
  replace f10 := shm_215 f10
  replace f11 := shm_487 f11
  replace f12 := shm_5 f12
  have q2 : n_v vs 2 = n_v vs 0 := f12.symm
  simp only [q2] at f1 f4 f5 f8 f10 f11
  have cr_0_2 := fdq_108 hD hth r0
  have cr_0_3 := fdq_109 hD hth r0
  have cr_0_4 := fdq_110 hD hth r0
  have cr_0_5 := fdq_111 hD hth r0
  have cr_0_6 := fdq_115 hD hth r0
  have ad_12 : v_ad (n_v vs 12) = w_ar ws (n_v vs 0) 5 := congrArg v_ad f1
  have ad_9 : v_ad (n_v vs 9) = w_ar ws (n_v vs 0) 2 := congrArg v_ad f4
  have ad_8 : v_ad (n_v vs 8) = w_ar ws (n_v vs 0) 6 := congrArg v_ad f5
  have ad_6 : v_ad (n_v vs 6) = w_ar ws (n_v vs 0) 4 := congrArg v_ad f8
  simp only [ad_12] at f0
  have h0 : v_iv (n_v vs 13) = w_ei ws (w_ar ws (n_v vs 0) 5) (v_iv (n_v vs 4)) := f0
  simp only [ad_8] at f2
  have h2 : v_iv (n_v vs 11) = w_ei ws (w_ar ws (n_v vs 0) 6) (v_iv (n_v vs 10)) := f2
  simp only [ad_9] at f3
  have h3 : v_iv (n_v vs 10) = w_ei ws (w_ar ws (n_v vs 0) 2) (v_iv (n_v vs 4)) := f3
  simp only [ad_6] at f7
  have h7 : v_iv (n_v vs 7) = w_ei ws (w_ar ws (n_v vs 0) 4) (v_iv (n_v vs 4)) := f7
  have g10 : v_iv (n_v vs 5) = w_fi ws (n_v vs 0) 1 := congrArg v_iv f10
  have hK_0_2 := elq_53 hD hth cr_0_2
  have hK_0_3 := elq_54 hD hth cr_0_3
  have hK_0_4 := elq_55 hD hth cr_0_4
  have hK_0_5 := elq_56 hD hth cr_0_5
  have hK_0_6 := elq_58 hD hth cr_0_6
  have kz_0_0 := fdq_114 hD hth r0
  have kz_0_1 := fdq_113 hD hth r0
  have hrf0 : 0 ≤ v_iv (n_v vs 11) ∧ v_iv (n_v vs 11) ≤ 23 := vc_St_raise_at_gl2_3_r0 (v_iv (n_v vs 1)) (v_iv (n_v vs 3)) (v_iv (n_v vs 4)) (v_iv (n_v vs 5)) (v_iv (n_v vs 7)) (v_iv (n_v vs 10)) (v_iv (n_v vs 11)) (v_iv (n_v vs 13)) (w_ei ws (w_ar ws (n_v vs 0) 5)) (w_ei ws (w_ar ws (n_v vs 0) 6)) (w_ei ws (w_ar ws (n_v vs 0) 2)) (w_ei ws (w_ar ws (n_v vs 0) 4)) (w_fi ws (n_v vs 0) 1) (w_ei ws (w_ar ws (n_v vs 0) 3)) (w_fi ws (n_v vs 0) 0) k1 k3 k4 k5 k7 k10 k11 k13 d0 d1 h0 h2 h3 (shm_308 f6) h7 (shm_6 f9) g10 f11 hK_0_2 hK_0_3 hK_0_4 hK_0_5 hK_0_6 kz_0_0 kz_0_1
  have hrf1 : (-1) ≤ v_iv (n_v vs 13) ∧ v_iv (n_v vs 13) ≤ 1 := vc_St_raise_at_gl2_3_r1 (v_iv (n_v vs 1)) (v_iv (n_v vs 3)) (v_iv (n_v vs 4)) (v_iv (n_v vs 5)) (v_iv (n_v vs 7)) (v_iv (n_v vs 10)) (v_iv (n_v vs 11)) (v_iv (n_v vs 13)) (w_ei ws (w_ar ws (n_v vs 0) 5)) (w_ei ws (w_ar ws (n_v vs 0) 6)) (w_ei ws (w_ar ws (n_v vs 0) 2)) (w_ei ws (w_ar ws (n_v vs 0) 4)) (w_fi ws (n_v vs 0) 1) (w_ei ws (w_ar ws (n_v vs 0) 3)) (w_fi ws (n_v vs 0) 0) k1 k3 k4 k5 k7 k10 k11 k13 d0 d1 h0 h2 h3 (shm_308 f6) h7 (shm_6 f9) g10 f11 hK_0_2 hK_0_3 hK_0_4 hK_0_5 hK_0_6 kz_0_0 kz_0_1
  have rf11 : tv_ok ta (0, 0, 23, []) (n_v vs 11) := tv_in t11 (by first | omega | grind) (by first | omega | grind)
  have rf13 : tv_ok ta (0, -1, 1, []) (n_v vs 13) := tv_in t13 (by first | omega | grind) (by first | omega | grind)
  refine ⟨List.forall_mem_cons.mpr ⟨rf11, List.forall_mem_cons.mpr ⟨rf13, (fun _ h => (by cases h))⟩⟩, [], trivial, ?_, (fun _ h => (by cases h))⟩
  rw [List.append_nil]
  exact (fun _ h => (by cases h))
set_option maxHeartbeats 4000000 in
theorem vc_St_raise_at_gl2_4_0 (x1 : Int) (x3 : Int) (x4 : Int) (x5 : Int) (x7 : Int) (x10 : Int) (x11 : Int) (x13 : Int) (x14 : Int) (x16 : Int) (x17 : Int) (x18 : Int) (place_0 : Int → Int) (to_0 : Int → Int) (gain_0 : Int → Int) (from_0 : Int → Int) (room_0 : Int → Int) (arcs_0 : Int) (nodes_0 : Int) (k1 : 0 ≤ x1 ∧ x1 ≤ 73) (k3 : 0 ≤ x3 ∧ x3 ≤ 1) (k4 : 0 ≤ x4 ∧ x4 ≤ 383) (k5 : 1 ≤ x5 ∧ x5 ≤ 384) (k7 : 1 ≤ x7 ∧ x7 ≤ 2147483647) (k10 : 0 ≤ x10 ∧ x10 ≤ 71) (k11 : 0 ≤ x11 ∧ x11 ≤ 23) (k13 : (-1) ≤ x13 ∧ x13 ≤ 1) (k14 : (-1) ≤ x14 ∧ x14 ≤ 24) (k16 : 0 ≤ x16 ∧ x16 ≤ 71) (k17 : (-1) ≤ x17 ∧ x17 ≤ 2147483647) (k18 : 1 ≤ x18 ∧ x18 ≤ 384) (d0 : x4 + 1 ≤ x18 ∧ x18 ≤ x4 + 1) (d1 : x5 + (-4294967296) ≤ x18 ∧ x18 ≤ x5 + 0) (d2 : x17 + (-4294967296) ≤ x14 ∧ x14 ≤ x17 + 0) (d3 : x13 + 0 ≤ x14 ∧ x14 ≤ x13 + 23) (d4 : x11 + (-1) ≤ x14 ∧ x14 ≤ x11 + 1) (d5 : x5 + (-4294967296) ≤ x4 ∧ x4 ≤ x5 + (-1)) (d6 : x4 + (-4294967296) ≤ x3 ∧ x3 ≤ x4 + 0) (f0 : x18 = x4 + 1) (f1 : x14 ≤ x17) (h2 : x17 = place_0 (x16)) (h3 : x16 = to_0 (x4)) (f6 : x14 = x11 + x13) (h7 : x13 = gain_0 (x4)) (h9 : x11 = place_0 (x10)) (h10 : x10 = from_0 (x4)) (f12 : 0 < x7) (h13 : x7 = room_0 (x4)) (f15 : x4 < x5) (g16 : x5 = arcs_0) (f17 : FNI (nodes_0) (arcs_0) (from_0) (to_0) (room_0) (gain_0) (place_0) (x1) (x4) (x3)) (hK_0_2 : ∀ j : Int, 0 ≤ j → j < 384 → 0 ≤ from_0 j ∧ from_0 j ≤ 71) (hK_0_3 : ∀ j : Int, 0 ≤ j → j < 384 → 0 ≤ to_0 j ∧ to_0 j ≤ 71) (hK_0_4 : ∀ j : Int, 0 ≤ j → j < 384 → (-2147483648) ≤ room_0 j ∧ room_0 j ≤ 2147483647) (hK_0_5 : ∀ j : Int, 0 ≤ j → j < 384 → (-20) ≤ gain_0 j ∧ gain_0 j ≤ 20) (hK_0_6 : ∀ j : Int, 0 ≤ j → j < 72 → (-2147483648) ≤ place_0 j ∧ place_0 j ≤ 2147483647) (kz_0_0 : 0 ≤ nodes_0 ∧ nodes_0 ≤ 72) (kz_0_1 : 0 ≤ arcs_0 ∧ arcs_0 ≤ 384) : FNI (nodes_0) (arcs_0) (from_0) (to_0) (room_0) (gain_0) (place_0) (x1) (x18) (x3) := by
  first
    | exact fni_start ‹FNL _ _ _ _ _ _ _ _› (by omega) (by omega)
    | (skip; (first | subst h2 | skip); (first | subst h3 | skip); (first | subst h7 | skip); (first | subst h9 | skip); (first | subst h10 | skip); (first | subst h13 | skip); exact fni_skip ‹FNI _ _ _ _ _ _ _ _ _ _› (by first | (left; omega) | (right; omega)) (by omega))
    | (skip; (first | subst h2 | skip); (first | subst h3 | skip); (first | subst h7 | skip); (first | subst h9 | skip); (first | subst h10 | skip); (first | subst h13 | skip); exact fni_set ‹FNI _ _ _ _ _ _ _ _ _ _› (by assumption) rfl (by omega) (by omega) (by omega) (by omega) (by omega) (by omega))
  
def o_St_raise_at_gl2_4 : or_T := (4, 19, [(0, (2, 0, 0, [10])), (1, (0, 0, 73, [])), (3, (0, 0, 1, [])), (4, (0, 0, 383, [])), (5, (0, 1, 384, [])), (7, (0, 1, 2147483647, [])), (10, (0, 0, 71, [])), (11, (0, 0, 23, [])), (13, (0, -1, 1, [])), (14, (0, -1, 24, [])), (16, (0, 0, 71, [])), (17, (0, -1, 2147483647, [])), (18, (0, 1, 384, []))], [(6, [18, 4], [1]), (7, [14, 17], [5]), (10, [17, 8, 16], []), (10, [16, 15, 4], []), (9, [15, 2], [3]), (9, [8, 2], [6]), (1, [14, 11, 13], []), (10, [13, 12, 4], []), (9, [12, 2], [5]), (10, [11, 8, 10], []), (10, [10, 9, 4], []), (9, [9, 2], [2]), (8, [7], [4]), (10, [7, 6, 4], []), (9, [6, 2], [4]), (7, [4, 5], [2]), (9, [5, 2], [1]), (20, [2, 1, 4, 3], [60, 2, 5, 527, 0, 1, 2, 3, 4, 5, 6]), (24, [0, 2], [])], [], [], [(20, [2, 1, 18, 3], [60, 2, 5, 527, 0, 1, 2, 3, 4, 5, 6])], [], [(18, 4, 1, 1), (18, 5, -4294967296, 0), (14, 17, -4294967296, 0), (14, 13, 0, 23), (14, 11, -1, 1), (4, 5, -4294967296, -1), (3, 4, -4294967296, 0)])
theorem oo_St_raise_at_gl2_4 {kA : Nat → ClassId} : or_ok PRD kA GG o_St_raise_at_gl2_4 := by
  refine or_mk fun A ta ws vs hD hth hl => ?_
  intro t0 r0 t1 k1 t3 k3 t4 k4 t5 k5 t7 k7 t10 k10 t11 k11 t13 k13 t14 k14 t16 k16 t17 k17 t18 k18 d0 d1 d2 d3 d4 d5 d6 f0 f1 f2 f3 f4 f5 f6 f7 f8 f9 f10 f11 f12 f13 f14 f15 f16 f17 f18
  replace f0 := shm_4 f0
  replace f1 := shm_24 f1
  replace f2 := shm_107 f2
  replace f3 := shm_107 f3
  replace f4 := shm_137 f4
  replace f5 := shm_111 f5
  replace f6 := shm_12 f6
  replace f7 := shm_107 f7
  replace f8 := shm_110 f8
  replace f9 := shm_107 f9
  replace f10 := shm_107 f10
  replace f11 := shm_120 f11
  replace f12 := shm_308 f12
  replace f13 := shm_107 f13
  replace f14 := shm_108 f14
  replace f15 := shm_6 f15
  replace f16 := shm_215 f16
  replace f17 := shm_487 f17
  replace f18 := shm_5 f18
  have q2 : n_v vs 2 = n_v vs 0 := f18.symm
  simp only [q2] at f4 f5 f8 f11 f14 f16 f17
  have cr_0_2 := fdq_108 hD hth r0
  have cr_0_3 := fdq_109 hD hth r0
  have cr_0_4 := fdq_110 hD hth r0
  have cr_0_5 := fdq_111 hD hth r0
  have cr_0_6 := fdq_115 hD hth r0
  have ad_15 : v_ad (n_v vs 15) = w_ar ws (n_v vs 0) 3 := congrArg v_ad f4
  have ad_8 : v_ad (n_v vs 8) = w_ar ws (n_v vs 0) 6 := congrArg v_ad f5
  have ad_12 : v_ad (n_v vs 12) = w_ar ws (n_v vs 0) 5 := congrArg v_ad f8
  have ad_9 : v_ad (n_v vs 9) = w_ar ws (n_v vs 0) 2 := congrArg v_ad f11
  have ad_6 : v_ad (n_v vs 6) = w_ar ws (n_v vs 0) 4 := congrArg v_ad f14
  simp only [ad_8] at f2
  have h2 : v_iv (n_v vs 17) = w_ei ws (w_ar ws (n_v vs 0) 6) (v_iv (n_v vs 16)) := f2
  simp only [ad_15] at f3
  have h3 : v_iv (n_v vs 16) = w_ei ws (w_ar ws (n_v vs 0) 3) (v_iv (n_v vs 4)) := f3
  simp only [ad_12] at f7
  have h7 : v_iv (n_v vs 13) = w_ei ws (w_ar ws (n_v vs 0) 5) (v_iv (n_v vs 4)) := f7
  simp only [ad_8] at f9
  have h9 : v_iv (n_v vs 11) = w_ei ws (w_ar ws (n_v vs 0) 6) (v_iv (n_v vs 10)) := f9
  simp only [ad_9] at f10
  have h10 : v_iv (n_v vs 10) = w_ei ws (w_ar ws (n_v vs 0) 2) (v_iv (n_v vs 4)) := f10
  simp only [ad_6] at f13
  have h13 : v_iv (n_v vs 7) = w_ei ws (w_ar ws (n_v vs 0) 4) (v_iv (n_v vs 4)) := f13
  have g16 : v_iv (n_v vs 5) = w_fi ws (n_v vs 0) 1 := congrArg v_iv f16
  have hK_0_2 := elq_53 hD hth cr_0_2
  have hK_0_3 := elq_54 hD hth cr_0_3
  have hK_0_4 := elq_55 hD hth cr_0_4
  have hK_0_5 := elq_56 hD hth cr_0_5
  have hK_0_6 := elq_58 hD hth cr_0_6
  have kz_0_0 := fdq_114 hD hth r0
  have kz_0_1 := fdq_113 hD hth r0
  have nf0 : fc_1 PRD (20, [2, 1, 18, 3], [60, 2, 5, 527, 0, 1, 2, 3, 4, 5, 6]) ws (vs) := by
    refine ⟨nf_in hl rfl, sgq_487 ?_⟩
    · show FNI (w_fi ws (n_v vs 2) 0) (w_fi ws (n_v vs 2) 1) (w_ei ws (w_ar ws (n_v vs 2) 2)) (w_ei ws (w_ar ws (n_v vs 2) 3)) (w_ei ws (w_ar ws (n_v vs 2) 4)) (w_ei ws (w_ar ws (n_v vs 2) 5)) (w_ei ws (w_ar ws (n_v vs 2) 6)) (v_iv (n_v vs 1)) (v_iv (n_v vs 18)) (v_iv (n_v vs 3))
      rw [q2]
      exact vc_St_raise_at_gl2_4_0 (v_iv (n_v vs 1)) (v_iv (n_v vs 3)) (v_iv (n_v vs 4)) (v_iv (n_v vs 5)) (v_iv (n_v vs 7)) (v_iv (n_v vs 10)) (v_iv (n_v vs 11)) (v_iv (n_v vs 13)) (v_iv (n_v vs 14)) (v_iv (n_v vs 16)) (v_iv (n_v vs 17)) (v_iv (n_v vs 18)) (w_ei ws (w_ar ws (n_v vs 0) 6)) (w_ei ws (w_ar ws (n_v vs 0) 3)) (w_ei ws (w_ar ws (n_v vs 0) 5)) (w_ei ws (w_ar ws (n_v vs 0) 2)) (w_ei ws (w_ar ws (n_v vs 0) 4)) (w_fi ws (n_v vs 0) 1) (w_fi ws (n_v vs 0) 0) k1 k3 k4 k5 k7 k10 k11 k13 k14 k16 k17 k18 d0 d1 d2 d3 d4 d5 d6 f0 f1 h2 h3 f6 h7 h9 h10 f12 h13 f15 g16 f17 hK_0_2 hK_0_3 hK_0_4 hK_0_5 hK_0_6 kz_0_0 kz_0_1
  refine ⟨(fun _ h => (by cases h)), [], trivial, ?_, (fun _ h => (by cases h))⟩
  rw [List.append_nil]
  exact List.forall_mem_cons.mpr ⟨⟨show (20 : Nat) < 100 from by decide, nf0⟩, (fun _ h => (by cases h))⟩
set_option maxHeartbeats 4000000 in
theorem vc_St_raise_at_gl2_5_r0 (x1 : Int) (x3 : Int) (x4 : Int) (x5 : Int) (x7 : Int) (x10 : Int) (x11 : Int) (x13 : Int) (x14 : Int) (x16 : Int) (x17 : Int) (x18 : Int) (x19 : Int) (x20 : Int) (x21 : Int) (gain_0 : Int → Int) (place_0 : Int → Int) (from_0 : Int → Int) (to_0 : Int → Int) (room_0 : Int → Int) (arcs_0 : Int) (nodes_0 : Int) (k1 : 0 ≤ x1 ∧ x1 ≤ 73) (k3 : 0 ≤ x3 ∧ x3 ≤ 1) (k4 : 0 ≤ x4 ∧ x4 ≤ 383) (k5 : 1 ≤ x5 ∧ x5 ≤ 384) (k7 : 1 ≤ x7 ∧ x7 ≤ 2147483647) (k10 : 0 ≤ x10 ∧ x10 ≤ 71) (k11 : 0 ≤ x11 ∧ x11 ≤ 23) (k13 : (-1) ≤ x13 ∧ x13 ≤ 1) (k14 : (-1) ≤ x14 ∧ x14 ≤ 24) (k16 : 0 ≤ x16 ∧ x16 ≤ 71) (k17 : (-2147483648) ≤ x17 ∧ x17 ≤ 23) (k18 : 0 ≤ x18 ∧ x18 ≤ 71) (k19 : 0 ≤ x19 ∧ x19 ≤ 71) (k20 : (-2147483648) ≤ x20 ∧ x20 ≤ 2147483647) (k21 : (-20) ≤ x21 ∧ x21 ≤ 20) (d0 : x17 + 1 ≤ x14 ∧ x14 ≤ x17 + 4294967296) (d1 : x13 + 0 ≤ x14 ∧ x14 ≤ x13 + 23) (d2 : x11 + (-1) ≤ x14 ∧ x14 ≤ x11 + 1) (d3 : x5 + (-4294967296) ≤ x4 ∧ x4 ≤ x5 + (-1)) (d4 : x4 + (-4294967296) ≤ x3 ∧ x3 ≤ x4 + 0) (h0 : x21 = gain_0 (x4)) (h2 : x20 = place_0 (x19)) (h3 : x19 = from_0 (x4)) (h6 : x18 = to_0 (x4)) (f8 : x17 < x14) (h9 : x17 = place_0 (x16)) (h10 : x16 = to_0 (x4)) (f11 : x14 = x11 + x13) (h12 : x13 = gain_0 (x4)) (h13 : x11 = place_0 (x10)) (h14 : x10 = from_0 (x4)) (f15 : 0 < x7) (h16 : x7 = room_0 (x4)) (f18 : x4 < x5) (g19 : x5 = arcs_0) (f20 : FNI (nodes_0) (arcs_0) (from_0) (to_0) (room_0) (gain_0) (place_0) (x1) (x4) (x3)) (hK_0_2 : ∀ j : Int, 0 ≤ j → j < 384 → 0 ≤ from_0 j ∧ from_0 j ≤ 71) (hK_0_3 : ∀ j : Int, 0 ≤ j → j < 384 → 0 ≤ to_0 j ∧ to_0 j ≤ 71) (hK_0_4 : ∀ j : Int, 0 ≤ j → j < 384 → (-2147483648) ≤ room_0 j ∧ room_0 j ≤ 2147483647) (hK_0_5 : ∀ j : Int, 0 ≤ j → j < 384 → (-20) ≤ gain_0 j ∧ gain_0 j ≤ 20) (hK_0_6 : ∀ j : Int, 0 ≤ j → j < 72 → (-2147483648) ≤ place_0 j ∧ place_0 j ≤ 2147483647) (kz_0_0 : 0 ≤ nodes_0 ∧ nodes_0 ≤ 72) (kz_0_1 : 0 ≤ arcs_0 ∧ arcs_0 ≤ 384) : 0 ≤ x20 ∧ x20 ≤ 23 := by
  first | subst h0 | skip
  first | subst h2 | skip
  first | subst h3 | skip
  first | subst h6 | skip
  first | subst h9 | skip
  first | subst h10 | skip
  first | subst h12 | skip
  first | subst h13 | skip
  first | subst h14 | skip
  first | subst h16 | skip
  have r := (‹FNI _ _ _ _ _ _ _ _ _ _›).1.2.2.2.2
  have r0 := (‹FNI _ _ _ _ _ _ _ _ _ _›).2.2.1
  have r1 := r x4 (by omega) (by omega)
  have b := fni_low ‹FNI _ _ _ _ _ _ _ _ _ _› r1.1 r1.2.1
  omega
set_option maxHeartbeats 4000000 in
theorem vc_St_raise_at_gl2_5_r1 (x1 : Int) (x3 : Int) (x4 : Int) (x5 : Int) (x7 : Int) (x10 : Int) (x11 : Int) (x13 : Int) (x14 : Int) (x16 : Int) (x17 : Int) (x18 : Int) (x19 : Int) (x20 : Int) (x21 : Int) (gain_0 : Int → Int) (place_0 : Int → Int) (from_0 : Int → Int) (to_0 : Int → Int) (room_0 : Int → Int) (arcs_0 : Int) (nodes_0 : Int) (k1 : 0 ≤ x1 ∧ x1 ≤ 73) (k3 : 0 ≤ x3 ∧ x3 ≤ 1) (k4 : 0 ≤ x4 ∧ x4 ≤ 383) (k5 : 1 ≤ x5 ∧ x5 ≤ 384) (k7 : 1 ≤ x7 ∧ x7 ≤ 2147483647) (k10 : 0 ≤ x10 ∧ x10 ≤ 71) (k11 : 0 ≤ x11 ∧ x11 ≤ 23) (k13 : (-1) ≤ x13 ∧ x13 ≤ 1) (k14 : (-1) ≤ x14 ∧ x14 ≤ 24) (k16 : 0 ≤ x16 ∧ x16 ≤ 71) (k17 : (-2147483648) ≤ x17 ∧ x17 ≤ 23) (k18 : 0 ≤ x18 ∧ x18 ≤ 71) (k19 : 0 ≤ x19 ∧ x19 ≤ 71) (k20 : (-2147483648) ≤ x20 ∧ x20 ≤ 2147483647) (k21 : (-20) ≤ x21 ∧ x21 ≤ 20) (d0 : x17 + 1 ≤ x14 ∧ x14 ≤ x17 + 4294967296) (d1 : x13 + 0 ≤ x14 ∧ x14 ≤ x13 + 23) (d2 : x11 + (-1) ≤ x14 ∧ x14 ≤ x11 + 1) (d3 : x5 + (-4294967296) ≤ x4 ∧ x4 ≤ x5 + (-1)) (d4 : x4 + (-4294967296) ≤ x3 ∧ x3 ≤ x4 + 0) (h0 : x21 = gain_0 (x4)) (h2 : x20 = place_0 (x19)) (h3 : x19 = from_0 (x4)) (h6 : x18 = to_0 (x4)) (f8 : x17 < x14) (h9 : x17 = place_0 (x16)) (h10 : x16 = to_0 (x4)) (f11 : x14 = x11 + x13) (h12 : x13 = gain_0 (x4)) (h13 : x11 = place_0 (x10)) (h14 : x10 = from_0 (x4)) (f15 : 0 < x7) (h16 : x7 = room_0 (x4)) (f18 : x4 < x5) (g19 : x5 = arcs_0) (f20 : FNI (nodes_0) (arcs_0) (from_0) (to_0) (room_0) (gain_0) (place_0) (x1) (x4) (x3)) (hK_0_2 : ∀ j : Int, 0 ≤ j → j < 384 → 0 ≤ from_0 j ∧ from_0 j ≤ 71) (hK_0_3 : ∀ j : Int, 0 ≤ j → j < 384 → 0 ≤ to_0 j ∧ to_0 j ≤ 71) (hK_0_4 : ∀ j : Int, 0 ≤ j → j < 384 → (-2147483648) ≤ room_0 j ∧ room_0 j ≤ 2147483647) (hK_0_5 : ∀ j : Int, 0 ≤ j → j < 384 → (-20) ≤ gain_0 j ∧ gain_0 j ≤ 20) (hK_0_6 : ∀ j : Int, 0 ≤ j → j < 72 → (-2147483648) ≤ place_0 j ∧ place_0 j ≤ 2147483647) (kz_0_0 : 0 ≤ nodes_0 ∧ nodes_0 ≤ 72) (kz_0_1 : 0 ≤ arcs_0 ∧ arcs_0 ≤ 384) : (-1) ≤ x21 ∧ x21 ≤ 1 := by
  first | subst h0 | skip
  first | subst h2 | skip
  first | subst h3 | skip
  first | subst h6 | skip
  first | subst h9 | skip
  first | subst h10 | skip
  first | subst h12 | skip
  first | subst h13 | skip
  first | subst h14 | skip
  first | subst h16 | skip
  have r := (‹FNI _ _ _ _ _ _ _ _ _ _›).1.2.2.2.2
  have r0 := (‹FNI _ _ _ _ _ _ _ _ _ _›).2.2.1
  have r1 := r x4 (by omega) (by omega)
  have b := fni_low ‹FNI _ _ _ _ _ _ _ _ _ _› r1.1 r1.2.1
  omega
def o_St_raise_at_gl2_5 : or_T := (80, 22, [(0, (2, 0, 0, [10])), (1, (0, 0, 73, [])), (2, (2, 0, 0, [10])), (3, (0, 0, 1, [])), (4, (0, 0, 383, [])), (5, (0, 1, 384, [])), (6, (2, 0, 0, [120])), (7, (0, 1, 2147483647, [])), (8, (2, 0, 0, [122])), (9, (2, 0, 0, [118])), (10, (0, 0, 71, [])), (11, (0, 0, 23, [])), (12, (2, 0, 0, [121])), (13, (0, -1, 1, [])), (14, (0, -1, 24, [])), (15, (2, 0, 0, [119])), (16, (0, 0, 71, [])), (17, (0, -2147483648, 23, [])), (18, (0, 0, 71, [])), (19, (0, 0, 71, [])), (20, (0, -2147483648, 2147483647, [])), (21, (0, -20, 20, []))], [(10, [21, 12, 4], []), (9, [12, 2], [5]), (10, [20, 8, 19], []), (10, [19, 9, 4], []), (9, [9, 2], [2]), (9, [8, 2], [6]), (10, [18, 15, 4], []), (9, [15, 2], [3]), (7, [14, 17], [4]), (10, [17, 8, 16], []), (10, [16, 15, 4], []), (1, [14, 11, 13], []), (10, [13, 12, 4], []), (10, [11, 8, 10], []), (10, [10, 9, 4], []), (8, [7], [4]), (10, [7, 6, 4], []), (9, [6, 2], [4]), (7, [4, 5], [2]), (9, [5, 2], [1]), (20, [2, 1, 4, 3], [60, 2, 5, 527, 0, 1, 2, 3, 4, 5, 6]), (24, [0, 2], [])], [(20, (0, 0, 23, [])), (21, (0, -1, 1, []))], [], [], [], [(14, 17, 1, 4294967296), (14, 13, 0, 23), (14, 11, -1, 1), (4, 5, -4294967296, -1), (3, 4, -4294967296, 0)])
theorem oo_St_raise_at_gl2_5 {kA : Nat → ClassId} : or_ok PRD kA GG o_St_raise_at_gl2_5 := by
  refine or_mk fun A ta ws vs hD hth hl => ?_
  intro t0 r0 t1 k1 t2 r2 t3 k3 t4 k4 t5 k5 t6 r6 t7 k7 t8 r8 t9 r9 t10 k10 t11 k11 t12 r12 t13 k13 t14 k14 t15 r15 t16 k16 t17 k17 t18 k18 t19 k19 t20 k20 t21 k21 d0 d1 d2 d3 d4 f0 f1 f2 f3 f4 f5 f6 f7 f8 f9 f10 f11 f12 f13 f14 f15 f16 f17 f18 f19 f20 f21
  replace f0 := shm_107 f0
  replace f1 := shm_110 f1
  replace f2 := shm_107 f2
  replace f3 := shm_107 f3
  replace f4 := shm_120 f4
  replace f5 := shm_111 f5
  replace f6 := shm_107 f6
  replace f7 := shm_137 f7
  replace f9 := shm_107 f9
  replace f10 := shm_107 f10
  replace f12 := shm_107 f12
  replace f13 := shm_107 f13
  replace f14 := shm_107 f14
  replace f16 := shm_107 f16
  replace f17 := shm_108 f17
  replace f19 := shm_215 f19
  replace f20 := shm_487 f20
  replace f21 := shm_5 f21
  have q2 : n_v vs 2 = n_v vs 0 := f21.symm
  simp only [q2] at f1 f4 f5 f7 f17 f19 f20
  have cr_0_2 := fdq_108 hD hth r0
  have cr_0_3 := fdq_109 hD hth r0
  have cr_0_4 := fdq_110 hD hth r0
  have cr_0_5 := fdq_111 hD hth r0
  have cr_0_6 := fdq_115 hD hth r0
  have ad_12 : v_ad (n_v vs 12) = w_ar ws (n_v vs 0) 5 := congrArg v_ad f1
  have ad_9 : v_ad (n_v vs 9) = w_ar ws (n_v vs 0) 2 := congrArg v_ad f4
  have ad_8 : v_ad (n_v vs 8) = w_ar ws (n_v vs 0) 6 := congrArg v_ad f5
  have ad_15 : v_ad (n_v vs 15) = w_ar ws (n_v vs 0) 3 := congrArg v_ad f7
  have ad_6 : v_ad (n_v vs 6) = w_ar ws (n_v vs 0) 4 := congrArg v_ad f17
  simp only [ad_12] at f0
  have h0 : v_iv (n_v vs 21) = w_ei ws (w_ar ws (n_v vs 0) 5) (v_iv (n_v vs 4)) := f0
  simp only [ad_8] at f2
  have h2 : v_iv (n_v vs 20) = w_ei ws (w_ar ws (n_v vs 0) 6) (v_iv (n_v vs 19)) := f2
  simp only [ad_9] at f3
  have h3 : v_iv (n_v vs 19) = w_ei ws (w_ar ws (n_v vs 0) 2) (v_iv (n_v vs 4)) := f3
  simp only [ad_15] at f6
  have h6 : v_iv (n_v vs 18) = w_ei ws (w_ar ws (n_v vs 0) 3) (v_iv (n_v vs 4)) := f6
  simp only [ad_8] at f9
  have h9 : v_iv (n_v vs 17) = w_ei ws (w_ar ws (n_v vs 0) 6) (v_iv (n_v vs 16)) := f9
  simp only [ad_15] at f10
  have h10 : v_iv (n_v vs 16) = w_ei ws (w_ar ws (n_v vs 0) 3) (v_iv (n_v vs 4)) := f10
  simp only [ad_12] at f12
  have h12 : v_iv (n_v vs 13) = w_ei ws (w_ar ws (n_v vs 0) 5) (v_iv (n_v vs 4)) := f12
  simp only [ad_8] at f13
  have h13 : v_iv (n_v vs 11) = w_ei ws (w_ar ws (n_v vs 0) 6) (v_iv (n_v vs 10)) := f13
  simp only [ad_9] at f14
  have h14 : v_iv (n_v vs 10) = w_ei ws (w_ar ws (n_v vs 0) 2) (v_iv (n_v vs 4)) := f14
  simp only [ad_6] at f16
  have h16 : v_iv (n_v vs 7) = w_ei ws (w_ar ws (n_v vs 0) 4) (v_iv (n_v vs 4)) := f16
  have g19 : v_iv (n_v vs 5) = w_fi ws (n_v vs 0) 1 := congrArg v_iv f19
  have hK_0_2 := elq_53 hD hth cr_0_2
  have hK_0_3 := elq_54 hD hth cr_0_3
  have hK_0_4 := elq_55 hD hth cr_0_4
  have hK_0_5 := elq_56 hD hth cr_0_5
  have hK_0_6 := elq_58 hD hth cr_0_6
  have kz_0_0 := fdq_114 hD hth r0
  have kz_0_1 := fdq_113 hD hth r0
  have hrf0 : 0 ≤ v_iv (n_v vs 20) ∧ v_iv (n_v vs 20) ≤ 23 := vc_St_raise_at_gl2_5_r0 (v_iv (n_v vs 1)) (v_iv (n_v vs 3)) (v_iv (n_v vs 4)) (v_iv (n_v vs 5)) (v_iv (n_v vs 7)) (v_iv (n_v vs 10)) (v_iv (n_v vs 11)) (v_iv (n_v vs 13)) (v_iv (n_v vs 14)) (v_iv (n_v vs 16)) (v_iv (n_v vs 17)) (v_iv (n_v vs 18)) (v_iv (n_v vs 19)) (v_iv (n_v vs 20)) (v_iv (n_v vs 21)) (w_ei ws (w_ar ws (n_v vs 0) 5)) (w_ei ws (w_ar ws (n_v vs 0) 6)) (w_ei ws (w_ar ws (n_v vs 0) 2)) (w_ei ws (w_ar ws (n_v vs 0) 3)) (w_ei ws (w_ar ws (n_v vs 0) 4)) (w_fi ws (n_v vs 0) 1) (w_fi ws (n_v vs 0) 0) k1 k3 k4 k5 k7 k10 k11 k13 k14 k16 k17 k18 k19 k20 k21 d0 d1 d2 d3 d4 h0 h2 h3 h6 (shm_21 f8) h9 h10 (shm_12 f11) h12 h13 h14 (shm_308 f15) h16 (shm_6 f18) g19 f20 hK_0_2 hK_0_3 hK_0_4 hK_0_5 hK_0_6 kz_0_0 kz_0_1
  have hrf1 : (-1) ≤ v_iv (n_v vs 21) ∧ v_iv (n_v vs 21) ≤ 1 := vc_St_raise_at_gl2_5_r1 (v_iv (n_v vs 1)) (v_iv (n_v vs 3)) (v_iv (n_v vs 4)) (v_iv (n_v vs 5)) (v_iv (n_v vs 7)) (v_iv (n_v vs 10)) (v_iv (n_v vs 11)) (v_iv (n_v vs 13)) (v_iv (n_v vs 14)) (v_iv (n_v vs 16)) (v_iv (n_v vs 17)) (v_iv (n_v vs 18)) (v_iv (n_v vs 19)) (v_iv (n_v vs 20)) (v_iv (n_v vs 21)) (w_ei ws (w_ar ws (n_v vs 0) 5)) (w_ei ws (w_ar ws (n_v vs 0) 6)) (w_ei ws (w_ar ws (n_v vs 0) 2)) (w_ei ws (w_ar ws (n_v vs 0) 3)) (w_ei ws (w_ar ws (n_v vs 0) 4)) (w_fi ws (n_v vs 0) 1) (w_fi ws (n_v vs 0) 0) k1 k3 k4 k5 k7 k10 k11 k13 k14 k16 k17 k18 k19 k20 k21 d0 d1 d2 d3 d4 h0 h2 h3 h6 (shm_21 f8) h9 h10 (shm_12 f11) h12 h13 h14 (shm_308 f15) h16 (shm_6 f18) g19 f20 hK_0_2 hK_0_3 hK_0_4 hK_0_5 hK_0_6 kz_0_0 kz_0_1
  have rf20 : tv_ok ta (0, 0, 23, []) (n_v vs 20) := tv_in t20 (by first | omega | grind) (by first | omega | grind)
  have rf21 : tv_ok ta (0, -1, 1, []) (n_v vs 21) := tv_in t21 (by first | omega | grind) (by first | omega | grind)
  refine ⟨List.forall_mem_cons.mpr ⟨rf20, List.forall_mem_cons.mpr ⟨rf21, (fun _ h => (by cases h))⟩⟩, [], trivial, ?_, (fun _ h => (by cases h))⟩
  rw [List.append_nil]
  exact (fun _ h => (by cases h))
set_option maxHeartbeats 4000000 in
theorem vc_St_raise_at_gl2_6_0 (x1 : Int) (x3 : Int) (x4 : Int) (x5 : Int) (x7 : Int) (x10 : Int) (x11 : Int) (x13 : Int) (x14 : Int) (x16 : Int) (x17 : Int) (x18 : Int) (x19 : Int) (x20 : Int) (x21 : Int) (x22 : Int) (x24 : Int) (x25 : Int) (x26 : Int) (to_1 : Int → Int) (gain_2 : Int → Int) (place_2 : Int → Int) (from_2 : Int → Int) (to_2 : Int → Int) (room_2 : Int → Int) (arcs_2 : Int) (nodes_2 : Int) (nodes_0 : Int) (nodes_1 : Int) (arcs_0 : Int) (arcs_1 : Int) (from_0 : Int → Int) (from_1 : Int → Int) (to_0 : Int → Int) (room_0 : Int → Int) (room_1 : Int → Int) (gain_0 : Int → Int) (gain_1 : Int → Int) (place_0 : Int → Int) (place_1 : Int → Int) (by_0 : Int → Int) (by_1 : Int → Int) (by_2 : Int → Int) (k1 : 0 ≤ x1 ∧ x1 ≤ 73) (k3 : 0 ≤ x3 ∧ x3 ≤ 1) (k4 : 0 ≤ x4 ∧ x4 ≤ 383) (k5 : 1 ≤ x5 ∧ x5 ≤ 384) (k7 : 1 ≤ x7 ∧ x7 ≤ 2147483647) (k10 : 0 ≤ x10 ∧ x10 ≤ 71) (k11 : 0 ≤ x11 ∧ x11 ≤ 23) (k13 : (-1) ≤ x13 ∧ x13 ≤ 1) (k14 : (-1) ≤ x14 ∧ x14 ≤ 24) (k16 : 0 ≤ x16 ∧ x16 ≤ 71) (k17 : (-2147483648) ≤ x17 ∧ x17 ≤ 23) (k18 : 0 ≤ x18 ∧ x18 ≤ 71) (k19 : 0 ≤ x19 ∧ x19 ≤ 71) (k20 : 0 ≤ x20 ∧ x20 ≤ 23) (k21 : (-1) ≤ x21 ∧ x21 ≤ 1) (k22 : (-1) ≤ x22 ∧ x22 ≤ 24) (k24 : 0 ≤ x24 ∧ x24 ≤ 71) (k25 : 1 ≤ x25 ∧ x25 ≤ 1) (k26 : 1 ≤ x26 ∧ x26 ≤ 384) (d0 : x4 + 1 ≤ x26 ∧ x26 ≤ x4 + 1) (d1 : x5 + (-4294967296) ≤ x26 ∧ x26 ≤ x5 + 0) (d2 : x21 + 0 ≤ x22 ∧ x22 ≤ x21 + 23) (d3 : x20 + (-1) ≤ x22 ∧ x22 ≤ x20 + 1) (d4 : x17 + 1 ≤ x14 ∧ x14 ≤ x17 + 4294967296) (d5 : x13 + 0 ≤ x14 ∧ x14 ≤ x13 + 23) (d6 : x11 + (-1) ≤ x14 ∧ x14 ≤ x11 + 1) (d7 : x5 + (-4294967296) ≤ x4 ∧ x4 ≤ x5 + (-1)) (d8 : x4 + (-4294967296) ≤ x3 ∧ x3 ≤ x4 + 0) (f0 : x26 = x4 + 1) (h3 : x24 = to_1 (x4)) (f7 : x22 = x20 + x21) (h8 : x21 = gain_2 (x4)) (h10 : x20 = place_2 (x19)) (h11 : x19 = from_2 (x4)) (h14 : x18 = to_2 (x4)) (f15 : x17 < x14) (h16 : x17 = place_2 (x16)) (h17 : x16 = to_2 (x4)) (f18 : x14 = x11 + x13) (h19 : x13 = gain_2 (x4)) (h20 : x11 = place_2 (x10)) (h21 : x10 = from_2 (x4)) (f22 : 0 < x7) (h23 : x7 = room_2 (x4)) (f25 : x4 < x5) (g26 : x5 = arcs_2) (f27 : FNI (nodes_2) (arcs_2) (from_2) (to_2) (room_2) (gain_2) (place_2) (x1) (x4) (x3)) (fe_0_0_1 : nodes_0 = nodes_1) (fe_0_1_1 : arcs_0 = arcs_1) (fe_0_0_2 : nodes_1 = nodes_2) (fe_0_1_2 : arcs_1 = arcs_2) (hE_0_2_1 : ∀ j : Int, from_0 j = from_1 j) (hE_0_2_2 : ∀ j : Int, from_1 j = from_2 j) (hK_0_2 : ∀ j : Int, 0 ≤ j → j < 384 → 0 ≤ from_0 j ∧ from_0 j ≤ 71) (hE_0_3_1 : ∀ j : Int, to_0 j = to_1 j) (hE_0_3_2 : ∀ j : Int, to_1 j = to_2 j) (hK_0_3 : ∀ j : Int, 0 ≤ j → j < 384 → 0 ≤ to_0 j ∧ to_0 j ≤ 71) (hE_0_4_1 : ∀ j : Int, room_0 j = room_1 j) (hE_0_4_2 : ∀ j : Int, room_1 j = room_2 j) (hK_0_4 : ∀ j : Int, 0 ≤ j → j < 384 → (-2147483648) ≤ room_0 j ∧ room_0 j ≤ 2147483647) (hE_0_5_1 : ∀ j : Int, gain_0 j = gain_1 j) (hE_0_5_2 : ∀ j : Int, gain_1 j = gain_2 j) (hK_0_5 : ∀ j : Int, 0 ≤ j → j < 384 → (-20) ≤ gain_0 j ∧ gain_0 j ≤ 20) (hE_0_6_1 : ∀ j : Int, place_0 j = place_1 j) (hE_0_6_2 : ∀ j : Int, 0 ≤ j → (j = x18 → place_1 j = x22) ∧ (j ≠ x18 → place_1 j = place_2 j)) (hK_0_6 : ∀ j : Int, 0 ≤ j → j < 72 → (-2147483648) ≤ place_0 j ∧ place_0 j ≤ 2147483647) (hE_0_7_1 : ∀ j : Int, 0 ≤ j → (j = x24 → by_0 j = x4) ∧ (j ≠ x24 → by_0 j = by_1 j)) (hE_0_7_2 : ∀ j : Int, by_1 j = by_2 j) (hK_0_7 : ∀ j : Int, 0 ≤ j → j < 72 → (-1) ≤ by_0 j ∧ by_0 j ≤ 383) (kz_0_0 : 0 ≤ nodes_0 ∧ nodes_0 ≤ 72) (kz_0_1 : 0 ≤ arcs_0 ∧ arcs_0 ≤ 384) : FNI (nodes_0) (arcs_0) (from_0) (to_0) (room_0) (gain_0) (place_0) (x1) (x26) (x25) := by
  subst fe_0_0_1
  subst fe_0_1_1
  subst fe_0_0_2
  subst fe_0_1_2
  have e_hE_0_2_1 := funext hE_0_2_1; subst e_hE_0_2_1
  have e_hE_0_2_2 := funext hE_0_2_2; subst e_hE_0_2_2
  have e_hE_0_3_1 := funext hE_0_3_1; subst e_hE_0_3_1
  have e_hE_0_3_2 := funext hE_0_3_2; subst e_hE_0_3_2
  have e_hE_0_4_1 := funext hE_0_4_1; subst e_hE_0_4_1
  have e_hE_0_4_2 := funext hE_0_4_2; subst e_hE_0_4_2
  have e_hE_0_5_1 := funext hE_0_5_1; subst e_hE_0_5_1
  have e_hE_0_5_2 := funext hE_0_5_2; subst e_hE_0_5_2
  have e_hE_0_6_1 := funext hE_0_6_1; subst e_hE_0_6_1
  have e_hE_0_7_2 := funext hE_0_7_2; subst e_hE_0_7_2
  first
    | exact fni_start ‹FNL _ _ _ _ _ _ _ _› (by omega) (by omega)
    | (skip; (first | subst h3 | skip); (first | subst h8 | skip); (first | subst h10 | skip); (first | subst h11 | skip); (first | subst h14 | skip); (first | subst h16 | skip); (first | subst h17 | skip); (first | subst h19 | skip); (first | subst h20 | skip); (first | subst h21 | skip); (first | subst h23 | skip); exact fni_skip ‹FNI _ _ _ _ _ _ _ _ _ _› (by first | (left; omega) | (right; omega)) (by omega))
    | (skip; (first | subst h3 | skip); (first | subst h8 | skip); (first | subst h10 | skip); (first | subst h11 | skip); (first | subst h14 | skip); (first | subst h16 | skip); (first | subst h17 | skip); (first | subst h19 | skip); (first | subst h20 | skip); (first | subst h21 | skip); (first | subst h23 | skip); exact fni_set ‹FNI _ _ _ _ _ _ _ _ _ _› (by assumption) rfl (by omega) (by omega) (by omega) (by omega) (by omega) (by omega))
  
def o_St_raise_at_gl2_6 : or_T := (4, 27, [(0, (2, 0, 0, [10])), (1, (0, 0, 73, [])), (3, (0, 0, 1, [])), (4, (0, 0, 383, [])), (5, (0, 1, 384, [])), (7, (0, 1, 2147483647, [])), (8, (2, 0, 0, [122])), (10, (0, 0, 71, [])), (11, (0, 0, 23, [])), (13, (0, -1, 1, [])), (14, (0, -1, 24, [])), (16, (0, 0, 71, [])), (17, (0, -2147483648, 23, [])), (18, (0, 0, 71, [])), (19, (0, 0, 71, [])), (20, (0, 0, 23, [])), (21, (0, -1, 1, [])), (22, (0, -1, 24, [])), (23, (2, 0, 0, [123])), (24, (0, 0, 71, [])), (25, (0, 1, 1, [])), (26, (0, 1, 384, []))], [(6, [26, 4], [1]), (24, [0, 2], []), (100, [23, 24, 4], []), (10, [24, 15, 4], []), (9, [15, 2], [3]), (9, [23, 2], [7]), (100, [8, 18, 22], []), (1, [22, 20, 21], []), (10, [21, 12, 4], []), (9, [12, 2], [5]), (10, [20, 8, 19], []), (10, [19, 9, 4], []), (9, [9, 2], [2]), (9, [8, 2], [6]), (10, [18, 15, 4], []), (7, [14, 17], [4]), (10, [17, 8, 16], []), (10, [16, 15, 4], []), (1, [14, 11, 13], []), (10, [13, 12, 4], []), (10, [11, 8, 10], []), (10, [10, 9, 4], []), (8, [7], [4]), (10, [7, 6, 4], []), (9, [6, 2], [4]), (7, [4, 5], [2]), (9, [5, 2], [1]), (20, [2, 1, 4, 3], [60, 2, 5, 527, 0, 1, 2, 3, 4, 5, 6])], [], [], [(20, [2, 1, 26, 25], [60, 2, 5, 527, 0, 1, 2, 3, 4, 5, 6])], [], [(26, 4, 1, 1), (26, 5, -4294967296, 0), (22, 21, 0, 23), (22, 20, -1, 1), (14, 17, 1, 4294967296), (14, 13, 0, 23), (14, 11, -1, 1), (4, 5, -4294967296, -1), (3, 4, -4294967296, 0)])
theorem oo_St_raise_at_gl2_6 {kA : Nat → ClassId} : or_ok PRD kA GG o_St_raise_at_gl2_6 := by
  refine or_mk fun A ta ws vs hD hth hl => ?_
  intro t0 r0 t1 k1 t3 k3 t4 k4 t5 k5 t7 k7 t8 r8 t10 k10 t11 k11 t13 k13 t14 k14 t16 k16 t17 k17 t18 k18 t19 k19 t20 k20 t21 k21 t22 k22 t23 r23 t24 k24 t25 k25 t26 k26 d0 d1 d2 d3 d4 d5 d6 d7 d8 f0 f1 ta1 w1 le1 s1 f3 f4 f5 ta2 w2 le2 s2 f7 f8 f9 f10 f11 f12 f13 f14 f15 f16 f17 f18 f19 f20 f21 f22 f23 f24 f25 f26 f27
  replace f0 := shm_4 f0
  replace f1 := shm_5 f1
  have s1 : (∀ b j, w_el ws b j = if b = v_ad (n_v vs 23) ∧ j = (v_iv (n_v vs 24)).toNat then v_iv (n_v vs 4) else w_el w1 b j) ∧ ∀ b k, w_fd ws b k = w_fd w1 b k := s1.2
  replace f3 := shm_107 f3
  replace f4 := shm_137 f4
  replace f5 := shm_198 f5
  have s2 : (∀ b j, w_el w1 b j = if b = v_ad (n_v vs 8) ∧ j = (v_iv (n_v vs 18)).toNat then v_iv (n_v vs 22) else w_el w2 b j) ∧ ∀ b k, w_fd w1 b k = w_fd w2 b k := s2.2
  replace f7 := shm_12 f7
  replace f8 := shm_107 f8
  replace f9 := shm_110 f9
  replace f10 := shm_107 f10
  replace f11 := shm_107 f11
  replace f12 := shm_120 f12
  replace f13 := shm_111 f13
  replace f14 := shm_107 f14
  replace f15 := shm_21 f15
  replace f16 := shm_107 f16
  replace f17 := shm_107 f17
  replace f18 := shm_12 f18
  replace f19 := shm_107 f19
  replace f20 := shm_107 f20
  replace f21 := shm_107 f21
  replace f22 := shm_308 f22
  replace f23 := shm_107 f23
  replace f24 := shm_108 f24
  replace f25 := shm_6 f25
  replace f26 := shm_215 f26
  replace f27 := shm_487 f27
  have q2 : n_v vs 2 = n_v vs 0 := f1.symm
  simp only [q2] at f4 f5 f9 f12 f13 f24 f26 f27
  have ar_0_2_1 : w_ar w1 (n_v vs 0) 2 = w_ar ws (n_v vs 0) 2 := congrArg v_ad (s1.2 _ _).symm
  have ar_0_2_2 : w_ar w2 (n_v vs 0) 2 = w_ar ws (n_v vs 0) 2 := by rw [← ar_0_2_1]; show v_ad (w_fd w2 _ _) = v_ad (w_fd w1 _ _); rw [s2.2]
  have cr_0_2 := fdq_108 hD hth r0
  have ar_0_3_1 : w_ar w1 (n_v vs 0) 3 = w_ar ws (n_v vs 0) 3 := congrArg v_ad (s1.2 _ _).symm
  have ar_0_3_2 : w_ar w2 (n_v vs 0) 3 = w_ar ws (n_v vs 0) 3 := by rw [← ar_0_3_1]; show v_ad (w_fd w2 _ _) = v_ad (w_fd w1 _ _); rw [s2.2]
  have cr_0_3 := fdq_109 hD hth r0
  have ar_0_4_1 : w_ar w1 (n_v vs 0) 4 = w_ar ws (n_v vs 0) 4 := congrArg v_ad (s1.2 _ _).symm
  have ar_0_4_2 : w_ar w2 (n_v vs 0) 4 = w_ar ws (n_v vs 0) 4 := by rw [← ar_0_4_1]; show v_ad (w_fd w2 _ _) = v_ad (w_fd w1 _ _); rw [s2.2]
  have cr_0_4 := fdq_110 hD hth r0
  have ar_0_5_1 : w_ar w1 (n_v vs 0) 5 = w_ar ws (n_v vs 0) 5 := congrArg v_ad (s1.2 _ _).symm
  have ar_0_5_2 : w_ar w2 (n_v vs 0) 5 = w_ar ws (n_v vs 0) 5 := by rw [← ar_0_5_1]; show v_ad (w_fd w2 _ _) = v_ad (w_fd w1 _ _); rw [s2.2]
  have cr_0_5 := fdq_111 hD hth r0
  have ar_0_6_1 : w_ar w1 (n_v vs 0) 6 = w_ar ws (n_v vs 0) 6 := congrArg v_ad (s1.2 _ _).symm
  have ar_0_6_2 : w_ar w2 (n_v vs 0) 6 = w_ar ws (n_v vs 0) 6 := by rw [← ar_0_6_1]; show v_ad (w_fd w2 _ _) = v_ad (w_fd w1 _ _); rw [s2.2]
  have cr_0_6 := fdq_115 hD hth r0
  have ar_0_7_1 : w_ar w1 (n_v vs 0) 7 = w_ar ws (n_v vs 0) 7 := congrArg v_ad (s1.2 _ _).symm
  have cr_0_7 := fdq_116 hD hth r0
  have ad_15 : v_ad (n_v vs 15) = w_ar ws (n_v vs 0) 3 := (congrArg v_ad f4).trans ar_0_3_1
  have ad_23 : v_ad (n_v vs 23) = w_ar ws (n_v vs 0) 7 := (congrArg v_ad f5).trans ar_0_7_1
  have ad_12 : v_ad (n_v vs 12) = w_ar ws (n_v vs 0) 5 := (congrArg v_ad f9).trans ar_0_5_2
  have ad_9 : v_ad (n_v vs 9) = w_ar ws (n_v vs 0) 2 := (congrArg v_ad f12).trans ar_0_2_2
  have ad_8 : v_ad (n_v vs 8) = w_ar ws (n_v vs 0) 6 := (congrArg v_ad f13).trans ar_0_6_2
  have ad_6 : v_ad (n_v vs 6) = w_ar ws (n_v vs 0) 4 := (congrArg v_ad f24).trans ar_0_4_2
  simp only [ad_15] at f3
  have h3 : v_iv (n_v vs 24) = w_ei w1 (w_ar ws (n_v vs 0) 3) (v_iv (n_v vs 4)) := f3
  simp only [ad_12] at f8
  have h8 : v_iv (n_v vs 21) = w_ei w2 (w_ar ws (n_v vs 0) 5) (v_iv (n_v vs 4)) := f8
  simp only [ad_8] at f10
  have h10 : v_iv (n_v vs 20) = w_ei w2 (w_ar ws (n_v vs 0) 6) (v_iv (n_v vs 19)) := f10
  simp only [ad_9] at f11
  have h11 : v_iv (n_v vs 19) = w_ei w2 (w_ar ws (n_v vs 0) 2) (v_iv (n_v vs 4)) := f11
  simp only [ad_15] at f14
  have h14 : v_iv (n_v vs 18) = w_ei w2 (w_ar ws (n_v vs 0) 3) (v_iv (n_v vs 4)) := f14
  simp only [ad_8] at f16
  have h16 : v_iv (n_v vs 17) = w_ei w2 (w_ar ws (n_v vs 0) 6) (v_iv (n_v vs 16)) := f16
  simp only [ad_15] at f17
  have h17 : v_iv (n_v vs 16) = w_ei w2 (w_ar ws (n_v vs 0) 3) (v_iv (n_v vs 4)) := f17
  simp only [ad_12] at f19
  have h19 : v_iv (n_v vs 13) = w_ei w2 (w_ar ws (n_v vs 0) 5) (v_iv (n_v vs 4)) := f19
  simp only [ad_8] at f20
  have h20 : v_iv (n_v vs 11) = w_ei w2 (w_ar ws (n_v vs 0) 6) (v_iv (n_v vs 10)) := f20
  simp only [ad_9] at f21
  have h21 : v_iv (n_v vs 10) = w_ei w2 (w_ar ws (n_v vs 0) 2) (v_iv (n_v vs 4)) := f21
  simp only [ad_6] at f23
  have h23 : v_iv (n_v vs 7) = w_ei w2 (w_ar ws (n_v vs 0) 4) (v_iv (n_v vs 4)) := f23
  have g26 : v_iv (n_v vs 5) = w_fi w2 (n_v vs 0) 1 := congrArg v_iv f26
  simp only [ar_0_2_2, ar_0_3_2, ar_0_4_2, ar_0_5_2, ar_0_6_2] at f27
  have fe_0_0_1 : w_fi ws (n_v vs 0) 0 = w_fi w1 (n_v vs 0) 0 := congrArg v_iv (s1.2 _ _)
  have fe_0_1_1 : w_fi ws (n_v vs 0) 1 = w_fi w1 (n_v vs 0) 1 := congrArg v_iv (s1.2 _ _)
  have fe_0_0_2 : w_fi w1 (n_v vs 0) 0 = w_fi w2 (n_v vs 0) 0 := congrArg v_iv (s2.2 _ _)
  have fe_0_1_2 : w_fi w1 (n_v vs 0) 1 = w_fi w2 (n_v vs 0) 1 := congrArg v_iv (s2.2 _ _)
  have hE_0_2_1 : ∀ j : Int, w_ei ws (w_ar ws (n_v vs 0) 2) j = w_ei w1 (w_ar ws (n_v vs 0) 2) j := el_kp s1.1 r23 cr_0_2 (by decide)
  have hE_0_2_2 : ∀ j : Int, w_ei w1 (w_ar ws (n_v vs 0) 2) j = w_ei w2 (w_ar ws (n_v vs 0) 2) j := el_kp s2.1 r8 cr_0_2 (by decide)
  have hK_0_2 := elq_53 hD hth cr_0_2
  have hE_0_3_1 : ∀ j : Int, w_ei ws (w_ar ws (n_v vs 0) 3) j = w_ei w1 (w_ar ws (n_v vs 0) 3) j := el_kp s1.1 r23 cr_0_3 (by decide)
  have hE_0_3_2 : ∀ j : Int, w_ei w1 (w_ar ws (n_v vs 0) 3) j = w_ei w2 (w_ar ws (n_v vs 0) 3) j := el_kp s2.1 r8 cr_0_3 (by decide)
  have hK_0_3 := elq_54 hD hth cr_0_3
  have hE_0_4_1 : ∀ j : Int, w_ei ws (w_ar ws (n_v vs 0) 4) j = w_ei w1 (w_ar ws (n_v vs 0) 4) j := el_kp s1.1 r23 cr_0_4 (by decide)
  have hE_0_4_2 : ∀ j : Int, w_ei w1 (w_ar ws (n_v vs 0) 4) j = w_ei w2 (w_ar ws (n_v vs 0) 4) j := el_kp s2.1 r8 cr_0_4 (by decide)
  have hK_0_4 := elq_55 hD hth cr_0_4
  have hE_0_5_1 : ∀ j : Int, w_ei ws (w_ar ws (n_v vs 0) 5) j = w_ei w1 (w_ar ws (n_v vs 0) 5) j := el_kp s1.1 r23 cr_0_5 (by decide)
  have hE_0_5_2 : ∀ j : Int, w_ei w1 (w_ar ws (n_v vs 0) 5) j = w_ei w2 (w_ar ws (n_v vs 0) 5) j := el_kp s2.1 r8 cr_0_5 (by decide)
  have hK_0_5 := elq_56 hD hth cr_0_5
  have hE_0_6_1 : ∀ j : Int, w_ei ws (w_ar ws (n_v vs 0) 6) j = w_ei w1 (w_ar ws (n_v vs 0) 6) j := el_kp s1.1 r23 cr_0_6 (by decide)
  have hE_0_6_2 : ∀ j : Int, 0 ≤ j → (j = v_iv (n_v vs 18) → w_ei w1 (w_ar ws (n_v vs 0) 6) j = v_iv (n_v vs 22)) ∧ (j ≠ v_iv (n_v vs 18) → w_ei w1 (w_ar ws (n_v vs 0) 6) j = w_ei w2 (w_ar ws (n_v vs 0) 6) j) := fun j hj => ⟨fun h => by unfold w_ei; rw [s2.1, if_pos ⟨ad_8.symm, by rw [h]⟩], fun h => by unfold w_ei; rw [s2.1, if_neg (fun e => h (by have := e.2; omega))]⟩
  have hK_0_6 := elq_58 hD hth cr_0_6
  have hE_0_7_1 : ∀ j : Int, 0 ≤ j → (j = v_iv (n_v vs 24) → w_ei ws (w_ar ws (n_v vs 0) 7) j = v_iv (n_v vs 4)) ∧ (j ≠ v_iv (n_v vs 24) → w_ei ws (w_ar ws (n_v vs 0) 7) j = w_ei w1 (w_ar ws (n_v vs 0) 7) j) := fun j hj => ⟨fun h => by unfold w_ei; rw [s1.1, if_pos ⟨ad_23.symm, by rw [h]⟩], fun h => by unfold w_ei; rw [s1.1, if_neg (fun e => h (by have := e.2; omega))]⟩
  have hE_0_7_2 : ∀ j : Int, w_ei w1 (w_ar ws (n_v vs 0) 7) j = w_ei w2 (w_ar ws (n_v vs 0) 7) j := el_kp s2.1 r8 cr_0_7 (by decide)
  have hK_0_7 := elq_59 hD hth cr_0_7
  have kz_0_0 := fdq_114 hD hth r0
  have kz_0_1 := fdq_113 hD hth r0
  have nf0 : fc_1 PRD (20, [2, 1, 26, 25], [60, 2, 5, 527, 0, 1, 2, 3, 4, 5, 6]) ws (vs) := by
    refine ⟨nf_in hl rfl, sgq_487 ?_⟩
    · show FNI (w_fi ws (n_v vs 2) 0) (w_fi ws (n_v vs 2) 1) (w_ei ws (w_ar ws (n_v vs 2) 2)) (w_ei ws (w_ar ws (n_v vs 2) 3)) (w_ei ws (w_ar ws (n_v vs 2) 4)) (w_ei ws (w_ar ws (n_v vs 2) 5)) (w_ei ws (w_ar ws (n_v vs 2) 6)) (v_iv (n_v vs 1)) (v_iv (n_v vs 26)) (v_iv (n_v vs 25))
      rw [q2]
      exact vc_St_raise_at_gl2_6_0 (v_iv (n_v vs 1)) (v_iv (n_v vs 3)) (v_iv (n_v vs 4)) (v_iv (n_v vs 5)) (v_iv (n_v vs 7)) (v_iv (n_v vs 10)) (v_iv (n_v vs 11)) (v_iv (n_v vs 13)) (v_iv (n_v vs 14)) (v_iv (n_v vs 16)) (v_iv (n_v vs 17)) (v_iv (n_v vs 18)) (v_iv (n_v vs 19)) (v_iv (n_v vs 20)) (v_iv (n_v vs 21)) (v_iv (n_v vs 22)) (v_iv (n_v vs 24)) (v_iv (n_v vs 25)) (v_iv (n_v vs 26)) (w_ei w1 (w_ar ws (n_v vs 0) 3)) (w_ei w2 (w_ar ws (n_v vs 0) 5)) (w_ei w2 (w_ar ws (n_v vs 0) 6)) (w_ei w2 (w_ar ws (n_v vs 0) 2)) (w_ei w2 (w_ar ws (n_v vs 0) 3)) (w_ei w2 (w_ar ws (n_v vs 0) 4)) (w_fi w2 (n_v vs 0) 1) (w_fi w2 (n_v vs 0) 0) (w_fi ws (n_v vs 0) 0) (w_fi w1 (n_v vs 0) 0) (w_fi ws (n_v vs 0) 1) (w_fi w1 (n_v vs 0) 1) (w_ei ws (w_ar ws (n_v vs 0) 2)) (w_ei w1 (w_ar ws (n_v vs 0) 2)) (w_ei ws (w_ar ws (n_v vs 0) 3)) (w_ei ws (w_ar ws (n_v vs 0) 4)) (w_ei w1 (w_ar ws (n_v vs 0) 4)) (w_ei ws (w_ar ws (n_v vs 0) 5)) (w_ei w1 (w_ar ws (n_v vs 0) 5)) (w_ei ws (w_ar ws (n_v vs 0) 6)) (w_ei w1 (w_ar ws (n_v vs 0) 6)) (w_ei ws (w_ar ws (n_v vs 0) 7)) (w_ei w1 (w_ar ws (n_v vs 0) 7)) (w_ei w2 (w_ar ws (n_v vs 0) 7)) k1 k3 k4 k5 k7 k10 k11 k13 k14 k16 k17 k18 k19 k20 k21 k22 k24 k25 k26 d0 d1 d2 d3 d4 d5 d6 d7 d8 f0 h3 f7 h8 h10 h11 h14 f15 h16 h17 f18 h19 h20 h21 f22 h23 f25 g26 f27 fe_0_0_1 fe_0_1_1 fe_0_0_2 fe_0_1_2 hE_0_2_1 hE_0_2_2 hK_0_2 hE_0_3_1 hE_0_3_2 hK_0_3 hE_0_4_1 hE_0_4_2 hK_0_4 hE_0_5_1 hE_0_5_2 hK_0_5 hE_0_6_1 hE_0_6_2 hK_0_6 hE_0_7_1 hE_0_7_2 hK_0_7 kz_0_0 kz_0_1
  refine ⟨(fun _ h => (by cases h)), [], trivial, ?_, (fun _ h => (by cases h))⟩
  rw [List.append_nil]
  exact List.forall_mem_cons.mpr ⟨⟨show (20 : Nat) < 100 from by decide, nf0⟩, (fun _ h => (by cases h))⟩
def n_St_raise_at_gl2_an : List an_T := [(4, [(0, (2, 0, 0, [10])), (1, (0, 0, 1, [])), (2, (0, 0, 384, []))], [], (0, 0), [(0, 0, 99996), (1, 4, 384), (0, 0, 100000)], [(3, 4, (Int.negSucc 999999999999), 0)], [], [(2, 0, 0, [10]), (0, 0, 73, [])], 0, [], [(20, [2, 1, 4, 3], [60, 2, 5, 527, 0, 1, 2, 3, 4, 5, 6]), (24, [0, 2], [])])]
def t_St_raise_at_gl2_ct : ct_L := []
set_option maxRecDepth 100000 in
theorem c_St_raise_at_gl2 {l : Launch} {D : va_G} {kA : Nat → ClassId} : ct_ok PRD l D kA GG y_St_raise_at_gl2 z_St_raise_at_gl2 e_St_raise_at_gl2 := chk_all_ok (FT := [(15, 10, 1), (18, 10, 2), (22, 10, 3), (25, 10, 4), (28, 10, 5), (31, 10, 6), (34, 10, 7)]) (PT := []) (CT := t_St_raise_at_gl2_ct) (KT := []) (NT := []) (AN := n_St_raise_at_gl2_an) (OT := [o_St_raise_at_gl2_0, o_St_raise_at_gl2_1, o_St_raise_at_gl2_2, o_St_raise_at_gl2_3, o_St_raise_at_gl2_4, o_St_raise_at_gl2_5, o_St_raise_at_gl2_6]) 3 280 (List.forall_mem_cons.mpr ⟨oo_St_raise_at_gl2_0, List.forall_mem_cons.mpr ⟨oo_St_raise_at_gl2_1, List.forall_mem_cons.mpr ⟨oo_St_raise_at_gl2_2, List.forall_mem_cons.mpr ⟨oo_St_raise_at_gl2_3, List.forall_mem_cons.mpr ⟨oo_St_raise_at_gl2_4, List.forall_mem_cons.mpr ⟨oo_St_raise_at_gl2_5, List.forall_mem_cons.mpr ⟨oo_St_raise_at_gl2_6, List.forall_mem_nil _⟩⟩⟩⟩⟩⟩⟩) (by decide +kernel) ⟨List.forall_mem_cons.mpr ⟨gf_St_15, List.forall_mem_cons.mpr ⟨gf_St_18, List.forall_mem_cons.mpr ⟨gf_St_22, List.forall_mem_cons.mpr ⟨gf_St_25, List.forall_mem_cons.mpr ⟨gf_St_28, List.forall_mem_cons.mpr ⟨gf_St_31, List.forall_mem_cons.mpr ⟨gf_St_34, List.forall_mem_nil _⟩⟩⟩⟩⟩⟩⟩, List.forall_mem_nil _, List.forall_mem_nil _, List.forall_mem_nil _, List.forall_mem_nil _, GG_pl⟩ (by decide +kernel)
set_option maxHeartbeats 4000000 in
theorem vc_St_raise_at_gr2_0_0 (x1 : Int) (x3 : Int) (place_0 : Int → Int) (k1 : 0 ≤ x1 ∧ x1 ≤ 73) (k3 : 0 ≤ x3 ∧ x3 ≤ 0) (f0 : PBX (place_0) (x1)) (hK_0_6 : ∀ j : Int, 0 ≤ j → j < 72 → (-2147483648) ≤ place_0 j ∧ place_0 j ≤ 2147483647) : PBY (place_0) (x1) (x3) := by
  first
    | (intro v a b; have := ‹PBX _ _› v a b; omega)
    | (intro v a b; have := ‹PBY _ _ _› v a b; omega)
    | (skip; exact pby_set (u := from_0 x4) ‹PBY _ _ _› (by assumption) (by omega) (by omega) (by omega) (by omega) (by omega) (by omega) (by omega) (by omega))
    | (skip; exact pby_set (u := from_1 x4) ‹PBY _ _ _› (by assumption) (by omega) (by omega) (by omega) (by omega) (by omega) (by omega) (by omega) (by omega))
    | (skip; exact pby_set (u := from_2 x4) ‹PBY _ _ _› (by assumption) (by omega) (by omega) (by omega) (by omega) (by omega) (by omega) (by omega) (by omega))
  
def o_St_raise_at_gr2_0 : or_T := (4, 4, [(0, (2, 0, 0, [10])), (1, (0, 0, 73, [])), (3, (0, 0, 0, []))], [(20, [0, 1], [60, 0, 1, 539, 6])], [], [], [(20, [0, 1, 3], [60, 0, 1, 541, 6]), (24, [0, 0], [])], [], [])
theorem oo_St_raise_at_gr2_0 {kA : Nat → ClassId} : or_ok PRD kA GG o_St_raise_at_gr2_0 := by
  refine or_mk fun A ta ws vs hD hth hl => ?_
  intro t0 r0 t1 k1 t3 k3 f0
  have cr_0_6 := fdq_115 hD hth r0
  have hK_0_6 := elq_58 hD hth cr_0_6
  have nf0 : fc_1 PRD (20, [0, 1, 3], [60, 0, 1, 541, 6]) ws (vs) := ⟨nf_in hl rfl, sgq_490 (vc_St_raise_at_gr2_0_0 (v_iv (n_v vs 1)) (v_iv (n_v vs 3)) (w_ei ws (w_ar ws (n_v vs 0) 6)) k1 k3 (shm_489 f0) hK_0_6)⟩
  have nf1 : fc_1 PRD (24, [0, 0], []) ws (vs) := by
    refine ⟨nf_in hl rfl, sgq_1 ?_⟩
    · show n_v vs 0 = n_v vs 0
      first | rfl | simp only [true_and]
  refine ⟨(fun _ h => (by cases h)), [], trivial, ?_, (fun _ h => (by cases h))⟩
  rw [List.append_nil]
  exact List.forall_mem_cons.mpr ⟨⟨show (20 : Nat) < 100 from by decide, nf0⟩, List.forall_mem_cons.mpr ⟨⟨show (24 : Nat) < 100 from by decide, nf1⟩, (fun _ h => (by cases h))⟩⟩
set_option maxHeartbeats 4000000 in
theorem vc_St_raise_at_gr2_1_0 (x1 : Int) (x4 : Int) (x5 : Int) (arcs_0 : Int) (place_0 : Int → Int) (k1 : 0 ≤ x1 ∧ x1 ≤ 73) (k4 : 0 ≤ x4 ∧ x4 ≤ 384) (k5 : 0 ≤ x5 ∧ x5 ≤ 384) (d0 : x5 + 0 ≤ x4 ∧ x4 ≤ x5 + 4294967296) (f0 : x5 ≤ x4) (g1 : x5 = arcs_0) (f2 : PBY (place_0) (x1) (x4)) (hK_0_6 : ∀ j : Int, 0 ≤ j → j < 72 → (-2147483648) ≤ place_0 j ∧ place_0 j ≤ 2147483647) (kz_0_1 : 0 ≤ arcs_0 ∧ arcs_0 ≤ 384) : PBX1 (place_0) (x1) := by
  intro v a b; have := ‹PBY _ _ _› v a b; omega
def o_St_raise_at_gr2_1 : or_T := (103, 6, [(0, (2, 0, 0, [10])), (1, (0, 0, 73, [])), (4, (0, 0, 384, [])), (5, (0, 0, 384, []))], [(7, [4, 5], [3]), (9, [5, 2], [1]), (20, [2, 1, 4], [60, 0, 1, 541, 6]), (24, [0, 2], [])], [], [], [(20, [0, 1], [60, 0, 1, 540, 6])], [], [(4, 5, 0, 4294967296)])
theorem oo_St_raise_at_gr2_1 {kA : Nat → ClassId} : or_ok PRD kA GG o_St_raise_at_gr2_1 := by
  refine or_mk fun A ta ws vs hD hth hl => ?_
  intro t0 r0 t1 k1 t4 k4 t5 k5 d0 f0 f1 f2 f3
  replace f1 := shm_215 f1
  replace f2 := shm_490 f2
  replace f3 := shm_5 f3
  have q2 : n_v vs 2 = n_v vs 0 := f3.symm
  simp only [q2] at f1 f2
  have cr_0_6 := fdq_115 hD hth r0
  have g1 : v_iv (n_v vs 5) = w_fi ws (n_v vs 0) 1 := congrArg v_iv f1
  have hK_0_6 := elq_58 hD hth cr_0_6
  have kz_0_1 := fdq_113 hD hth r0
  have nf0 : fc_1 PRD (20, [0, 1], [60, 0, 1, 540, 6]) ws (vs) := ⟨nf_in hl rfl, sgq_491 (vc_St_raise_at_gr2_1_0 (v_iv (n_v vs 1)) (v_iv (n_v vs 4)) (v_iv (n_v vs 5)) (w_fi ws (n_v vs 0) 1) (w_ei ws (w_ar ws (n_v vs 0) 6)) k1 k4 k5 d0 (shm_2 f0) g1 f2 hK_0_6 kz_0_1)⟩
  refine ⟨(fun _ h => (by cases h)), [], trivial, ?_, (fun _ h => (by cases h))⟩
  rw [List.append_nil]
  exact List.forall_mem_cons.mpr ⟨⟨show (20 : Nat) < 100 from by decide, nf0⟩, (fun _ h => (by cases h))⟩
set_option maxHeartbeats 4000000 in
theorem vc_St_raise_at_gr2_2_0 (x1 : Int) (x4 : Int) (x5 : Int) (x8 : Int) (arcs_0 : Int) (place_0 : Int → Int) (k1 : 0 ≤ x1 ∧ x1 ≤ 73) (k4 : 0 ≤ x4 ∧ x4 ≤ 383) (k5 : 1 ≤ x5 ∧ x5 ≤ 384) (k8 : 1 ≤ x8 ∧ x8 ≤ 384) (d0 : x4 + 1 ≤ x8 ∧ x8 ≤ x4 + 1) (d1 : x5 + (-4294967296) ≤ x8 ∧ x8 ≤ x5 + 0) (d2 : x5 + (-4294967296) ≤ x4 ∧ x4 ≤ x5 + (-1)) (f0 : x8 = x4 + 1) (f1 : x4 < x5) (g2 : x5 = arcs_0) (f3 : PBY (place_0) (x1) (x4)) (hK_0_6 : ∀ j : Int, 0 ≤ j → j < 72 → (-2147483648) ≤ place_0 j ∧ place_0 j ≤ 2147483647) (kz_0_1 : 0 ≤ arcs_0 ∧ arcs_0 ≤ 384) : PBY (place_0) (x1) (x8) := by
  first
    | (intro v a b; have := ‹PBX _ _› v a b; omega)
    | (intro v a b; have := ‹PBY _ _ _› v a b; omega)
    | (skip; exact pby_set (u := from_0 x4) ‹PBY _ _ _› (by assumption) (by omega) (by omega) (by omega) (by omega) (by omega) (by omega) (by omega) (by omega))
    | (skip; exact pby_set (u := from_1 x4) ‹PBY _ _ _› (by assumption) (by omega) (by omega) (by omega) (by omega) (by omega) (by omega) (by omega) (by omega))
    | (skip; exact pby_set (u := from_2 x4) ‹PBY _ _ _› (by assumption) (by omega) (by omega) (by omega) (by omega) (by omega) (by omega) (by omega) (by omega))
  
def o_St_raise_at_gr2_2 : or_T := (4, 9, [(0, (2, 0, 0, [10])), (1, (0, 0, 73, [])), (4, (0, 0, 383, [])), (5, (0, 1, 384, [])), (8, (0, 1, 384, []))], [(6, [8, 4], [1]), (7, [4, 5], [2]), (9, [5, 2], [1]), (20, [2, 1, 4], [60, 0, 1, 541, 6]), (24, [0, 2], [])], [], [], [(20, [2, 1, 8], [60, 0, 1, 541, 6])], [], [(8, 4, 1, 1), (8, 5, -4294967296, 0), (4, 5, -4294967296, -1)])
theorem oo_St_raise_at_gr2_2 {kA : Nat → ClassId} : or_ok PRD kA GG o_St_raise_at_gr2_2 := by
  refine or_mk fun A ta ws vs hD hth hl => ?_
  intro t0 r0 t1 k1 t4 k4 t5 k5 t8 k8 d0 d1 d2 f0 f1 f2 f3 f4
  replace f0 := shm_4 f0
  replace f1 := shm_6 f1
  replace f2 := shm_215 f2
  replace f3 := shm_490 f3
  replace f4 := shm_5 f4
  have q2 : n_v vs 2 = n_v vs 0 := f4.symm
  simp only [q2] at f2 f3
  have cr_0_6 := fdq_115 hD hth r0
  have g2 : v_iv (n_v vs 5) = w_fi ws (n_v vs 0) 1 := congrArg v_iv f2
  have hK_0_6 := elq_58 hD hth cr_0_6
  have kz_0_1 := fdq_113 hD hth r0
  have nf0 : fc_1 PRD (20, [2, 1, 8], [60, 0, 1, 541, 6]) ws (vs) := by
    refine ⟨nf_in hl rfl, sgq_490 ?_⟩
    · show PBY (w_ei ws (w_ar ws (n_v vs 2) 6)) (v_iv (n_v vs 1)) (v_iv (n_v vs 8))
      rw [q2]
      exact vc_St_raise_at_gr2_2_0 (v_iv (n_v vs 1)) (v_iv (n_v vs 4)) (v_iv (n_v vs 5)) (v_iv (n_v vs 8)) (w_fi ws (n_v vs 0) 1) (w_ei ws (w_ar ws (n_v vs 0) 6)) k1 k4 k5 k8 d0 d1 d2 f0 f1 g2 f3 hK_0_6 kz_0_1
  refine ⟨(fun _ h => (by cases h)), [], trivial, ?_, (fun _ h => (by cases h))⟩
  rw [List.append_nil]
  exact List.forall_mem_cons.mpr ⟨⟨show (20 : Nat) < 100 from by decide, nf0⟩, (fun _ h => (by cases h))⟩
set_option maxHeartbeats 4000000 in
theorem vc_St_raise_at_gr2_3_r0 (x1 : Int) (x4 : Int) (x5 : Int) (x10 : Int) (x11 : Int) (place_0 : Int → Int) (from_0 : Int → Int) (arcs_0 : Int) (k1 : 0 ≤ x1 ∧ x1 ≤ 73) (k4 : 0 ≤ x4 ∧ x4 ≤ 383) (k5 : 1 ≤ x5 ∧ x5 ≤ 384) (k10 : 0 ≤ x10 ∧ x10 ≤ 71) (k11 : (-2147483648) ≤ x11 ∧ x11 ≤ 2147483647) (d0 : x5 + (-4294967296) ≤ x4 ∧ x4 ≤ x5 + (-1)) (h0 : x11 = place_0 (x10)) (h1 : x10 = from_0 (x4)) (f4 : x4 < x5) (g5 : x5 = arcs_0) (f6 : PBY (place_0) (x1) (x4)) (hK_0_2 : ∀ j : Int, 0 ≤ j → j < 384 → 0 ≤ from_0 j ∧ from_0 j ≤ 71) (hK_0_6 : ∀ j : Int, 0 ≤ j → j < 72 → (-2147483648) ≤ place_0 j ∧ place_0 j ≤ 2147483647) (kz_0_1 : 0 ≤ arcs_0 ∧ arcs_0 ≤ 384) : 0 ≤ x11 ∧ x11 ≤ 600000 := by
  first | subst h0 | skip
  first | subst h1 | skip
  have b := ‹PBY _ _ _› (from_0 x4) (by omega) (by omega)
  omega
def o_St_raise_at_gr2_3 : or_T := (38, 14, [(0, (2, 0, 0, [10])), (1, (0, 0, 73, [])), (2, (2, 0, 0, [10])), (4, (0, 0, 383, [])), (5, (0, 1, 384, [])), (8, (2, 0, 0, [122])), (9, (2, 0, 0, [118])), (10, (0, 0, 71, [])), (11, (0, -2147483648, 2147483647, []))], [(10, [11, 8, 10], []), (10, [10, 9, 4], []), (9, [9, 2], [2]), (9, [8, 2], [6]), (7, [4, 5], [2]), (9, [5, 2], [1]), (20, [2, 1, 4], [60, 0, 1, 541, 6]), (24, [0, 2], [])], [(11, (0, 0, 600000, []))], [], [], [], [(4, 5, -4294967296, -1)])
theorem oo_St_raise_at_gr2_3 {kA : Nat → ClassId} : or_ok PRD kA GG o_St_raise_at_gr2_3 := by
  refine or_mk fun A ta ws vs hD hth hl => ?_
  intro t0 r0 t1 k1 t2 r2 t4 k4 t5 k5 t8 r8 t9 r9 t10 k10 t11 k11 d0 f0 f1 f2 f3 f4 f5 f6 f7
  replace f0 := shm_107 f0
  replace f1 := shm_107 f1
  replace f2 := shm_120 f2
  replace f3 := shm_111 f3
  replace f5 := shm_215 f5
  replace f6 := shm_490 f6
  replace f7 := shm_5 f7
  have q2 : n_v vs 2 = n_v vs 0 := f7.symm
  simp only [q2] at f2 f3 f5 f6
  have cr_0_2 := fdq_108 hD hth r0
  have cr_0_6 := fdq_115 hD hth r0
  have ad_9 : v_ad (n_v vs 9) = w_ar ws (n_v vs 0) 2 := congrArg v_ad f2
  have ad_8 : v_ad (n_v vs 8) = w_ar ws (n_v vs 0) 6 := congrArg v_ad f3
  simp only [ad_8] at f0
  have h0 : v_iv (n_v vs 11) = w_ei ws (w_ar ws (n_v vs 0) 6) (v_iv (n_v vs 10)) := f0
  simp only [ad_9] at f1
  have h1 : v_iv (n_v vs 10) = w_ei ws (w_ar ws (n_v vs 0) 2) (v_iv (n_v vs 4)) := f1
  have g5 : v_iv (n_v vs 5) = w_fi ws (n_v vs 0) 1 := congrArg v_iv f5
  have hK_0_2 := elq_53 hD hth cr_0_2
  have hK_0_6 := elq_58 hD hth cr_0_6
  have kz_0_1 := fdq_113 hD hth r0
  have hrf0 : 0 ≤ v_iv (n_v vs 11) ∧ v_iv (n_v vs 11) ≤ 600000 := vc_St_raise_at_gr2_3_r0 (v_iv (n_v vs 1)) (v_iv (n_v vs 4)) (v_iv (n_v vs 5)) (v_iv (n_v vs 10)) (v_iv (n_v vs 11)) (w_ei ws (w_ar ws (n_v vs 0) 6)) (w_ei ws (w_ar ws (n_v vs 0) 2)) (w_fi ws (n_v vs 0) 1) k1 k4 k5 k10 k11 d0 h0 h1 (shm_6 f4) g5 f6 hK_0_2 hK_0_6 kz_0_1
  have rf11 : tv_ok ta (0, 0, 600000, []) (n_v vs 11) := tv_in t11 (by first | omega | grind) (by first | omega | grind)
  refine ⟨List.forall_mem_cons.mpr ⟨rf11, (fun _ h => (by cases h))⟩, [], trivial, ?_, (fun _ h => (by cases h))⟩
  rw [List.append_nil]
  exact (fun _ h => (by cases h))
set_option maxHeartbeats 4000000 in
theorem vc_St_raise_at_gr2_4_0 (x1 : Int) (x4 : Int) (x5 : Int) (x10 : Int) (x11 : Int) (x13 : Int) (x14 : Int) (x16 : Int) (x17 : Int) (x18 : Int) (place_0 : Int → Int) (to_0 : Int → Int) (gain_0 : Int → Int) (from_0 : Int → Int) (arcs_0 : Int) (k1 : 0 ≤ x1 ∧ x1 ≤ 73) (k4 : 0 ≤ x4 ∧ x4 ≤ 383) (k5 : 1 ≤ x5 ∧ x5 ≤ 384) (k10 : 0 ≤ x10 ∧ x10 ≤ 71) (k11 : 0 ≤ x11 ∧ x11 ≤ 600000) (k13 : (-20) ≤ x13 ∧ x13 ≤ 20) (k14 : (-20) ≤ x14 ∧ x14 ≤ 600020) (k16 : 0 ≤ x16 ∧ x16 ≤ 71) (k17 : (-20) ≤ x17 ∧ x17 ≤ 2147483647) (k18 : 1 ≤ x18 ∧ x18 ≤ 384) (d0 : x4 + 1 ≤ x18 ∧ x18 ≤ x4 + 1) (d1 : x5 + (-4294967296) ≤ x18 ∧ x18 ≤ x5 + 0) (d2 : x17 + (-4294967296) ≤ x14 ∧ x14 ≤ x17 + 0) (d3 : x13 + 0 ≤ x14 ∧ x14 ≤ x13 + 600000) (d4 : x11 + (-20) ≤ x14 ∧ x14 ≤ x11 + 20) (d5 : x5 + (-4294967296) ≤ x4 ∧ x4 ≤ x5 + (-1)) (f0 : x18 = x4 + 1) (f1 : x14 ≤ x17) (h2 : x17 = place_0 (x16)) (h3 : x16 = to_0 (x4)) (f6 : x14 = x11 + x13) (h7 : x13 = gain_0 (x4)) (h9 : x11 = place_0 (x10)) (h10 : x10 = from_0 (x4)) (f12 : x4 < x5) (g13 : x5 = arcs_0) (f14 : PBY (place_0) (x1) (x4)) (hK_0_2 : ∀ j : Int, 0 ≤ j → j < 384 → 0 ≤ from_0 j ∧ from_0 j ≤ 71) (hK_0_3 : ∀ j : Int, 0 ≤ j → j < 384 → 0 ≤ to_0 j ∧ to_0 j ≤ 71) (hK_0_5 : ∀ j : Int, 0 ≤ j → j < 384 → (-20) ≤ gain_0 j ∧ gain_0 j ≤ 20) (hK_0_6 : ∀ j : Int, 0 ≤ j → j < 72 → (-2147483648) ≤ place_0 j ∧ place_0 j ≤ 2147483647) (kz_0_1 : 0 ≤ arcs_0 ∧ arcs_0 ≤ 384) : PBY (place_0) (x1) (x18) := by
  first
    | (intro v a b; have := ‹PBX _ _› v a b; omega)
    | (intro v a b; have := ‹PBY _ _ _› v a b; omega)
    | (skip; (first | subst h2 | skip); (first | subst h3 | skip); (first | subst h7 | skip); (first | subst h9 | skip); (first | subst h10 | skip); exact pby_set (u := from_0 x4) ‹PBY _ _ _› (by assumption) (by omega) (by omega) (by omega) (by omega) (by omega) (by omega) (by omega) (by omega))
    | (skip; (first | subst h2 | skip); (first | subst h3 | skip); (first | subst h7 | skip); (first | subst h9 | skip); (first | subst h10 | skip); exact pby_set (u := from_1 x4) ‹PBY _ _ _› (by assumption) (by omega) (by omega) (by omega) (by omega) (by omega) (by omega) (by omega) (by omega))
    | (skip; (first | subst h2 | skip); (first | subst h3 | skip); (first | subst h7 | skip); (first | subst h9 | skip); (first | subst h10 | skip); exact pby_set (u := from_2 x4) ‹PBY _ _ _› (by assumption) (by omega) (by omega) (by omega) (by omega) (by omega) (by omega) (by omega) (by omega))
  
def o_St_raise_at_gr2_4 : or_T := (4, 19, [(0, (2, 0, 0, [10])), (1, (0, 0, 73, [])), (4, (0, 0, 383, [])), (5, (0, 1, 384, [])), (10, (0, 0, 71, [])), (11, (0, 0, 600000, [])), (13, (0, -20, 20, [])), (14, (0, -20, 600020, [])), (16, (0, 0, 71, [])), (17, (0, -20, 2147483647, [])), (18, (0, 1, 384, []))], [(6, [18, 4], [1]), (7, [14, 17], [5]), (10, [17, 8, 16], []), (10, [16, 15, 4], []), (9, [15, 2], [3]), (9, [8, 2], [6]), (1, [14, 11, 13], []), (10, [13, 12, 4], []), (9, [12, 2], [5]), (10, [11, 8, 10], []), (10, [10, 9, 4], []), (9, [9, 2], [2]), (7, [4, 5], [2]), (9, [5, 2], [1]), (20, [2, 1, 4], [60, 0, 1, 541, 6]), (24, [0, 2], [])], [], [], [(20, [2, 1, 18], [60, 0, 1, 541, 6])], [], [(18, 4, 1, 1), (18, 5, -4294967296, 0), (14, 17, -4294967296, 0), (14, 13, 0, 600000), (14, 11, -20, 20), (4, 5, -4294967296, -1)])
theorem oo_St_raise_at_gr2_4 {kA : Nat → ClassId} : or_ok PRD kA GG o_St_raise_at_gr2_4 := by
  refine or_mk fun A ta ws vs hD hth hl => ?_
  intro t0 r0 t1 k1 t4 k4 t5 k5 t10 k10 t11 k11 t13 k13 t14 k14 t16 k16 t17 k17 t18 k18 d0 d1 d2 d3 d4 d5 f0 f1 f2 f3 f4 f5 f6 f7 f8 f9 f10 f11 f12 f13 f14 f15
  replace f0 := shm_4 f0
  replace f1 := shm_24 f1
  replace f2 := shm_107 f2
  replace f3 := shm_107 f3
  replace f4 := shm_137 f4
  replace f5 := shm_111 f5
  replace f6 := shm_12 f6
  replace f7 := shm_107 f7
  replace f8 := shm_110 f8
  replace f9 := shm_107 f9
  replace f10 := shm_107 f10
  replace f11 := shm_120 f11
  replace f12 := shm_6 f12
  replace f13 := shm_215 f13
  replace f14 := shm_490 f14
  replace f15 := shm_5 f15
  have q2 : n_v vs 2 = n_v vs 0 := f15.symm
  simp only [q2] at f4 f5 f8 f11 f13 f14
  have cr_0_2 := fdq_108 hD hth r0
  have cr_0_3 := fdq_109 hD hth r0
  have cr_0_5 := fdq_111 hD hth r0
  have cr_0_6 := fdq_115 hD hth r0
  have ad_15 : v_ad (n_v vs 15) = w_ar ws (n_v vs 0) 3 := congrArg v_ad f4
  have ad_8 : v_ad (n_v vs 8) = w_ar ws (n_v vs 0) 6 := congrArg v_ad f5
  have ad_12 : v_ad (n_v vs 12) = w_ar ws (n_v vs 0) 5 := congrArg v_ad f8
  have ad_9 : v_ad (n_v vs 9) = w_ar ws (n_v vs 0) 2 := congrArg v_ad f11
  simp only [ad_8] at f2
  have h2 : v_iv (n_v vs 17) = w_ei ws (w_ar ws (n_v vs 0) 6) (v_iv (n_v vs 16)) := f2
  simp only [ad_15] at f3
  have h3 : v_iv (n_v vs 16) = w_ei ws (w_ar ws (n_v vs 0) 3) (v_iv (n_v vs 4)) := f3
  simp only [ad_12] at f7
  have h7 : v_iv (n_v vs 13) = w_ei ws (w_ar ws (n_v vs 0) 5) (v_iv (n_v vs 4)) := f7
  simp only [ad_8] at f9
  have h9 : v_iv (n_v vs 11) = w_ei ws (w_ar ws (n_v vs 0) 6) (v_iv (n_v vs 10)) := f9
  simp only [ad_9] at f10
  have h10 : v_iv (n_v vs 10) = w_ei ws (w_ar ws (n_v vs 0) 2) (v_iv (n_v vs 4)) := f10
  have g13 : v_iv (n_v vs 5) = w_fi ws (n_v vs 0) 1 := congrArg v_iv f13
  have hK_0_2 := elq_53 hD hth cr_0_2
  have hK_0_3 := elq_54 hD hth cr_0_3
  have hK_0_5 := elq_56 hD hth cr_0_5
  have hK_0_6 := elq_58 hD hth cr_0_6
  have kz_0_1 := fdq_113 hD hth r0
  have nf0 : fc_1 PRD (20, [2, 1, 18], [60, 0, 1, 541, 6]) ws (vs) := by
    refine ⟨nf_in hl rfl, sgq_490 ?_⟩
    · show PBY (w_ei ws (w_ar ws (n_v vs 2) 6)) (v_iv (n_v vs 1)) (v_iv (n_v vs 18))
      rw [q2]
      exact vc_St_raise_at_gr2_4_0 (v_iv (n_v vs 1)) (v_iv (n_v vs 4)) (v_iv (n_v vs 5)) (v_iv (n_v vs 10)) (v_iv (n_v vs 11)) (v_iv (n_v vs 13)) (v_iv (n_v vs 14)) (v_iv (n_v vs 16)) (v_iv (n_v vs 17)) (v_iv (n_v vs 18)) (w_ei ws (w_ar ws (n_v vs 0) 6)) (w_ei ws (w_ar ws (n_v vs 0) 3)) (w_ei ws (w_ar ws (n_v vs 0) 5)) (w_ei ws (w_ar ws (n_v vs 0) 2)) (w_fi ws (n_v vs 0) 1) k1 k4 k5 k10 k11 k13 k14 k16 k17 k18 d0 d1 d2 d3 d4 d5 f0 f1 h2 h3 f6 h7 h9 h10 f12 g13 f14 hK_0_2 hK_0_3 hK_0_5 hK_0_6 kz_0_1
  refine ⟨(fun _ h => (by cases h)), [], trivial, ?_, (fun _ h => (by cases h))⟩
  rw [List.append_nil]
  exact List.forall_mem_cons.mpr ⟨⟨show (20 : Nat) < 100 from by decide, nf0⟩, (fun _ h => (by cases h))⟩
set_option maxHeartbeats 4000000 in
theorem vc_St_raise_at_gr2_5_r0 (x1 : Int) (x4 : Int) (x5 : Int) (x10 : Int) (x11 : Int) (x13 : Int) (x14 : Int) (x16 : Int) (x17 : Int) (x18 : Int) (x19 : Int) (x20 : Int) (x21 : Int) (gain_0 : Int → Int) (place_0 : Int → Int) (from_0 : Int → Int) (to_0 : Int → Int) (arcs_0 : Int) (k1 : 0 ≤ x1 ∧ x1 ≤ 73) (k4 : 0 ≤ x4 ∧ x4 ≤ 383) (k5 : 1 ≤ x5 ∧ x5 ≤ 384) (k10 : 0 ≤ x10 ∧ x10 ≤ 71) (k11 : 0 ≤ x11 ∧ x11 ≤ 600000) (k13 : (-20) ≤ x13 ∧ x13 ≤ 20) (k14 : (-20) ≤ x14 ∧ x14 ≤ 600020) (k16 : 0 ≤ x16 ∧ x16 ≤ 71) (k17 : (-2147483648) ≤ x17 ∧ x17 ≤ 600019) (k18 : 0 ≤ x18 ∧ x18 ≤ 71) (k19 : 0 ≤ x19 ∧ x19 ≤ 71) (k20 : (-2147483648) ≤ x20 ∧ x20 ≤ 2147483647) (k21 : (-20) ≤ x21 ∧ x21 ≤ 20) (d0 : x17 + 1 ≤ x14 ∧ x14 ≤ x17 + 4294967296) (d1 : x13 + 0 ≤ x14 ∧ x14 ≤ x13 + 600000) (d2 : x11 + (-20) ≤ x14 ∧ x14 ≤ x11 + 20) (d3 : x5 + (-4294967296) ≤ x4 ∧ x4 ≤ x5 + (-1)) (h0 : x21 = gain_0 (x4)) (h2 : x20 = place_0 (x19)) (h3 : x19 = from_0 (x4)) (h6 : x18 = to_0 (x4)) (f8 : x17 < x14) (h9 : x17 = place_0 (x16)) (h10 : x16 = to_0 (x4)) (f11 : x14 = x11 + x13) (h12 : x13 = gain_0 (x4)) (h13 : x11 = place_0 (x10)) (h14 : x10 = from_0 (x4)) (f15 : x4 < x5) (g16 : x5 = arcs_0) (f17 : PBY (place_0) (x1) (x4)) (hK_0_2 : ∀ j : Int, 0 ≤ j → j < 384 → 0 ≤ from_0 j ∧ from_0 j ≤ 71) (hK_0_3 : ∀ j : Int, 0 ≤ j → j < 384 → 0 ≤ to_0 j ∧ to_0 j ≤ 71) (hK_0_5 : ∀ j : Int, 0 ≤ j → j < 384 → (-20) ≤ gain_0 j ∧ gain_0 j ≤ 20) (hK_0_6 : ∀ j : Int, 0 ≤ j → j < 72 → (-2147483648) ≤ place_0 j ∧ place_0 j ≤ 2147483647) (kz_0_1 : 0 ≤ arcs_0 ∧ arcs_0 ≤ 384) : 0 ≤ x20 ∧ x20 ≤ 600000 := by
  first | subst h0 | skip
  first | subst h2 | skip
  first | subst h3 | skip
  first | subst h6 | skip
  first | subst h9 | skip
  first | subst h10 | skip
  first | subst h12 | skip
  first | subst h13 | skip
  first | subst h14 | skip
  have b := ‹PBY _ _ _› (from_0 x4) (by omega) (by omega)
  omega
def o_St_raise_at_gr2_5 : or_T := (80, 22, [(0, (2, 0, 0, [10])), (1, (0, 0, 73, [])), (2, (2, 0, 0, [10])), (4, (0, 0, 383, [])), (5, (0, 1, 384, [])), (8, (2, 0, 0, [122])), (9, (2, 0, 0, [118])), (10, (0, 0, 71, [])), (11, (0, 0, 600000, [])), (12, (2, 0, 0, [121])), (13, (0, -20, 20, [])), (14, (0, -20, 600020, [])), (15, (2, 0, 0, [119])), (16, (0, 0, 71, [])), (17, (0, -2147483648, 600019, [])), (18, (0, 0, 71, [])), (19, (0, 0, 71, [])), (20, (0, -2147483648, 2147483647, [])), (21, (0, -20, 20, []))], [(10, [21, 12, 4], []), (9, [12, 2], [5]), (10, [20, 8, 19], []), (10, [19, 9, 4], []), (9, [9, 2], [2]), (9, [8, 2], [6]), (10, [18, 15, 4], []), (9, [15, 2], [3]), (7, [14, 17], [4]), (10, [17, 8, 16], []), (10, [16, 15, 4], []), (1, [14, 11, 13], []), (10, [13, 12, 4], []), (10, [11, 8, 10], []), (10, [10, 9, 4], []), (7, [4, 5], [2]), (9, [5, 2], [1]), (20, [2, 1, 4], [60, 0, 1, 541, 6]), (24, [0, 2], [])], [(20, (0, 0, 600000, []))], [], [], [], [(14, 17, 1, 4294967296), (14, 13, 0, 600000), (14, 11, -20, 20), (4, 5, -4294967296, -1)])
theorem oo_St_raise_at_gr2_5 {kA : Nat → ClassId} : or_ok PRD kA GG o_St_raise_at_gr2_5 := by
  refine or_mk fun A ta ws vs hD hth hl => ?_
  intro t0 r0 t1 k1 t2 r2 t4 k4 t5 k5 t8 r8 t9 r9 t10 k10 t11 k11 t12 r12 t13 k13 t14 k14 t15 r15 t16 k16 t17 k17 t18 k18 t19 k19 t20 k20 t21 k21 d0 d1 d2 d3 f0 f1 f2 f3 f4 f5 f6 f7 f8 f9 f10 f11 f12 f13 f14 f15 f16 f17 f18
  replace f0 := shm_107 f0
  replace f1 := shm_110 f1
  replace f2 := shm_107 f2
  replace f3 := shm_107 f3
  replace f4 := shm_120 f4
  replace f5 := shm_111 f5
  replace f6 := shm_107 f6
  replace f7 := shm_137 f7
  replace f9 := shm_107 f9
  replace f10 := shm_107 f10
  replace f12 := shm_107 f12
  replace f13 := shm_107 f13
  replace f14 := shm_107 f14
  replace f16 := shm_215 f16
  replace f17 := shm_490 f17
  replace f18 := shm_5 f18
  have q2 : n_v vs 2 = n_v vs 0 := f18.symm
  simp only [q2] at f1 f4 f5 f7 f16 f17
  have cr_0_2 := fdq_108 hD hth r0
  have cr_0_3 := fdq_109 hD hth r0
  have cr_0_5 := fdq_111 hD hth r0
  have cr_0_6 := fdq_115 hD hth r0
  have ad_12 : v_ad (n_v vs 12) = w_ar ws (n_v vs 0) 5 := congrArg v_ad f1
  have ad_9 : v_ad (n_v vs 9) = w_ar ws (n_v vs 0) 2 := congrArg v_ad f4
  have ad_8 : v_ad (n_v vs 8) = w_ar ws (n_v vs 0) 6 := congrArg v_ad f5
  have ad_15 : v_ad (n_v vs 15) = w_ar ws (n_v vs 0) 3 := congrArg v_ad f7
  simp only [ad_12] at f0
  have h0 : v_iv (n_v vs 21) = w_ei ws (w_ar ws (n_v vs 0) 5) (v_iv (n_v vs 4)) := f0
  simp only [ad_8] at f2
  have h2 : v_iv (n_v vs 20) = w_ei ws (w_ar ws (n_v vs 0) 6) (v_iv (n_v vs 19)) := f2
  simp only [ad_9] at f3
  have h3 : v_iv (n_v vs 19) = w_ei ws (w_ar ws (n_v vs 0) 2) (v_iv (n_v vs 4)) := f3
  simp only [ad_15] at f6
  have h6 : v_iv (n_v vs 18) = w_ei ws (w_ar ws (n_v vs 0) 3) (v_iv (n_v vs 4)) := f6
  simp only [ad_8] at f9
  have h9 : v_iv (n_v vs 17) = w_ei ws (w_ar ws (n_v vs 0) 6) (v_iv (n_v vs 16)) := f9
  simp only [ad_15] at f10
  have h10 : v_iv (n_v vs 16) = w_ei ws (w_ar ws (n_v vs 0) 3) (v_iv (n_v vs 4)) := f10
  simp only [ad_12] at f12
  have h12 : v_iv (n_v vs 13) = w_ei ws (w_ar ws (n_v vs 0) 5) (v_iv (n_v vs 4)) := f12
  simp only [ad_8] at f13
  have h13 : v_iv (n_v vs 11) = w_ei ws (w_ar ws (n_v vs 0) 6) (v_iv (n_v vs 10)) := f13
  simp only [ad_9] at f14
  have h14 : v_iv (n_v vs 10) = w_ei ws (w_ar ws (n_v vs 0) 2) (v_iv (n_v vs 4)) := f14
  have g16 : v_iv (n_v vs 5) = w_fi ws (n_v vs 0) 1 := congrArg v_iv f16
  have hK_0_2 := elq_53 hD hth cr_0_2
  have hK_0_3 := elq_54 hD hth cr_0_3
  have hK_0_5 := elq_56 hD hth cr_0_5
  have hK_0_6 := elq_58 hD hth cr_0_6
  have kz_0_1 := fdq_113 hD hth r0
  have hrf0 : 0 ≤ v_iv (n_v vs 20) ∧ v_iv (n_v vs 20) ≤ 600000 := vc_St_raise_at_gr2_5_r0 (v_iv (n_v vs 1)) (v_iv (n_v vs 4)) (v_iv (n_v vs 5)) (v_iv (n_v vs 10)) (v_iv (n_v vs 11)) (v_iv (n_v vs 13)) (v_iv (n_v vs 14)) (v_iv (n_v vs 16)) (v_iv (n_v vs 17)) (v_iv (n_v vs 18)) (v_iv (n_v vs 19)) (v_iv (n_v vs 20)) (v_iv (n_v vs 21)) (w_ei ws (w_ar ws (n_v vs 0) 5)) (w_ei ws (w_ar ws (n_v vs 0) 6)) (w_ei ws (w_ar ws (n_v vs 0) 2)) (w_ei ws (w_ar ws (n_v vs 0) 3)) (w_fi ws (n_v vs 0) 1) k1 k4 k5 k10 k11 k13 k14 k16 k17 k18 k19 k20 k21 d0 d1 d2 d3 h0 h2 h3 h6 (shm_21 f8) h9 h10 (shm_12 f11) h12 h13 h14 (shm_6 f15) g16 f17 hK_0_2 hK_0_3 hK_0_5 hK_0_6 kz_0_1
  have rf20 : tv_ok ta (0, 0, 600000, []) (n_v vs 20) := tv_in t20 (by first | omega | grind) (by first | omega | grind)
  refine ⟨List.forall_mem_cons.mpr ⟨rf20, (fun _ h => (by cases h))⟩, [], trivial, ?_, (fun _ h => (by cases h))⟩
  rw [List.append_nil]
  exact (fun _ h => (by cases h))
set_option maxHeartbeats 4000000 in
theorem vc_St_raise_at_gr2_6_0 (x1 : Int) (x4 : Int) (x5 : Int) (x10 : Int) (x11 : Int) (x13 : Int) (x14 : Int) (x16 : Int) (x17 : Int) (x18 : Int) (x19 : Int) (x20 : Int) (x21 : Int) (x22 : Int) (x24 : Int) (x26 : Int) (to_1 : Int → Int) (gain_2 : Int → Int) (place_2 : Int → Int) (from_2 : Int → Int) (to_2 : Int → Int) (arcs_2 : Int) (arcs_0 : Int) (arcs_1 : Int) (from_0 : Int → Int) (from_1 : Int → Int) (to_0 : Int → Int) (gain_0 : Int → Int) (gain_1 : Int → Int) (place_0 : Int → Int) (place_1 : Int → Int) (by_0 : Int → Int) (by_1 : Int → Int) (by_2 : Int → Int) (k1 : 0 ≤ x1 ∧ x1 ≤ 73) (k4 : 0 ≤ x4 ∧ x4 ≤ 383) (k5 : 1 ≤ x5 ∧ x5 ≤ 384) (k10 : 0 ≤ x10 ∧ x10 ≤ 71) (k11 : 0 ≤ x11 ∧ x11 ≤ 600000) (k13 : (-20) ≤ x13 ∧ x13 ≤ 20) (k14 : (-20) ≤ x14 ∧ x14 ≤ 600020) (k16 : 0 ≤ x16 ∧ x16 ≤ 71) (k17 : (-2147483648) ≤ x17 ∧ x17 ≤ 600019) (k18 : 0 ≤ x18 ∧ x18 ≤ 71) (k19 : 0 ≤ x19 ∧ x19 ≤ 71) (k20 : 0 ≤ x20 ∧ x20 ≤ 600000) (k21 : (-20) ≤ x21 ∧ x21 ≤ 20) (k22 : (-20) ≤ x22 ∧ x22 ≤ 600020) (k24 : 0 ≤ x24 ∧ x24 ≤ 71) (k26 : 1 ≤ x26 ∧ x26 ≤ 384) (d0 : x4 + 1 ≤ x26 ∧ x26 ≤ x4 + 1) (d1 : x5 + (-4294967296) ≤ x26 ∧ x26 ≤ x5 + 0) (d2 : x21 + 0 ≤ x22 ∧ x22 ≤ x21 + 600000) (d3 : x20 + (-20) ≤ x22 ∧ x22 ≤ x20 + 20) (d4 : x17 + 1 ≤ x14 ∧ x14 ≤ x17 + 4294967296) (d5 : x13 + 0 ≤ x14 ∧ x14 ≤ x13 + 600000) (d6 : x11 + (-20) ≤ x14 ∧ x14 ≤ x11 + 20) (d7 : x5 + (-4294967296) ≤ x4 ∧ x4 ≤ x5 + (-1)) (f0 : x26 = x4 + 1) (h3 : x24 = to_1 (x4)) (f7 : x22 = x20 + x21) (h8 : x21 = gain_2 (x4)) (h10 : x20 = place_2 (x19)) (h11 : x19 = from_2 (x4)) (h14 : x18 = to_2 (x4)) (f15 : x17 < x14) (h16 : x17 = place_2 (x16)) (h17 : x16 = to_2 (x4)) (f18 : x14 = x11 + x13) (h19 : x13 = gain_2 (x4)) (h20 : x11 = place_2 (x10)) (h21 : x10 = from_2 (x4)) (f22 : x4 < x5) (g23 : x5 = arcs_2) (f24 : PBY (place_2) (x1) (x4)) (fe_0_1_1 : arcs_0 = arcs_1) (fe_0_1_2 : arcs_1 = arcs_2) (hE_0_2_1 : ∀ j : Int, from_0 j = from_1 j) (hE_0_2_2 : ∀ j : Int, from_1 j = from_2 j) (hK_0_2 : ∀ j : Int, 0 ≤ j → j < 384 → 0 ≤ from_0 j ∧ from_0 j ≤ 71) (hE_0_3_1 : ∀ j : Int, to_0 j = to_1 j) (hE_0_3_2 : ∀ j : Int, to_1 j = to_2 j) (hK_0_3 : ∀ j : Int, 0 ≤ j → j < 384 → 0 ≤ to_0 j ∧ to_0 j ≤ 71) (hE_0_5_1 : ∀ j : Int, gain_0 j = gain_1 j) (hE_0_5_2 : ∀ j : Int, gain_1 j = gain_2 j) (hK_0_5 : ∀ j : Int, 0 ≤ j → j < 384 → (-20) ≤ gain_0 j ∧ gain_0 j ≤ 20) (hE_0_6_1 : ∀ j : Int, place_0 j = place_1 j) (hE_0_6_2 : ∀ j : Int, 0 ≤ j → (j = x18 → place_1 j = x22) ∧ (j ≠ x18 → place_1 j = place_2 j)) (hK_0_6 : ∀ j : Int, 0 ≤ j → j < 72 → (-2147483648) ≤ place_0 j ∧ place_0 j ≤ 2147483647) (hE_0_7_1 : ∀ j : Int, 0 ≤ j → (j = x24 → by_0 j = x4) ∧ (j ≠ x24 → by_0 j = by_1 j)) (hE_0_7_2 : ∀ j : Int, by_1 j = by_2 j) (hK_0_7 : ∀ j : Int, 0 ≤ j → j < 72 → (-1) ≤ by_0 j ∧ by_0 j ≤ 383) (kz_0_1 : 0 ≤ arcs_0 ∧ arcs_0 ≤ 384) : PBY (place_0) (x1) (x26) := by
  subst fe_0_1_1
  subst fe_0_1_2
  have e_hE_0_2_1 := funext hE_0_2_1; subst e_hE_0_2_1
  have e_hE_0_2_2 := funext hE_0_2_2; subst e_hE_0_2_2
  have e_hE_0_3_1 := funext hE_0_3_1; subst e_hE_0_3_1
  have e_hE_0_3_2 := funext hE_0_3_2; subst e_hE_0_3_2
  have e_hE_0_5_1 := funext hE_0_5_1; subst e_hE_0_5_1
  have e_hE_0_5_2 := funext hE_0_5_2; subst e_hE_0_5_2
  have e_hE_0_6_1 := funext hE_0_6_1; subst e_hE_0_6_1
  have e_hE_0_7_2 := funext hE_0_7_2; subst e_hE_0_7_2
  first
    | (intro v a b; have := ‹PBX _ _› v a b; omega)
    | (intro v a b; have := ‹PBY _ _ _› v a b; omega)
    | (skip; (first | subst h3 | skip); (first | subst h8 | skip); (first | subst h10 | skip); (first | subst h11 | skip); (first | subst h14 | skip); (first | subst h16 | skip); (first | subst h17 | skip); (first | subst h19 | skip); (first | subst h20 | skip); (first | subst h21 | skip); exact pby_set (u := from_0 x4) ‹PBY _ _ _› (by assumption) (by omega) (by omega) (by omega) (by omega) (by omega) (by omega) (by omega) (by omega))
    | (skip; (first | subst h3 | skip); (first | subst h8 | skip); (first | subst h10 | skip); (first | subst h11 | skip); (first | subst h14 | skip); (first | subst h16 | skip); (first | subst h17 | skip); (first | subst h19 | skip); (first | subst h20 | skip); (first | subst h21 | skip); exact pby_set (u := from_1 x4) ‹PBY _ _ _› (by assumption) (by omega) (by omega) (by omega) (by omega) (by omega) (by omega) (by omega) (by omega))
    | (skip; (first | subst h3 | skip); (first | subst h8 | skip); (first | subst h10 | skip); (first | subst h11 | skip); (first | subst h14 | skip); (first | subst h16 | skip); (first | subst h17 | skip); (first | subst h19 | skip); (first | subst h20 | skip); (first | subst h21 | skip); exact pby_set (u := from_2 x4) ‹PBY _ _ _› (by assumption) (by omega) (by omega) (by omega) (by omega) (by omega) (by omega) (by omega) (by omega))
  
def o_St_raise_at_gr2_6 : or_T := (4, 27, [(0, (2, 0, 0, [10])), (1, (0, 0, 73, [])), (4, (0, 0, 383, [])), (5, (0, 1, 384, [])), (8, (2, 0, 0, [122])), (10, (0, 0, 71, [])), (11, (0, 0, 600000, [])), (13, (0, -20, 20, [])), (14, (0, -20, 600020, [])), (16, (0, 0, 71, [])), (17, (0, -2147483648, 600019, [])), (18, (0, 0, 71, [])), (19, (0, 0, 71, [])), (20, (0, 0, 600000, [])), (21, (0, -20, 20, [])), (22, (0, -20, 600020, [])), (23, (2, 0, 0, [123])), (24, (0, 0, 71, [])), (26, (0, 1, 384, []))], [(6, [26, 4], [1]), (24, [0, 2], []), (100, [23, 24, 4], []), (10, [24, 15, 4], []), (9, [15, 2], [3]), (9, [23, 2], [7]), (100, [8, 18, 22], []), (1, [22, 20, 21], []), (10, [21, 12, 4], []), (9, [12, 2], [5]), (10, [20, 8, 19], []), (10, [19, 9, 4], []), (9, [9, 2], [2]), (9, [8, 2], [6]), (10, [18, 15, 4], []), (7, [14, 17], [4]), (10, [17, 8, 16], []), (10, [16, 15, 4], []), (1, [14, 11, 13], []), (10, [13, 12, 4], []), (10, [11, 8, 10], []), (10, [10, 9, 4], []), (7, [4, 5], [2]), (9, [5, 2], [1]), (20, [2, 1, 4], [60, 0, 1, 541, 6])], [], [], [(20, [2, 1, 26], [60, 0, 1, 541, 6])], [], [(26, 4, 1, 1), (26, 5, -4294967296, 0), (22, 21, 0, 600000), (22, 20, -20, 20), (14, 17, 1, 4294967296), (14, 13, 0, 600000), (14, 11, -20, 20), (4, 5, -4294967296, -1)])
theorem oo_St_raise_at_gr2_6 {kA : Nat → ClassId} : or_ok PRD kA GG o_St_raise_at_gr2_6 := by
  refine or_mk fun A ta ws vs hD hth hl => ?_
  intro t0 r0 t1 k1 t4 k4 t5 k5 t8 r8 t10 k10 t11 k11 t13 k13 t14 k14 t16 k16 t17 k17 t18 k18 t19 k19 t20 k20 t21 k21 t22 k22 t23 r23 t24 k24 t26 k26 d0 d1 d2 d3 d4 d5 d6 d7 f0 f1 ta1 w1 le1 s1 f3 f4 f5 ta2 w2 le2 s2 f7 f8 f9 f10 f11 f12 f13 f14 f15 f16 f17 f18 f19 f20 f21 f22 f23 f24
  replace f0 := shm_4 f0
  replace f1 := shm_5 f1
  have s1 : (∀ b j, w_el ws b j = if b = v_ad (n_v vs 23) ∧ j = (v_iv (n_v vs 24)).toNat then v_iv (n_v vs 4) else w_el w1 b j) ∧ ∀ b k, w_fd ws b k = w_fd w1 b k := s1.2
  replace f3 := shm_107 f3
  replace f4 := shm_137 f4
  replace f5 := shm_198 f5
  have s2 : (∀ b j, w_el w1 b j = if b = v_ad (n_v vs 8) ∧ j = (v_iv (n_v vs 18)).toNat then v_iv (n_v vs 22) else w_el w2 b j) ∧ ∀ b k, w_fd w1 b k = w_fd w2 b k := s2.2
  replace f7 := shm_12 f7
  replace f8 := shm_107 f8
  replace f9 := shm_110 f9
  replace f10 := shm_107 f10
  replace f11 := shm_107 f11
  replace f12 := shm_120 f12
  replace f13 := shm_111 f13
  replace f14 := shm_107 f14
  replace f15 := shm_21 f15
  replace f16 := shm_107 f16
  replace f17 := shm_107 f17
  replace f18 := shm_12 f18
  replace f19 := shm_107 f19
  replace f20 := shm_107 f20
  replace f21 := shm_107 f21
  replace f22 := shm_6 f22
  replace f23 := shm_215 f23
  replace f24 := shm_490 f24
  have q2 : n_v vs 2 = n_v vs 0 := f1.symm
  simp only [q2] at f4 f5 f9 f12 f13 f23 f24
  have ar_0_2_1 : w_ar w1 (n_v vs 0) 2 = w_ar ws (n_v vs 0) 2 := congrArg v_ad (s1.2 _ _).symm
  have ar_0_2_2 : w_ar w2 (n_v vs 0) 2 = w_ar ws (n_v vs 0) 2 := by rw [← ar_0_2_1]; show v_ad (w_fd w2 _ _) = v_ad (w_fd w1 _ _); rw [s2.2]
  have cr_0_2 := fdq_108 hD hth r0
  have ar_0_3_1 : w_ar w1 (n_v vs 0) 3 = w_ar ws (n_v vs 0) 3 := congrArg v_ad (s1.2 _ _).symm
  have cr_0_3 := fdq_109 hD hth r0
  have ar_0_5_1 : w_ar w1 (n_v vs 0) 5 = w_ar ws (n_v vs 0) 5 := congrArg v_ad (s1.2 _ _).symm
  have ar_0_5_2 : w_ar w2 (n_v vs 0) 5 = w_ar ws (n_v vs 0) 5 := by rw [← ar_0_5_1]; show v_ad (w_fd w2 _ _) = v_ad (w_fd w1 _ _); rw [s2.2]
  have cr_0_5 := fdq_111 hD hth r0
  have ar_0_6_1 : w_ar w1 (n_v vs 0) 6 = w_ar ws (n_v vs 0) 6 := congrArg v_ad (s1.2 _ _).symm
  have ar_0_6_2 : w_ar w2 (n_v vs 0) 6 = w_ar ws (n_v vs 0) 6 := by rw [← ar_0_6_1]; show v_ad (w_fd w2 _ _) = v_ad (w_fd w1 _ _); rw [s2.2]
  have cr_0_6 := fdq_115 hD hth r0
  have ar_0_7_1 : w_ar w1 (n_v vs 0) 7 = w_ar ws (n_v vs 0) 7 := congrArg v_ad (s1.2 _ _).symm
  have cr_0_7 := fdq_116 hD hth r0
  have ad_15 : v_ad (n_v vs 15) = w_ar ws (n_v vs 0) 3 := (congrArg v_ad f4).trans ar_0_3_1
  have ad_23 : v_ad (n_v vs 23) = w_ar ws (n_v vs 0) 7 := (congrArg v_ad f5).trans ar_0_7_1
  have ad_12 : v_ad (n_v vs 12) = w_ar ws (n_v vs 0) 5 := (congrArg v_ad f9).trans ar_0_5_2
  have ad_9 : v_ad (n_v vs 9) = w_ar ws (n_v vs 0) 2 := (congrArg v_ad f12).trans ar_0_2_2
  have ad_8 : v_ad (n_v vs 8) = w_ar ws (n_v vs 0) 6 := (congrArg v_ad f13).trans ar_0_6_2
  simp only [ad_15] at f3
  have h3 : v_iv (n_v vs 24) = w_ei w1 (w_ar ws (n_v vs 0) 3) (v_iv (n_v vs 4)) := f3
  simp only [ad_12] at f8
  have h8 : v_iv (n_v vs 21) = w_ei w2 (w_ar ws (n_v vs 0) 5) (v_iv (n_v vs 4)) := f8
  simp only [ad_8] at f10
  have h10 : v_iv (n_v vs 20) = w_ei w2 (w_ar ws (n_v vs 0) 6) (v_iv (n_v vs 19)) := f10
  simp only [ad_9] at f11
  have h11 : v_iv (n_v vs 19) = w_ei w2 (w_ar ws (n_v vs 0) 2) (v_iv (n_v vs 4)) := f11
  simp only [ad_15] at f14
  have h14 : v_iv (n_v vs 18) = w_ei w2 (w_ar ws (n_v vs 0) 3) (v_iv (n_v vs 4)) := f14
  simp only [ad_8] at f16
  have h16 : v_iv (n_v vs 17) = w_ei w2 (w_ar ws (n_v vs 0) 6) (v_iv (n_v vs 16)) := f16
  simp only [ad_15] at f17
  have h17 : v_iv (n_v vs 16) = w_ei w2 (w_ar ws (n_v vs 0) 3) (v_iv (n_v vs 4)) := f17
  simp only [ad_12] at f19
  have h19 : v_iv (n_v vs 13) = w_ei w2 (w_ar ws (n_v vs 0) 5) (v_iv (n_v vs 4)) := f19
  simp only [ad_8] at f20
  have h20 : v_iv (n_v vs 11) = w_ei w2 (w_ar ws (n_v vs 0) 6) (v_iv (n_v vs 10)) := f20
  simp only [ad_9] at f21
  have h21 : v_iv (n_v vs 10) = w_ei w2 (w_ar ws (n_v vs 0) 2) (v_iv (n_v vs 4)) := f21
  have g23 : v_iv (n_v vs 5) = w_fi w2 (n_v vs 0) 1 := congrArg v_iv f23
  simp only [ar_0_6_2] at f24
  have fe_0_1_1 : w_fi ws (n_v vs 0) 1 = w_fi w1 (n_v vs 0) 1 := congrArg v_iv (s1.2 _ _)
  have fe_0_1_2 : w_fi w1 (n_v vs 0) 1 = w_fi w2 (n_v vs 0) 1 := congrArg v_iv (s2.2 _ _)
  have hE_0_2_1 : ∀ j : Int, w_ei ws (w_ar ws (n_v vs 0) 2) j = w_ei w1 (w_ar ws (n_v vs 0) 2) j := el_kp s1.1 r23 cr_0_2 (by decide)
  have hE_0_2_2 : ∀ j : Int, w_ei w1 (w_ar ws (n_v vs 0) 2) j = w_ei w2 (w_ar ws (n_v vs 0) 2) j := el_kp s2.1 r8 cr_0_2 (by decide)
  have hK_0_2 := elq_53 hD hth cr_0_2
  have hE_0_3_1 : ∀ j : Int, w_ei ws (w_ar ws (n_v vs 0) 3) j = w_ei w1 (w_ar ws (n_v vs 0) 3) j := el_kp s1.1 r23 cr_0_3 (by decide)
  have hE_0_3_2 : ∀ j : Int, w_ei w1 (w_ar ws (n_v vs 0) 3) j = w_ei w2 (w_ar ws (n_v vs 0) 3) j := el_kp s2.1 r8 cr_0_3 (by decide)
  have hK_0_3 := elq_54 hD hth cr_0_3
  have hE_0_5_1 : ∀ j : Int, w_ei ws (w_ar ws (n_v vs 0) 5) j = w_ei w1 (w_ar ws (n_v vs 0) 5) j := el_kp s1.1 r23 cr_0_5 (by decide)
  have hE_0_5_2 : ∀ j : Int, w_ei w1 (w_ar ws (n_v vs 0) 5) j = w_ei w2 (w_ar ws (n_v vs 0) 5) j := el_kp s2.1 r8 cr_0_5 (by decide)
  have hK_0_5 := elq_56 hD hth cr_0_5
  have hE_0_6_1 : ∀ j : Int, w_ei ws (w_ar ws (n_v vs 0) 6) j = w_ei w1 (w_ar ws (n_v vs 0) 6) j := el_kp s1.1 r23 cr_0_6 (by decide)
  have hE_0_6_2 : ∀ j : Int, 0 ≤ j → (j = v_iv (n_v vs 18) → w_ei w1 (w_ar ws (n_v vs 0) 6) j = v_iv (n_v vs 22)) ∧ (j ≠ v_iv (n_v vs 18) → w_ei w1 (w_ar ws (n_v vs 0) 6) j = w_ei w2 (w_ar ws (n_v vs 0) 6) j) := fun j hj => ⟨fun h => by unfold w_ei; rw [s2.1, if_pos ⟨ad_8.symm, by rw [h]⟩], fun h => by unfold w_ei; rw [s2.1, if_neg (fun e => h (by have := e.2; omega))]⟩
  have hK_0_6 := elq_58 hD hth cr_0_6
  have hE_0_7_1 : ∀ j : Int, 0 ≤ j → (j = v_iv (n_v vs 24) → w_ei ws (w_ar ws (n_v vs 0) 7) j = v_iv (n_v vs 4)) ∧ (j ≠ v_iv (n_v vs 24) → w_ei ws (w_ar ws (n_v vs 0) 7) j = w_ei w1 (w_ar ws (n_v vs 0) 7) j) := fun j hj => ⟨fun h => by unfold w_ei; rw [s1.1, if_pos ⟨ad_23.symm, by rw [h]⟩], fun h => by unfold w_ei; rw [s1.1, if_neg (fun e => h (by have := e.2; omega))]⟩
  have hE_0_7_2 : ∀ j : Int, w_ei w1 (w_ar ws (n_v vs 0) 7) j = w_ei w2 (w_ar ws (n_v vs 0) 7) j := el_kp s2.1 r8 cr_0_7 (by decide)
  have hK_0_7 := elq_59 hD hth cr_0_7
  have kz_0_1 := fdq_113 hD hth r0
  have nf0 : fc_1 PRD (20, [2, 1, 26], [60, 0, 1, 541, 6]) ws (vs) := by
    refine ⟨nf_in hl rfl, sgq_490 ?_⟩
    · show PBY (w_ei ws (w_ar ws (n_v vs 2) 6)) (v_iv (n_v vs 1)) (v_iv (n_v vs 26))
      rw [q2]
      exact vc_St_raise_at_gr2_6_0 (v_iv (n_v vs 1)) (v_iv (n_v vs 4)) (v_iv (n_v vs 5)) (v_iv (n_v vs 10)) (v_iv (n_v vs 11)) (v_iv (n_v vs 13)) (v_iv (n_v vs 14)) (v_iv (n_v vs 16)) (v_iv (n_v vs 17)) (v_iv (n_v vs 18)) (v_iv (n_v vs 19)) (v_iv (n_v vs 20)) (v_iv (n_v vs 21)) (v_iv (n_v vs 22)) (v_iv (n_v vs 24)) (v_iv (n_v vs 26)) (w_ei w1 (w_ar ws (n_v vs 0) 3)) (w_ei w2 (w_ar ws (n_v vs 0) 5)) (w_ei w2 (w_ar ws (n_v vs 0) 6)) (w_ei w2 (w_ar ws (n_v vs 0) 2)) (w_ei w2 (w_ar ws (n_v vs 0) 3)) (w_fi w2 (n_v vs 0) 1) (w_fi ws (n_v vs 0) 1) (w_fi w1 (n_v vs 0) 1) (w_ei ws (w_ar ws (n_v vs 0) 2)) (w_ei w1 (w_ar ws (n_v vs 0) 2)) (w_ei ws (w_ar ws (n_v vs 0) 3)) (w_ei ws (w_ar ws (n_v vs 0) 5)) (w_ei w1 (w_ar ws (n_v vs 0) 5)) (w_ei ws (w_ar ws (n_v vs 0) 6)) (w_ei w1 (w_ar ws (n_v vs 0) 6)) (w_ei ws (w_ar ws (n_v vs 0) 7)) (w_ei w1 (w_ar ws (n_v vs 0) 7)) (w_ei w2 (w_ar ws (n_v vs 0) 7)) k1 k4 k5 k10 k11 k13 k14 k16 k17 k18 k19 k20 k21 k22 k24 k26 d0 d1 d2 d3 d4 d5 d6 d7 f0 h3 f7 h8 h10 h11 h14 f15 h16 h17 f18 h19 h20 h21 f22 g23 f24 fe_0_1_1 fe_0_1_2 hE_0_2_1 hE_0_2_2 hK_0_2 hE_0_3_1 hE_0_3_2 hK_0_3 hE_0_5_1 hE_0_5_2 hK_0_5 hE_0_6_1 hE_0_6_2 hK_0_6 hE_0_7_1 hE_0_7_2 hK_0_7 kz_0_1
  refine ⟨(fun _ h => (by cases h)), [], trivial, ?_, (fun _ h => (by cases h))⟩
  rw [List.append_nil]
  exact List.forall_mem_cons.mpr ⟨⟨show (20 : Nat) < 100 from by decide, nf0⟩, (fun _ h => (by cases h))⟩
def n_St_raise_at_gr2_an : List an_T := [(4, [(0, (2, 0, 0, [10])), (1, (0, 0, 1, [])), (2, (0, 0, 384, []))], [], (0, 0), [(0, 0, 99996), (1, 4, 384), (0, 0, 100000)], [(3, 4, (Int.negSucc 999999999999), 0)], [], [(2, 0, 0, [10]), (0, 0, 73, [])], 0, [], [(20, [2, 1, 4], [60, 0, 1, 541, 6]), (24, [0, 2], [])])]
def t_St_raise_at_gr2_ct : ct_L := []
set_option maxRecDepth 100000 in
theorem c_St_raise_at_gr2 {l : Launch} {D : va_G} {kA : Nat → ClassId} : ct_ok PRD l D kA GG y_St_raise_at_gr2 z_St_raise_at_gr2 e_St_raise_at_gr2 := chk_all_ok (FT := [(15, 10, 1), (18, 10, 2), (22, 10, 3), (25, 10, 4), (28, 10, 5), (31, 10, 6), (34, 10, 7)]) (PT := []) (CT := t_St_raise_at_gr2_ct) (KT := []) (NT := []) (AN := n_St_raise_at_gr2_an) (OT := [o_St_raise_at_gr2_0, o_St_raise_at_gr2_1, o_St_raise_at_gr2_2, o_St_raise_at_gr2_3, o_St_raise_at_gr2_4, o_St_raise_at_gr2_5, o_St_raise_at_gr2_6]) 3 280 (List.forall_mem_cons.mpr ⟨oo_St_raise_at_gr2_0, List.forall_mem_cons.mpr ⟨oo_St_raise_at_gr2_1, List.forall_mem_cons.mpr ⟨oo_St_raise_at_gr2_2, List.forall_mem_cons.mpr ⟨oo_St_raise_at_gr2_3, List.forall_mem_cons.mpr ⟨oo_St_raise_at_gr2_4, List.forall_mem_cons.mpr ⟨oo_St_raise_at_gr2_5, List.forall_mem_cons.mpr ⟨oo_St_raise_at_gr2_6, List.forall_mem_nil _⟩⟩⟩⟩⟩⟩⟩) (by decide +kernel) ⟨List.forall_mem_cons.mpr ⟨gf_St_15, List.forall_mem_cons.mpr ⟨gf_St_18, List.forall_mem_cons.mpr ⟨gf_St_22, List.forall_mem_cons.mpr ⟨gf_St_25, List.forall_mem_cons.mpr ⟨gf_St_28, List.forall_mem_cons.mpr ⟨gf_St_31, List.forall_mem_cons.mpr ⟨gf_St_34, List.forall_mem_nil _⟩⟩⟩⟩⟩⟩⟩, List.forall_mem_nil _, List.forall_mem_nil _, List.forall_mem_nil _, List.forall_mem_nil _, GG_pl⟩ (by decide +kernel)
set_option maxHeartbeats 4000000 in
theorem vc_Sy_emit_0_r0 (x1 : Int) (x2 : Int) (x6 : Int) (x7 : Int) (x8 : Int) (k1 : 0 ≤ x1 ∧ x1 ≤ 13) (k2 : 0 ≤ x2 ∧ x2 ≤ 1000000) (k6 : 16 ≤ x6 ∧ x6 ≤ 16) (k7 : 0 ≤ x7 ∧ x7 ≤ 851968) (k8 : 0 ≤ x8 ∧ x8 ≤ 1048575) (f0 : x8 ≤ x7 + x2 ∧ x7 ≤ x8 ∧ x2 ≤ x8) (f1 : bvp (x8) = bvp (x7) ||| bvp (x2)) (f2 : x7 = x1 * 65536) (f3 : bvp (x7) = bvp (x1) <<< (x6).toNat) (f4 : (0 ≤ x1) ∧ ((0 ≤ x2) ∧ (((x1 * 65536) + x2) ≤ 851970))) : 0 ≤ x8 ∧ x8 ≤ 851970 := by
  first
    | omega
  
def o_Sy_emit_0 : or_T := (24, 9, [(1, (0, 0, 13, [])), (2, (0, 0, 1000000, [])), (6, (0, 16, 16, [])), (7, (0, 0, 851968, [])), (8, (0, 0, 1048575, []))], [(13, [8, 7, 2], []), (16, [8, 7, 2], [1]), (15, [7, 1], [65536]), (16, [7, 1, 6], [3]), (20, [1, 2], [50, 0, 0, 2, 6, 0, 2, 0, 0, 1, 0, 2, 6, 0, 2, 0, 0, 1, 1, 0, 10, 4, 6, 6, 2, 1, 0, 0, 65536, 1, 1, 0, 851970])], [(8, (0, 0, 851970, []))], [], [], [], [])
theorem oo_Sy_emit_0 {kA : Nat → ClassId} : or_ok PRD kA GG o_Sy_emit_0 := by
  refine or_mk fun A ta ws vs hD hth hl => ?_
  intro t1 k1 t2 k2 t6 k6 t7 k7 t8 k8 f0 f1 f2 f3 f4
  have f0 : v_iv (n_v vs 8) ≤ v_iv (n_v vs 7) + v_iv (n_v vs 2) ∧ v_iv (n_v vs 7) ≤ v_iv (n_v vs 8) ∧ v_iv (n_v vs 2) ≤ v_iv (n_v vs 8) := (fun (h : v_iv (n_v vs 8) ≤ v_iv (n_v vs 7) + v_iv (n_v vs 2) ∧ v_iv (n_v vs 7) ≤ v_iv (n_v vs 8) ∧ v_iv (n_v vs 2) ≤ v_iv (n_v vs 8) ∧ (v_iv (n_v vs 8)).toNat = (v_iv (n_v vs 7)).toNat ||| (v_iv (n_v vs 2)).toNat) => ⟨h.1, h.2.1, h.2.2.1⟩) f0
  have hrf0 : 0 ≤ v_iv (n_v vs 8) ∧ v_iv (n_v vs 8) ≤ 851970 := vc_Sy_emit_0_r0 (v_iv (n_v vs 1)) (v_iv (n_v vs 2)) (v_iv (n_v vs 6)) (v_iv (n_v vs 7)) (v_iv (n_v vs 8)) k1 k2 k6 k7 k8 f0 (shm_354 f1) (shm_492 f2) (shm_349 f3) (shm_493 f4)
  have rf8 : tv_ok ta (0, 0, 851970, []) (n_v vs 8) := tv_in t8 (by first | omega | grind) (by first | omega | grind)
  refine ⟨List.forall_mem_cons.mpr ⟨rf8, (fun _ h => (by cases h))⟩, [], trivial, ?_, (fun _ h => (by cases h))⟩
  rw [List.append_nil]
  exact (fun _ h => (by cases h))
def n_Sy_emit_an : List an_T := []
def t_Sy_emit_ct : ct_L := []
set_option maxRecDepth 100000 in
theorem c_Sy_emit {l : Launch} {D : va_G} {kA : Nat → ClassId} : ct_ok PRD l D kA GG y_Sy_emit z_Sy_emit e_Sy_emit := chk_all_ok (FT := [(46, 11, 10), (50, 11, 11)]) (PT := [(50, 11, 11, .int)]) (CT := t_Sy_emit_ct) (KT := []) (NT := []) (AN := n_Sy_emit_an) (OT := [o_Sy_emit_0]) 0 200 (List.forall_mem_cons.mpr ⟨oo_Sy_emit_0, List.forall_mem_nil _⟩) (by decide +kernel) ⟨List.forall_mem_cons.mpr ⟨gf_Sy_46, List.forall_mem_cons.mpr ⟨gf_Sy_50, List.forall_mem_nil _⟩⟩, List.forall_mem_cons.mpr ⟨pf_Sy_50, List.forall_mem_nil _⟩, List.forall_mem_nil _, List.forall_mem_nil _, List.forall_mem_nil _, GG_pl⟩ (by decide +kernel)
set_option maxHeartbeats 4000000 in
theorem vc_Mo_across1_0_0 (x1 : Int) (x2 : Int) (x4 : Int) (x5 : Int) (pt_0 : Int → Int) (ph_0 : Int → Int) (k1 : 0 ≤ x1 ∧ x1 ≤ 79) (k2 : 0 ≤ x2 ∧ x2 ≤ 24) (k4 : 0 ≤ x4 ∧ x4 ≤ 24) (k5 : 0 ≤ x5 ∧ x5 ≤ 24) (h0 : x5 = pt_0 (x1)) (f2 : x4 ≠ x2) (h3 : x4 = pt_0 (x1)) (hK_0_33 : ∀ j : Int, 0 ≤ j → j < 80 → 0 ≤ pt_0 j ∧ pt_0 j ≤ 24) (hK_0_34 : ∀ j : Int, 0 ≤ j → j < 80 → 0 ≤ ph_0 j ∧ ph_0 j ≤ 24) : ACR (pt_0) (ph_0) (x1) (x2) (x5) := by
  unfold ACR acr
  first | (rw [if_pos (by omega)]; omega) | (rw [if_neg (by omega)]; omega)
def o_Mo_across1_0 : or_T := (25, 6, [(0, (2, 0, 0, [165])), (1, (0, 0, 79, [])), (2, (0, 0, 24, [])), (4, (0, 0, 24, [])), (5, (0, 0, 24, []))], [(10, [5, 3, 1], []), (9, [3, 0], [33]), (7, [4, 2], [1]), (10, [4, 3, 1], [])], [], [], [(20, [0, 1, 2, 5], [60, 0, 2, 84, 33, 34])], [], [])
theorem oo_Mo_across1_0 {kA : Nat → ClassId} : or_ok PRD kA GG o_Mo_across1_0 := by
  refine or_mk fun A ta ws vs hD hth hl => ?_
  intro t0 r0 t1 k1 t2 k2 t4 k4 t5 k5 f0 f1 f2 f3
  replace f0 := shm_107 f0
  replace f1 := shm_494 f1
  replace f3 := shm_107 f3
  have cr_0_33 := fdq_117 hD hth r0
  have cr_0_34 := fdq_118 hD hth r0
  have ad_3 : v_ad (n_v vs 3) = w_ar ws (n_v vs 0) 33 := congrArg v_ad f1
  simp only [ad_3] at f0
  have h0 : v_iv (n_v vs 5) = w_ei ws (w_ar ws (n_v vs 0) 33) (v_iv (n_v vs 1)) := f0
  simp only [ad_3] at f3
  have h3 : v_iv (n_v vs 4) = w_ei ws (w_ar ws (n_v vs 0) 33) (v_iv (n_v vs 1)) := f3
  have hK_0_33 := elq_60 hD hth cr_0_33
  have hK_0_34 := elq_61 hD hth cr_0_34
  have nf0 : fc_1 PRD (20, [0, 1, 2, 5], [60, 0, 2, 84, 33, 34]) ws (vs) := ⟨nf_in hl rfl, sgq_495 (vc_Mo_across1_0_0 (v_iv (n_v vs 1)) (v_iv (n_v vs 2)) (v_iv (n_v vs 4)) (v_iv (n_v vs 5)) (w_ei ws (w_ar ws (n_v vs 0) 33)) (w_ei ws (w_ar ws (n_v vs 0) 34)) k1 k2 k4 k5 h0 (shm_40 f2) h3 hK_0_33 hK_0_34)⟩
  refine ⟨(fun _ h => (by cases h)), [], trivial, ?_, (fun _ h => (by cases h))⟩
  rw [List.append_nil]
  exact List.forall_mem_cons.mpr ⟨⟨show (20 : Nat) < 100 from by decide, nf0⟩, (fun _ h => (by cases h))⟩
set_option maxHeartbeats 4000000 in
theorem vc_Mo_across1_1_0 (x1 : Int) (x2 : Int) (x4 : Int) (x6 : Int) (ph_0 : Int → Int) (pt_0 : Int → Int) (k1 : 0 ≤ x1 ∧ x1 ≤ 79) (k2 : 0 ≤ x2 ∧ x2 ≤ 24) (k4 : 0 ≤ x4 ∧ x4 ≤ 24) (k6 : 0 ≤ x6 ∧ x6 ≤ 24) (d0 : x2 + 0 ≤ x4 ∧ x4 ≤ x2 + 0) (h0 : x6 = ph_0 (x1)) (f2 : x4 = x2) (h3 : x4 = pt_0 (x1)) (hK_0_33 : ∀ j : Int, 0 ≤ j → j < 80 → 0 ≤ pt_0 j ∧ pt_0 j ≤ 24) (hK_0_34 : ∀ j : Int, 0 ≤ j → j < 80 → 0 ≤ ph_0 j ∧ ph_0 j ≤ 24) : ACR (pt_0) (ph_0) (x1) (x2) (x6) := by
  unfold ACR acr
  first | (rw [if_pos (by omega)]; omega) | (rw [if_neg (by omega)]; omega)
def o_Mo_across1_1 : or_T := (25, 7, [(0, (2, 0, 0, [165])), (1, (0, 0, 79, [])), (2, (0, 0, 24, [])), (4, (0, 0, 24, [])), (6, (0, 0, 24, []))], [(10, [6, 5, 1], []), (9, [5, 0], [34]), (7, [4, 2], [0]), (10, [4, 3, 1], []), (9, [3, 0], [33])], [], [], [(20, [0, 1, 2, 6], [60, 0, 2, 84, 33, 34])], [], [(4, 2, 0, 0)])
theorem oo_Mo_across1_1 {kA : Nat → ClassId} : or_ok PRD kA GG o_Mo_across1_1 := by
  refine or_mk fun A ta ws vs hD hth hl => ?_
  intro t0 r0 t1 k1 t2 k2 t4 k4 t6 k6 d0 f0 f1 f2 f3 f4
  replace f0 := shm_107 f0
  replace f1 := shm_496 f1
  replace f3 := shm_107 f3
  replace f4 := shm_494 f4
  have cr_0_33 := fdq_117 hD hth r0
  have cr_0_34 := fdq_118 hD hth r0
  have ad_5 : v_ad (n_v vs 5) = w_ar ws (n_v vs 0) 34 := congrArg v_ad f1
  have ad_3 : v_ad (n_v vs 3) = w_ar ws (n_v vs 0) 33 := congrArg v_ad f4
  simp only [ad_5] at f0
  have h0 : v_iv (n_v vs 6) = w_ei ws (w_ar ws (n_v vs 0) 34) (v_iv (n_v vs 1)) := f0
  simp only [ad_3] at f3
  have h3 : v_iv (n_v vs 4) = w_ei ws (w_ar ws (n_v vs 0) 33) (v_iv (n_v vs 1)) := f3
  have hK_0_33 := elq_60 hD hth cr_0_33
  have hK_0_34 := elq_61 hD hth cr_0_34
  have nf0 : fc_1 PRD (20, [0, 1, 2, 6], [60, 0, 2, 84, 33, 34]) ws (vs) := ⟨nf_in hl rfl, sgq_495 (vc_Mo_across1_1_0 (v_iv (n_v vs 1)) (v_iv (n_v vs 2)) (v_iv (n_v vs 4)) (v_iv (n_v vs 6)) (w_ei ws (w_ar ws (n_v vs 0) 34)) (w_ei ws (w_ar ws (n_v vs 0) 33)) k1 k2 k4 k6 d0 h0 (shm_37 f2) h3 hK_0_33 hK_0_34)⟩
  refine ⟨(fun _ h => (by cases h)), [], trivial, ?_, (fun _ h => (by cases h))⟩
  rw [List.append_nil]
  exact List.forall_mem_cons.mpr ⟨⟨show (20 : Nat) < 100 from by decide, nf0⟩, (fun _ h => (by cases h))⟩
def n_Mo_across1_an : List an_T := []
def t_Mo_across1_ct : ct_L := []
set_option maxRecDepth 100000 in
theorem c_Mo_across1 {l : Launch} {D : va_G} {kA : Nat → ClassId} : ct_ok PRD l D kA GG y_Mo_across1 z_Mo_across1 e_Mo_across1 := chk_all_ok (FT := [(57, 13, 33), (60, 13, 34)]) (PT := []) (CT := t_Mo_across1_ct) (KT := []) (NT := []) (AN := n_Mo_across1_an) (OT := [o_Mo_across1_0, o_Mo_across1_1]) 0 200 (List.forall_mem_cons.mpr ⟨oo_Mo_across1_0, List.forall_mem_cons.mpr ⟨oo_Mo_across1_1, List.forall_mem_nil _⟩⟩) (by decide +kernel) ⟨List.forall_mem_cons.mpr ⟨gf_Mo_57, List.forall_mem_cons.mpr ⟨gf_Mo_60, List.forall_mem_nil _⟩⟩, List.forall_mem_nil _, List.forall_mem_nil _, List.forall_mem_nil _, List.forall_mem_nil _, GG_pl⟩ (by decide +kernel)
set_option maxHeartbeats 4000000 in
theorem vc_Mo_apart_at_ga_0_r0 (x1 : Int) (x2 : Int) (x3 : Int) (x4 : Int) (x5 : Int) (x6 : Int) (x8 : Int) (apartMany_0 : Int) (layerSize_0 : Int → Int) (layerItem_0 : Int → Int) (apartA_0 : Int → Int) (apartB_0 : Int → Int) (apart_0 : Int → Int) (layerMany_0 : Int) (k1 : 0 ≤ x1 ∧ x1 ≤ 75) (k2 : 0 ≤ x2 ∧ x2 ≤ 75) (k3 : 2 ≤ x3 ∧ x3 ≤ 20) (k4 : 0 ≤ x4 ∧ x4 ≤ 199) (k5 : 0 ≤ x5 ∧ x5 ≤ 75) (k6 : 1 ≤ x6 ∧ x6 ≤ 75) (k8 : 0 ≤ x8 ∧ x8 ≤ 200) (g0 : x8 = apartMany_0) (f2 : apartMany_0 = x4) (f3 : PAL2 (apartMany_0) (layerMany_0) (layerSize_0) (layerItem_0) (apartA_0) (apartB_0) (apart_0) (x5) (x6)) (f4 : PAN (layerMany_0) (layerSize_0) (layerItem_0) (x5) (x6) (x1) (x2)) (f5 : (2 ≤ x3) ∧ (x3 ≤ 202)) (hK_0_87 : ∀ j : Int, 0 ≤ j → j < 200 → 0 ≤ apartA_0 j ∧ apartA_0 j ≤ 75) (hK_0_88 : ∀ j : Int, 0 ≤ j → j < 200 → 0 ≤ apartB_0 j ∧ apartB_0 j ≤ 75) (hK_0_89 : ∀ j : Int, 0 ≤ j → j < 200 → 0 ≤ apart_0 j ∧ apart_0 j ≤ 202) (hK_0_105 : ∀ j : Int, 0 ≤ j → j < 76 → 0 ≤ layerSize_0 j ∧ layerSize_0 j ≤ 76) (hK_0_106 : ∀ j : Int, 0 ≤ j → j < 5776 → 0 ≤ layerItem_0 j ∧ layerItem_0 j ≤ 75) (kz_0_81 : 0 ≤ apartMany_0 ∧ apartMany_0 ≤ 200) (kz_0_101 : 0 ≤ layerMany_0 ∧ layerMany_0 ≤ 76) : 0 ≤ x8 ∧ x8 ≤ 199 := by
  omega
def o_Mo_apart_at_ga_0 : or_T := (9, 9, [(0, (2, 0, 0, [165])), (1, (0, 0, 75, [])), (2, (0, 0, 75, [])), (3, (0, 2, 20, [])), (4, (0, 0, 199, [])), (5, (0, 0, 75, [])), (6, (0, 1, 75, [])), (7, (2, 0, 0, [224])), (8, (0, 0, 200, []))], [(9, [8, 0], [81]), (9, [7, 0], [87]), (20, [0, 4], [50, 1, 0, 81, 1, 3, 2, 0, 81, 1, 1]), (20, [0, 5, 6], [60, 2, 5, 469, 81, 101, 105, 106, 87, 88, 89]), (20, [0, 5, 6, 1, 2], [60, 1, 2, 466, 101, 105, 106]), (20, [3], [50, 0, 0, 2, 6, 0, 2, 0, 2, 1, 0, 0, 2, 1, 0, 0, 202])], [(8, (0, 0, 199, []))], [], [], [], [])
theorem oo_Mo_apart_at_ga_0 {kA : Nat → ClassId} : or_ok PRD kA GG o_Mo_apart_at_ga_0 := by
  refine or_mk fun A ta ws vs hD hth hl => ?_
  intro t0 r0 t1 k1 t2 k2 t3 k3 t4 k4 t5 k5 t6 k6 t7 r7 t8 k8 f0 f1 f2 f3 f4 f5
  replace f0 := shm_497 f0
  have cr_0_87 := fdq_119 hD hth r0
  have cr_0_88 := fdq_120 hD hth r0
  have cr_0_89 := fdq_121 hD hth r0
  have cr_0_105 := fdq_122 hD hth r0
  have cr_0_106 := fdq_123 hD hth r0
  have g0 : v_iv (n_v vs 8) = w_fi ws (n_v vs 0) 81 := congrArg v_iv f0
  have hK_0_87 := elq_62 hD hth cr_0_87
  have hK_0_88 := elq_63 hD hth cr_0_88
  have hK_0_89 := elq_64 hD hth cr_0_89
  have hK_0_105 := elq_65 hD hth cr_0_105
  have hK_0_106 := elq_66 hD hth cr_0_106
  have kz_0_81 := fdq_124 hD hth r0
  have kz_0_101 := fdq_125 hD hth r0
  have hrf0 : 0 ≤ v_iv (n_v vs 8) ∧ v_iv (n_v vs 8) ≤ 199 := vc_Mo_apart_at_ga_0_r0 (v_iv (n_v vs 1)) (v_iv (n_v vs 2)) (v_iv (n_v vs 3)) (v_iv (n_v vs 4)) (v_iv (n_v vs 5)) (v_iv (n_v vs 6)) (v_iv (n_v vs 8)) (w_fi ws (n_v vs 0) 81) (w_ei ws (w_ar ws (n_v vs 0) 105)) (w_ei ws (w_ar ws (n_v vs 0) 106)) (w_ei ws (w_ar ws (n_v vs 0) 87)) (w_ei ws (w_ar ws (n_v vs 0) 88)) (w_ei ws (w_ar ws (n_v vs 0) 89)) (w_fi ws (n_v vs 0) 101) k1 k2 k3 k4 k5 k6 k8 g0 (shm_499 f2) (shm_500 f3) (shm_501 f4) (shm_502 f5) hK_0_87 hK_0_88 hK_0_89 hK_0_105 hK_0_106 kz_0_81 kz_0_101
  have rf8 : tv_ok ta (0, 0, 199, []) (n_v vs 8) := tv_in t8 (by first | omega | grind) (by first | omega | grind)
  refine ⟨List.forall_mem_cons.mpr ⟨rf8, (fun _ h => (by cases h))⟩, [], trivial, ?_, (fun _ h => (by cases h))⟩
  rw [List.append_nil]
  exact (fun _ h => (by cases h))
set_option maxHeartbeats 4000000 in
theorem vc_Mo_apart_at_ga_1_0 (x1 : Int) (x2 : Int) (x3 : Int) (x4 : Int) (x5 : Int) (x6 : Int) (x8 : Int) (x11 : Int) (x12 : Int) (layerSize_0 : Int → Int) (layerItem_0 : Int → Int) (layerMany_0 : Int) (apartMany_1 : Int) (layerSize_1 : Int → Int) (layerItem_1 : Int → Int) (layerMany_1 : Int) (apartMany_2 : Int) (layerSize_2 : Int → Int) (layerItem_2 : Int → Int) (layerMany_2 : Int) (apartMany_3 : Int) (layerSize_3 : Int → Int) (layerItem_3 : Int → Int) (layerMany_3 : Int) (apartMany_4 : Int) (layerSize_4 : Int → Int) (layerItem_4 : Int → Int) (apartA_4 : Int → Int) (apartB_4 : Int → Int) (apart_4 : Int → Int) (layerMany_4 : Int) (apartMany_0 : Int) (apartA_0 : Int → Int) (apartA_1 : Int → Int) (apartA_2 : Int → Int) (apartA_3 : Int → Int) (apartB_0 : Int → Int) (apartB_1 : Int → Int) (apartB_2 : Int → Int) (apartB_3 : Int → Int) (apart_0 : Int → Int) (apart_1 : Int → Int) (apart_2 : Int → Int) (apart_3 : Int → Int) (k1 : 0 ≤ x1 ∧ x1 ≤ 75) (k2 : 0 ≤ x2 ∧ x2 ≤ 75) (k3 : 2 ≤ x3 ∧ x3 ≤ 20) (k4 : 0 ≤ x4 ∧ x4 ≤ 199) (k5 : 0 ≤ x5 ∧ x5 ≤ 75) (k6 : 1 ≤ x6 ∧ x6 ≤ 75) (k8 : 0 ≤ x8 ∧ x8 ≤ 199) (k11 : 1 ≤ x11 ∧ x11 ≤ 1) (k12 : 1 ≤ x12 ∧ x12 ≤ 200) (d0 : x8 + 1 ≤ x12 ∧ x12 ≤ x8 + 1) (f0 : PAN (layerMany_0) (layerSize_0) (layerItem_0) (x5) (x6) (x1) (x2)) (f1 : (2 ≤ x3) ∧ (x3 ≤ 202)) (f3 : x12 = x8 + x11) (g4 : x8 = apartMany_1) (f5 : apartMany_1 = x4) (f6 : PAN (layerMany_1) (layerSize_1) (layerItem_1) (x5) (x6) (x1) (x2)) (f7 : (2 ≤ x3) ∧ (x3 ≤ 202)) (f10 : apartMany_2 = x4) (f11 : PAN (layerMany_2) (layerSize_2) (layerItem_2) (x5) (x6) (x1) (x2)) (f12 : (2 ≤ x3) ∧ (x3 ≤ 202)) (f15 : apartMany_3 = x4) (f16 : PAN (layerMany_3) (layerSize_3) (layerItem_3) (x5) (x6) (x1) (x2)) (f17 : (2 ≤ x3) ∧ (x3 ≤ 202)) (f20 : apartMany_4 = x4) (f21 : PAL2 (apartMany_4) (layerMany_4) (layerSize_4) (layerItem_4) (apartA_4) (apartB_4) (apart_4) (x5) (x6)) (f22 : PAN (layerMany_4) (layerSize_4) (layerItem_4) (x5) (x6) (x1) (x2)) (f23 : (2 ≤ x3) ∧ (x3 ≤ 202)) (fe_0_81_1 : apartMany_0 = x12) (fe_0_101_1 : layerMany_0 = layerMany_1) (fe_0_81_2 : apartMany_1 = apartMany_2) (fe_0_101_2 : layerMany_1 = layerMany_2) (fe_0_81_3 : apartMany_2 = apartMany_3) (fe_0_101_3 : layerMany_2 = layerMany_3) (fe_0_81_4 : apartMany_3 = apartMany_4) (fe_0_101_4 : layerMany_3 = layerMany_4) (hE_0_87_1 : ∀ j : Int, apartA_0 j = apartA_1 j) (hE_0_87_2 : ∀ j : Int, apartA_1 j = apartA_2 j) (hE_0_87_3 : ∀ j : Int, apartA_2 j = apartA_3 j) (hE_0_87_4 : ∀ j : Int, 0 ≤ j → (j = x8 → apartA_3 j = x1) ∧ (j ≠ x8 → apartA_3 j = apartA_4 j)) (hK_0_87 : ∀ j : Int, 0 ≤ j → j < 200 → 0 ≤ apartA_0 j ∧ apartA_0 j ≤ 75) (hE_0_88_1 : ∀ j : Int, apartB_0 j = apartB_1 j) (hE_0_88_2 : ∀ j : Int, apartB_1 j = apartB_2 j) (hE_0_88_3 : ∀ j : Int, 0 ≤ j → (j = x8 → apartB_2 j = x2) ∧ (j ≠ x8 → apartB_2 j = apartB_3 j)) (hE_0_88_4 : ∀ j : Int, apartB_3 j = apartB_4 j) (hK_0_88 : ∀ j : Int, 0 ≤ j → j < 200 → 0 ≤ apartB_0 j ∧ apartB_0 j ≤ 75) (hE_0_89_1 : ∀ j : Int, apart_0 j = apart_1 j) (hE_0_89_2 : ∀ j : Int, 0 ≤ j → (j = x8 → apart_1 j = x3) ∧ (j ≠ x8 → apart_1 j = apart_2 j)) (hE_0_89_3 : ∀ j : Int, apart_2 j = apart_3 j) (hE_0_89_4 : ∀ j : Int, apart_3 j = apart_4 j) (hK_0_89 : ∀ j : Int, 0 ≤ j → j < 200 → 0 ≤ apart_0 j ∧ apart_0 j ≤ 202) (hE_0_105_1 : ∀ j : Int, layerSize_0 j = layerSize_1 j) (hE_0_105_2 : ∀ j : Int, layerSize_1 j = layerSize_2 j) (hE_0_105_3 : ∀ j : Int, layerSize_2 j = layerSize_3 j) (hE_0_105_4 : ∀ j : Int, layerSize_3 j = layerSize_4 j) (hK_0_105 : ∀ j : Int, 0 ≤ j → j < 76 → 0 ≤ layerSize_0 j ∧ layerSize_0 j ≤ 76) (hE_0_106_1 : ∀ j : Int, layerItem_0 j = layerItem_1 j) (hE_0_106_2 : ∀ j : Int, layerItem_1 j = layerItem_2 j) (hE_0_106_3 : ∀ j : Int, layerItem_2 j = layerItem_3 j) (hE_0_106_4 : ∀ j : Int, layerItem_3 j = layerItem_4 j) (hK_0_106 : ∀ j : Int, 0 ≤ j → j < 5776 → 0 ≤ layerItem_0 j ∧ layerItem_0 j ≤ 75) (kz_0_81 : 0 ≤ apartMany_0 ∧ apartMany_0 ≤ 200) (kz_0_101 : 0 ≤ layerMany_0 ∧ layerMany_0 ≤ 76) : apartMany_0 = (x4 + 1) := by
  subst fe_0_101_1
  subst fe_0_81_2
  subst fe_0_101_2
  subst fe_0_81_3
  subst fe_0_101_3
  subst fe_0_81_4
  subst fe_0_101_4
  have e_hE_0_87_1 := funext hE_0_87_1; subst e_hE_0_87_1
  have e_hE_0_87_2 := funext hE_0_87_2; subst e_hE_0_87_2
  have e_hE_0_87_3 := funext hE_0_87_3; subst e_hE_0_87_3
  have e_hE_0_88_1 := funext hE_0_88_1; subst e_hE_0_88_1
  have e_hE_0_88_2 := funext hE_0_88_2; subst e_hE_0_88_2
  have e_hE_0_88_4 := funext hE_0_88_4; subst e_hE_0_88_4
  have e_hE_0_89_1 := funext hE_0_89_1; subst e_hE_0_89_1
  have e_hE_0_89_3 := funext hE_0_89_3; subst e_hE_0_89_3
  have e_hE_0_89_4 := funext hE_0_89_4; subst e_hE_0_89_4
  have e_hE_0_105_1 := funext hE_0_105_1; subst e_hE_0_105_1
  have e_hE_0_105_2 := funext hE_0_105_2; subst e_hE_0_105_2
  have e_hE_0_105_3 := funext hE_0_105_3; subst e_hE_0_105_3
  have e_hE_0_105_4 := funext hE_0_105_4; subst e_hE_0_105_4
  have e_hE_0_106_1 := funext hE_0_106_1; subst e_hE_0_106_1
  have e_hE_0_106_2 := funext hE_0_106_2; subst e_hE_0_106_2
  have e_hE_0_106_3 := funext hE_0_106_3; subst e_hE_0_106_3
  have e_hE_0_106_4 := funext hE_0_106_4; subst e_hE_0_106_4
  omega
set_option maxHeartbeats 4000000 in
theorem vc_Mo_apart_at_ga_1_1 (x1 : Int) (x2 : Int) (x3 : Int) (x4 : Int) (x5 : Int) (x6 : Int) (x8 : Int) (x11 : Int) (x12 : Int) (layerSize_0 : Int → Int) (layerItem_0 : Int → Int) (layerMany_0 : Int) (apartMany_1 : Int) (layerSize_1 : Int → Int) (layerItem_1 : Int → Int) (layerMany_1 : Int) (apartMany_2 : Int) (layerSize_2 : Int → Int) (layerItem_2 : Int → Int) (layerMany_2 : Int) (apartMany_3 : Int) (layerSize_3 : Int → Int) (layerItem_3 : Int → Int) (layerMany_3 : Int) (apartMany_4 : Int) (layerSize_4 : Int → Int) (layerItem_4 : Int → Int) (apartA_4 : Int → Int) (apartB_4 : Int → Int) (apart_4 : Int → Int) (layerMany_4 : Int) (apartMany_0 : Int) (apartA_0 : Int → Int) (apartA_1 : Int → Int) (apartA_2 : Int → Int) (apartA_3 : Int → Int) (apartB_0 : Int → Int) (apartB_1 : Int → Int) (apartB_2 : Int → Int) (apartB_3 : Int → Int) (apart_0 : Int → Int) (apart_1 : Int → Int) (apart_2 : Int → Int) (apart_3 : Int → Int) (k1 : 0 ≤ x1 ∧ x1 ≤ 75) (k2 : 0 ≤ x2 ∧ x2 ≤ 75) (k3 : 2 ≤ x3 ∧ x3 ≤ 20) (k4 : 0 ≤ x4 ∧ x4 ≤ 199) (k5 : 0 ≤ x5 ∧ x5 ≤ 75) (k6 : 1 ≤ x6 ∧ x6 ≤ 75) (k8 : 0 ≤ x8 ∧ x8 ≤ 199) (k11 : 1 ≤ x11 ∧ x11 ≤ 1) (k12 : 1 ≤ x12 ∧ x12 ≤ 200) (d0 : x8 + 1 ≤ x12 ∧ x12 ≤ x8 + 1) (f0 : PAN (layerMany_0) (layerSize_0) (layerItem_0) (x5) (x6) (x1) (x2)) (f1 : (2 ≤ x3) ∧ (x3 ≤ 202)) (f3 : x12 = x8 + x11) (g4 : x8 = apartMany_1) (f5 : apartMany_1 = x4) (f6 : PAN (layerMany_1) (layerSize_1) (layerItem_1) (x5) (x6) (x1) (x2)) (f7 : (2 ≤ x3) ∧ (x3 ≤ 202)) (f10 : apartMany_2 = x4) (f11 : PAN (layerMany_2) (layerSize_2) (layerItem_2) (x5) (x6) (x1) (x2)) (f12 : (2 ≤ x3) ∧ (x3 ≤ 202)) (f15 : apartMany_3 = x4) (f16 : PAN (layerMany_3) (layerSize_3) (layerItem_3) (x5) (x6) (x1) (x2)) (f17 : (2 ≤ x3) ∧ (x3 ≤ 202)) (f20 : apartMany_4 = x4) (f21 : PAL2 (apartMany_4) (layerMany_4) (layerSize_4) (layerItem_4) (apartA_4) (apartB_4) (apart_4) (x5) (x6)) (f22 : PAN (layerMany_4) (layerSize_4) (layerItem_4) (x5) (x6) (x1) (x2)) (f23 : (2 ≤ x3) ∧ (x3 ≤ 202)) (fe_0_81_1 : apartMany_0 = x12) (fe_0_101_1 : layerMany_0 = layerMany_1) (fe_0_81_2 : apartMany_1 = apartMany_2) (fe_0_101_2 : layerMany_1 = layerMany_2) (fe_0_81_3 : apartMany_2 = apartMany_3) (fe_0_101_3 : layerMany_2 = layerMany_3) (fe_0_81_4 : apartMany_3 = apartMany_4) (fe_0_101_4 : layerMany_3 = layerMany_4) (hE_0_87_1 : ∀ j : Int, apartA_0 j = apartA_1 j) (hE_0_87_2 : ∀ j : Int, apartA_1 j = apartA_2 j) (hE_0_87_3 : ∀ j : Int, apartA_2 j = apartA_3 j) (hE_0_87_4 : ∀ j : Int, 0 ≤ j → (j = x8 → apartA_3 j = x1) ∧ (j ≠ x8 → apartA_3 j = apartA_4 j)) (hK_0_87 : ∀ j : Int, 0 ≤ j → j < 200 → 0 ≤ apartA_0 j ∧ apartA_0 j ≤ 75) (hE_0_88_1 : ∀ j : Int, apartB_0 j = apartB_1 j) (hE_0_88_2 : ∀ j : Int, apartB_1 j = apartB_2 j) (hE_0_88_3 : ∀ j : Int, 0 ≤ j → (j = x8 → apartB_2 j = x2) ∧ (j ≠ x8 → apartB_2 j = apartB_3 j)) (hE_0_88_4 : ∀ j : Int, apartB_3 j = apartB_4 j) (hK_0_88 : ∀ j : Int, 0 ≤ j → j < 200 → 0 ≤ apartB_0 j ∧ apartB_0 j ≤ 75) (hE_0_89_1 : ∀ j : Int, apart_0 j = apart_1 j) (hE_0_89_2 : ∀ j : Int, 0 ≤ j → (j = x8 → apart_1 j = x3) ∧ (j ≠ x8 → apart_1 j = apart_2 j)) (hE_0_89_3 : ∀ j : Int, apart_2 j = apart_3 j) (hE_0_89_4 : ∀ j : Int, apart_3 j = apart_4 j) (hK_0_89 : ∀ j : Int, 0 ≤ j → j < 200 → 0 ≤ apart_0 j ∧ apart_0 j ≤ 202) (hE_0_105_1 : ∀ j : Int, layerSize_0 j = layerSize_1 j) (hE_0_105_2 : ∀ j : Int, layerSize_1 j = layerSize_2 j) (hE_0_105_3 : ∀ j : Int, layerSize_2 j = layerSize_3 j) (hE_0_105_4 : ∀ j : Int, layerSize_3 j = layerSize_4 j) (hK_0_105 : ∀ j : Int, 0 ≤ j → j < 76 → 0 ≤ layerSize_0 j ∧ layerSize_0 j ≤ 76) (hE_0_106_1 : ∀ j : Int, layerItem_0 j = layerItem_1 j) (hE_0_106_2 : ∀ j : Int, layerItem_1 j = layerItem_2 j) (hE_0_106_3 : ∀ j : Int, layerItem_2 j = layerItem_3 j) (hE_0_106_4 : ∀ j : Int, layerItem_3 j = layerItem_4 j) (hK_0_106 : ∀ j : Int, 0 ≤ j → j < 5776 → 0 ≤ layerItem_0 j ∧ layerItem_0 j ≤ 75) (kz_0_81 : 0 ≤ apartMany_0 ∧ apartMany_0 ≤ 200) (kz_0_101 : 0 ≤ layerMany_0 ∧ layerMany_0 ≤ 76) : PAP (apartMany_0) (layerMany_0) (layerSize_0) (layerItem_0) (apartA_0) (apartB_0) (apart_0) (x5) (x6) := by
  subst fe_0_101_1
  subst fe_0_81_2
  subst fe_0_101_2
  subst fe_0_81_3
  subst fe_0_101_3
  subst fe_0_81_4
  subst fe_0_101_4
  have e_hE_0_87_1 := funext hE_0_87_1; subst e_hE_0_87_1
  have e_hE_0_87_2 := funext hE_0_87_2; subst e_hE_0_87_2
  have e_hE_0_87_3 := funext hE_0_87_3; subst e_hE_0_87_3
  have e_hE_0_88_1 := funext hE_0_88_1; subst e_hE_0_88_1
  have e_hE_0_88_2 := funext hE_0_88_2; subst e_hE_0_88_2
  have e_hE_0_88_4 := funext hE_0_88_4; subst e_hE_0_88_4
  have e_hE_0_89_1 := funext hE_0_89_1; subst e_hE_0_89_1
  have e_hE_0_89_3 := funext hE_0_89_3; subst e_hE_0_89_3
  have e_hE_0_89_4 := funext hE_0_89_4; subst e_hE_0_89_4
  have e_hE_0_105_1 := funext hE_0_105_1; subst e_hE_0_105_1
  have e_hE_0_105_2 := funext hE_0_105_2; subst e_hE_0_105_2
  have e_hE_0_105_3 := funext hE_0_105_3; subst e_hE_0_105_3
  have e_hE_0_105_4 := funext hE_0_105_4; subst e_hE_0_105_4
  have e_hE_0_106_1 := funext hE_0_106_1; subst e_hE_0_106_1
  have e_hE_0_106_2 := funext hE_0_106_2; subst e_hE_0_106_2
  have e_hE_0_106_3 := funext hE_0_106_3; subst e_hE_0_106_3
  have e_hE_0_106_4 := funext hE_0_106_4; subst e_hE_0_106_4
  exact paq_step ‹PAL2 _ _ _ _ _ _ _ _ _› ‹PAN _ _ _ _ _ _ _› (by omega) (by omega) (by assumption) (by assumption) (by assumption) (by omega) (by omega) (by omega)
def o_Mo_apart_at_ga_1 : or_T := (40, 13, [(0, (2, 0, 0, [165])), (1, (0, 0, 75, [])), (2, (0, 0, 75, [])), (3, (0, 2, 20, [])), (4, (0, 0, 199, [])), (5, (0, 0, 75, [])), (6, (0, 1, 75, [])), (7, (2, 0, 0, [224])), (8, (0, 0, 199, [])), (9, (2, 0, 0, [225])), (10, (2, 0, 0, [226])), (11, (0, 1, 1, [])), (12, (0, 1, 200, []))], [(20, [0, 5, 6, 1, 2], [60, 1, 2, 466, 101, 105, 106]), (20, [3], [50, 0, 0, 2, 6, 0, 2, 0, 2, 1, 0, 0, 2, 1, 0, 0, 202]), (101, [0, 12], [81]), (1, [12, 8, 11], []), (9, [8, 0], [81]), (20, [0, 4], [50, 1, 0, 81, 1, 3, 2, 0, 81, 1, 1]), (20, [0, 5, 6, 1, 2], [60, 1, 2, 466, 101, 105, 106]), (20, [3], [50, 0, 0, 2, 6, 0, 2, 0, 2, 1, 0, 0, 2, 1, 0, 0, 202]), (100, [10, 8, 3], []), (9, [10, 0], [89]), (20, [0, 4], [50, 1, 0, 81, 1, 3, 2, 0, 81, 1, 1]), (20, [0, 5, 6, 1, 2], [60, 1, 2, 466, 101, 105, 106]), (20, [3], [50, 0, 0, 2, 6, 0, 2, 0, 2, 1, 0, 0, 2, 1, 0, 0, 202]), (100, [9, 8, 2], []), (9, [9, 0], [88]), (20, [0, 4], [50, 1, 0, 81, 1, 3, 2, 0, 81, 1, 1]), (20, [0, 5, 6, 1, 2], [60, 1, 2, 466, 101, 105, 106]), (20, [3], [50, 0, 0, 2, 6, 0, 2, 0, 2, 1, 0, 0, 2, 1, 0, 0, 202]), (100, [7, 8, 1], []), (9, [7, 0], [87]), (20, [0, 4], [50, 1, 0, 81, 1, 3, 2, 0, 81, 1, 1]), (20, [0, 5, 6], [60, 2, 5, 469, 81, 101, 105, 106, 87, 88, 89]), (20, [0, 5, 6, 1, 2], [60, 1, 2, 466, 101, 105, 106]), (20, [3], [50, 0, 0, 2, 6, 0, 2, 0, 2, 1, 0, 0, 2, 1, 0, 0, 202])], [], [], [(20, [0, 4], [50, 1, 0, 81, 1, 3, 2, 0, 81, 4, 2, 1, 1, 0, 1]), (20, [0, 5, 6], [60, 2, 5, 467, 81, 101, 105, 106, 87, 88, 89])], [], [(12, 8, 1, 1)])
theorem oo_Mo_apart_at_ga_1 {kA : Nat → ClassId} : or_ok PRD kA GG o_Mo_apart_at_ga_1 := by
  refine or_mk fun A ta ws vs hD hth hl => ?_
  intro t0 r0 t1 k1 t2 k2 t3 k3 t4 k4 t5 k5 t6 k6 t7 r7 t8 k8 t9 r9 t10 r10 t11 k11 t12 k12 d0 f0 f1 ta1 w1 le1 s1 f3 f4 f5 f6 f7 ta2 w2 le2 s2 f9 f10 f11 f12 ta3 w3 le3 s3 f14 f15 f16 f17 ta4 w4 le4 s4 f19 f20 f21 f22 f23
  have s1 : (∀ b j, w_el ws b j = w_el w1 b j) ∧ ∀ b j, w_fd ws b j = if b = v_ad (n_v vs 0) ∧ j = 81 then n_v vs 12 else w_fd w1 b j := s1.2
  replace f4 := shm_497 f4
  replace f6 := shm_501 f6
  have s2 : (∀ b j, w_el w1 b j = if b = v_ad (n_v vs 10) ∧ j = (v_iv (n_v vs 8)).toNat then v_iv (n_v vs 3) else w_el w2 b j) ∧ ∀ b k, w_fd w1 b k = w_fd w2 b k := s2.2
  replace f9 := shm_503 f9
  replace f11 := shm_501 f11
  have s3 : (∀ b j, w_el w2 b j = if b = v_ad (n_v vs 9) ∧ j = (v_iv (n_v vs 8)).toNat then v_iv (n_v vs 2) else w_el w3 b j) ∧ ∀ b k, w_fd w2 b k = w_fd w3 b k := s3.2
  replace f14 := shm_504 f14
  replace f16 := shm_501 f16
  have s4 : (∀ b j, w_el w3 b j = if b = v_ad (n_v vs 7) ∧ j = (v_iv (n_v vs 8)).toNat then v_iv (n_v vs 1) else w_el w4 b j) ∧ ∀ b k, w_fd w3 b k = w_fd w4 b k := s4.2
  replace f19 := shm_498 f19
  replace f21 := shm_500 f21
  replace f22 := shm_501 f22
  have ar_0_87_1 : w_ar w1 (n_v vs 0) 87 = w_ar ws (n_v vs 0) 87 := by show v_ad (w_fd w1 _ _) = v_ad (w_fd ws _ _); rw [s1.2, if_neg (fun e => absurd e.2 (by decide))]
  have ar_0_87_2 : w_ar w2 (n_v vs 0) 87 = w_ar ws (n_v vs 0) 87 := by rw [← ar_0_87_1]; show v_ad (w_fd w2 _ _) = v_ad (w_fd w1 _ _); rw [s2.2]
  have ar_0_87_3 : w_ar w3 (n_v vs 0) 87 = w_ar ws (n_v vs 0) 87 := by rw [← ar_0_87_2]; show v_ad (w_fd w3 _ _) = v_ad (w_fd w2 _ _); rw [s3.2]
  have ar_0_87_4 : w_ar w4 (n_v vs 0) 87 = w_ar ws (n_v vs 0) 87 := by rw [← ar_0_87_3]; show v_ad (w_fd w4 _ _) = v_ad (w_fd w3 _ _); rw [s4.2]
  have cr_0_87 := fdq_119 hD hth r0
  have ar_0_88_1 : w_ar w1 (n_v vs 0) 88 = w_ar ws (n_v vs 0) 88 := by show v_ad (w_fd w1 _ _) = v_ad (w_fd ws _ _); rw [s1.2, if_neg (fun e => absurd e.2 (by decide))]
  have ar_0_88_2 : w_ar w2 (n_v vs 0) 88 = w_ar ws (n_v vs 0) 88 := by rw [← ar_0_88_1]; show v_ad (w_fd w2 _ _) = v_ad (w_fd w1 _ _); rw [s2.2]
  have ar_0_88_3 : w_ar w3 (n_v vs 0) 88 = w_ar ws (n_v vs 0) 88 := by rw [← ar_0_88_2]; show v_ad (w_fd w3 _ _) = v_ad (w_fd w2 _ _); rw [s3.2]
  have ar_0_88_4 : w_ar w4 (n_v vs 0) 88 = w_ar ws (n_v vs 0) 88 := by rw [← ar_0_88_3]; show v_ad (w_fd w4 _ _) = v_ad (w_fd w3 _ _); rw [s4.2]
  have cr_0_88 := fdq_120 hD hth r0
  have ar_0_89_1 : w_ar w1 (n_v vs 0) 89 = w_ar ws (n_v vs 0) 89 := by show v_ad (w_fd w1 _ _) = v_ad (w_fd ws _ _); rw [s1.2, if_neg (fun e => absurd e.2 (by decide))]
  have ar_0_89_2 : w_ar w2 (n_v vs 0) 89 = w_ar ws (n_v vs 0) 89 := by rw [← ar_0_89_1]; show v_ad (w_fd w2 _ _) = v_ad (w_fd w1 _ _); rw [s2.2]
  have ar_0_89_3 : w_ar w3 (n_v vs 0) 89 = w_ar ws (n_v vs 0) 89 := by rw [← ar_0_89_2]; show v_ad (w_fd w3 _ _) = v_ad (w_fd w2 _ _); rw [s3.2]
  have ar_0_89_4 : w_ar w4 (n_v vs 0) 89 = w_ar ws (n_v vs 0) 89 := by rw [← ar_0_89_3]; show v_ad (w_fd w4 _ _) = v_ad (w_fd w3 _ _); rw [s4.2]
  have cr_0_89 := fdq_121 hD hth r0
  have ar_0_105_1 : w_ar w1 (n_v vs 0) 105 = w_ar ws (n_v vs 0) 105 := by show v_ad (w_fd w1 _ _) = v_ad (w_fd ws _ _); rw [s1.2, if_neg (fun e => absurd e.2 (by decide))]
  have ar_0_105_2 : w_ar w2 (n_v vs 0) 105 = w_ar ws (n_v vs 0) 105 := by rw [← ar_0_105_1]; show v_ad (w_fd w2 _ _) = v_ad (w_fd w1 _ _); rw [s2.2]
  have ar_0_105_3 : w_ar w3 (n_v vs 0) 105 = w_ar ws (n_v vs 0) 105 := by rw [← ar_0_105_2]; show v_ad (w_fd w3 _ _) = v_ad (w_fd w2 _ _); rw [s3.2]
  have ar_0_105_4 : w_ar w4 (n_v vs 0) 105 = w_ar ws (n_v vs 0) 105 := by rw [← ar_0_105_3]; show v_ad (w_fd w4 _ _) = v_ad (w_fd w3 _ _); rw [s4.2]
  have cr_0_105 := fdq_122 hD hth r0
  have ar_0_106_1 : w_ar w1 (n_v vs 0) 106 = w_ar ws (n_v vs 0) 106 := by show v_ad (w_fd w1 _ _) = v_ad (w_fd ws _ _); rw [s1.2, if_neg (fun e => absurd e.2 (by decide))]
  have ar_0_106_2 : w_ar w2 (n_v vs 0) 106 = w_ar ws (n_v vs 0) 106 := by rw [← ar_0_106_1]; show v_ad (w_fd w2 _ _) = v_ad (w_fd w1 _ _); rw [s2.2]
  have ar_0_106_3 : w_ar w3 (n_v vs 0) 106 = w_ar ws (n_v vs 0) 106 := by rw [← ar_0_106_2]; show v_ad (w_fd w3 _ _) = v_ad (w_fd w2 _ _); rw [s3.2]
  have ar_0_106_4 : w_ar w4 (n_v vs 0) 106 = w_ar ws (n_v vs 0) 106 := by rw [← ar_0_106_3]; show v_ad (w_fd w4 _ _) = v_ad (w_fd w3 _ _); rw [s4.2]
  have cr_0_106 := fdq_123 hD hth r0
  have ad_10 : v_ad (n_v vs 10) = w_ar ws (n_v vs 0) 89 := (congrArg v_ad f9).trans ar_0_89_2
  have ad_9 : v_ad (n_v vs 9) = w_ar ws (n_v vs 0) 88 := (congrArg v_ad f14).trans ar_0_88_3
  have ad_7 : v_ad (n_v vs 7) = w_ar ws (n_v vs 0) 87 := (congrArg v_ad f19).trans ar_0_87_4
  have g4 : v_iv (n_v vs 8) = w_fi w1 (n_v vs 0) 81 := congrArg v_iv f4
  simp only [ar_0_105_1, ar_0_106_1, ar_0_105_2, ar_0_106_2, ar_0_105_3, ar_0_106_3, ar_0_87_4, ar_0_88_4, ar_0_89_4, ar_0_105_4, ar_0_106_4] at f6 f11 f16 f21 f22
  have fe_0_81_1 : w_fi ws (n_v vs 0) 81 = v_iv (n_v vs 12) := by show v_iv (w_fd _ _ _) = _; rw [s1.2, if_pos ⟨rfl, rfl⟩]
  have fe_0_101_1 : w_fi ws (n_v vs 0) 101 = w_fi w1 (n_v vs 0) 101 := by show v_iv (w_fd _ _ _) = v_iv (w_fd _ _ _); rw [s1.2, if_neg (fun e => absurd e.2 (by decide))]
  have fe_0_81_2 : w_fi w1 (n_v vs 0) 81 = w_fi w2 (n_v vs 0) 81 := congrArg v_iv (s2.2 _ _)
  have fe_0_101_2 : w_fi w1 (n_v vs 0) 101 = w_fi w2 (n_v vs 0) 101 := congrArg v_iv (s2.2 _ _)
  have fe_0_81_3 : w_fi w2 (n_v vs 0) 81 = w_fi w3 (n_v vs 0) 81 := congrArg v_iv (s3.2 _ _)
  have fe_0_101_3 : w_fi w2 (n_v vs 0) 101 = w_fi w3 (n_v vs 0) 101 := congrArg v_iv (s3.2 _ _)
  have fe_0_81_4 : w_fi w3 (n_v vs 0) 81 = w_fi w4 (n_v vs 0) 81 := congrArg v_iv (s4.2 _ _)
  have fe_0_101_4 : w_fi w3 (n_v vs 0) 101 = w_fi w4 (n_v vs 0) 101 := congrArg v_iv (s4.2 _ _)
  have hE_0_87_1 : ∀ j : Int, w_ei ws (w_ar ws (n_v vs 0) 87) j = w_ei w1 (w_ar ws (n_v vs 0) 87) j := fun j => s1.1 _ _
  have hE_0_87_2 : ∀ j : Int, w_ei w1 (w_ar ws (n_v vs 0) 87) j = w_ei w2 (w_ar ws (n_v vs 0) 87) j := el_kp s2.1 r10 cr_0_87 (by decide)
  have hE_0_87_3 : ∀ j : Int, w_ei w2 (w_ar ws (n_v vs 0) 87) j = w_ei w3 (w_ar ws (n_v vs 0) 87) j := el_kp s3.1 r9 cr_0_87 (by decide)
  have hE_0_87_4 : ∀ j : Int, 0 ≤ j → (j = v_iv (n_v vs 8) → w_ei w3 (w_ar ws (n_v vs 0) 87) j = v_iv (n_v vs 1)) ∧ (j ≠ v_iv (n_v vs 8) → w_ei w3 (w_ar ws (n_v vs 0) 87) j = w_ei w4 (w_ar ws (n_v vs 0) 87) j) := fun j hj => ⟨fun h => by unfold w_ei; rw [s4.1, if_pos ⟨ad_7.symm, by rw [h]⟩], fun h => by unfold w_ei; rw [s4.1, if_neg (fun e => h (by have := e.2; omega))]⟩
  have hK_0_87 := elq_62 hD hth cr_0_87
  have hE_0_88_1 : ∀ j : Int, w_ei ws (w_ar ws (n_v vs 0) 88) j = w_ei w1 (w_ar ws (n_v vs 0) 88) j := fun j => s1.1 _ _
  have hE_0_88_2 : ∀ j : Int, w_ei w1 (w_ar ws (n_v vs 0) 88) j = w_ei w2 (w_ar ws (n_v vs 0) 88) j := el_kp s2.1 r10 cr_0_88 (by decide)
  have hE_0_88_3 : ∀ j : Int, 0 ≤ j → (j = v_iv (n_v vs 8) → w_ei w2 (w_ar ws (n_v vs 0) 88) j = v_iv (n_v vs 2)) ∧ (j ≠ v_iv (n_v vs 8) → w_ei w2 (w_ar ws (n_v vs 0) 88) j = w_ei w3 (w_ar ws (n_v vs 0) 88) j) := fun j hj => ⟨fun h => by unfold w_ei; rw [s3.1, if_pos ⟨ad_9.symm, by rw [h]⟩], fun h => by unfold w_ei; rw [s3.1, if_neg (fun e => h (by have := e.2; omega))]⟩
  have hE_0_88_4 : ∀ j : Int, w_ei w3 (w_ar ws (n_v vs 0) 88) j = w_ei w4 (w_ar ws (n_v vs 0) 88) j := el_kp s4.1 r7 cr_0_88 (by decide)
  have hK_0_88 := elq_63 hD hth cr_0_88
  have hE_0_89_1 : ∀ j : Int, w_ei ws (w_ar ws (n_v vs 0) 89) j = w_ei w1 (w_ar ws (n_v vs 0) 89) j := fun j => s1.1 _ _
  have hE_0_89_2 : ∀ j : Int, 0 ≤ j → (j = v_iv (n_v vs 8) → w_ei w1 (w_ar ws (n_v vs 0) 89) j = v_iv (n_v vs 3)) ∧ (j ≠ v_iv (n_v vs 8) → w_ei w1 (w_ar ws (n_v vs 0) 89) j = w_ei w2 (w_ar ws (n_v vs 0) 89) j) := fun j hj => ⟨fun h => by unfold w_ei; rw [s2.1, if_pos ⟨ad_10.symm, by rw [h]⟩], fun h => by unfold w_ei; rw [s2.1, if_neg (fun e => h (by have := e.2; omega))]⟩
  have hE_0_89_3 : ∀ j : Int, w_ei w2 (w_ar ws (n_v vs 0) 89) j = w_ei w3 (w_ar ws (n_v vs 0) 89) j := el_kp s3.1 r9 cr_0_89 (by decide)
  have hE_0_89_4 : ∀ j : Int, w_ei w3 (w_ar ws (n_v vs 0) 89) j = w_ei w4 (w_ar ws (n_v vs 0) 89) j := el_kp s4.1 r7 cr_0_89 (by decide)
  have hK_0_89 := elq_64 hD hth cr_0_89
  have hE_0_105_1 : ∀ j : Int, w_ei ws (w_ar ws (n_v vs 0) 105) j = w_ei w1 (w_ar ws (n_v vs 0) 105) j := fun j => s1.1 _ _
  have hE_0_105_2 : ∀ j : Int, w_ei w1 (w_ar ws (n_v vs 0) 105) j = w_ei w2 (w_ar ws (n_v vs 0) 105) j := el_kp s2.1 r10 cr_0_105 (by decide)
  have hE_0_105_3 : ∀ j : Int, w_ei w2 (w_ar ws (n_v vs 0) 105) j = w_ei w3 (w_ar ws (n_v vs 0) 105) j := el_kp s3.1 r9 cr_0_105 (by decide)
  have hE_0_105_4 : ∀ j : Int, w_ei w3 (w_ar ws (n_v vs 0) 105) j = w_ei w4 (w_ar ws (n_v vs 0) 105) j := el_kp s4.1 r7 cr_0_105 (by decide)
  have hK_0_105 := elq_65 hD hth cr_0_105
  have hE_0_106_1 : ∀ j : Int, w_ei ws (w_ar ws (n_v vs 0) 106) j = w_ei w1 (w_ar ws (n_v vs 0) 106) j := fun j => s1.1 _ _
  have hE_0_106_2 : ∀ j : Int, w_ei w1 (w_ar ws (n_v vs 0) 106) j = w_ei w2 (w_ar ws (n_v vs 0) 106) j := el_kp s2.1 r10 cr_0_106 (by decide)
  have hE_0_106_3 : ∀ j : Int, w_ei w2 (w_ar ws (n_v vs 0) 106) j = w_ei w3 (w_ar ws (n_v vs 0) 106) j := el_kp s3.1 r9 cr_0_106 (by decide)
  have hE_0_106_4 : ∀ j : Int, w_ei w3 (w_ar ws (n_v vs 0) 106) j = w_ei w4 (w_ar ws (n_v vs 0) 106) j := el_kp s4.1 r7 cr_0_106 (by decide)
  have hK_0_106 := elq_66 hD hth cr_0_106
  have kz_0_81 := fdq_124 hD hth r0
  have kz_0_101 := fdq_125 hD hth r0
  have nf0 : fc_1 PRD (20, [0, 4], [50, 1, 0, 81, 1, 3, 2, 0, 81, 4, 2, 1, 1, 0, 1]) ws (vs) := ⟨nf_in hl rfl, sgq_505 (vc_Mo_apart_at_ga_1_0 (v_iv (n_v vs 1)) (v_iv (n_v vs 2)) (v_iv (n_v vs 3)) (v_iv (n_v vs 4)) (v_iv (n_v vs 5)) (v_iv (n_v vs 6)) (v_iv (n_v vs 8)) (v_iv (n_v vs 11)) (v_iv (n_v vs 12)) (w_ei ws (w_ar ws (n_v vs 0) 105)) (w_ei ws (w_ar ws (n_v vs 0) 106)) (w_fi ws (n_v vs 0) 101) (w_fi w1 (n_v vs 0) 81) (w_ei w1 (w_ar ws (n_v vs 0) 105)) (w_ei w1 (w_ar ws (n_v vs 0) 106)) (w_fi w1 (n_v vs 0) 101) (w_fi w2 (n_v vs 0) 81) (w_ei w2 (w_ar ws (n_v vs 0) 105)) (w_ei w2 (w_ar ws (n_v vs 0) 106)) (w_fi w2 (n_v vs 0) 101) (w_fi w3 (n_v vs 0) 81) (w_ei w3 (w_ar ws (n_v vs 0) 105)) (w_ei w3 (w_ar ws (n_v vs 0) 106)) (w_fi w3 (n_v vs 0) 101) (w_fi w4 (n_v vs 0) 81) (w_ei w4 (w_ar ws (n_v vs 0) 105)) (w_ei w4 (w_ar ws (n_v vs 0) 106)) (w_ei w4 (w_ar ws (n_v vs 0) 87)) (w_ei w4 (w_ar ws (n_v vs 0) 88)) (w_ei w4 (w_ar ws (n_v vs 0) 89)) (w_fi w4 (n_v vs 0) 101) (w_fi ws (n_v vs 0) 81) (w_ei ws (w_ar ws (n_v vs 0) 87)) (w_ei w1 (w_ar ws (n_v vs 0) 87)) (w_ei w2 (w_ar ws (n_v vs 0) 87)) (w_ei w3 (w_ar ws (n_v vs 0) 87)) (w_ei ws (w_ar ws (n_v vs 0) 88)) (w_ei w1 (w_ar ws (n_v vs 0) 88)) (w_ei w2 (w_ar ws (n_v vs 0) 88)) (w_ei w3 (w_ar ws (n_v vs 0) 88)) (w_ei ws (w_ar ws (n_v vs 0) 89)) (w_ei w1 (w_ar ws (n_v vs 0) 89)) (w_ei w2 (w_ar ws (n_v vs 0) 89)) (w_ei w3 (w_ar ws (n_v vs 0) 89)) k1 k2 k3 k4 k5 k6 k8 k11 k12 d0 (shm_501 f0) (shm_502 f1) (shm_12 f3) g4 (shm_499 f5) f6 (shm_502 f7) (shm_499 f10) f11 (shm_502 f12) (shm_499 f15) f16 (shm_502 f17) (shm_499 f20) f21 f22 (shm_502 f23) fe_0_81_1 fe_0_101_1 fe_0_81_2 fe_0_101_2 fe_0_81_3 fe_0_101_3 fe_0_81_4 fe_0_101_4 hE_0_87_1 hE_0_87_2 hE_0_87_3 hE_0_87_4 hK_0_87 hE_0_88_1 hE_0_88_2 hE_0_88_3 hE_0_88_4 hK_0_88 hE_0_89_1 hE_0_89_2 hE_0_89_3 hE_0_89_4 hK_0_89 hE_0_105_1 hE_0_105_2 hE_0_105_3 hE_0_105_4 hK_0_105 hE_0_106_1 hE_0_106_2 hE_0_106_3 hE_0_106_4 hK_0_106 kz_0_81 kz_0_101)⟩
  have nf1 : fc_1 PRD (20, [0, 5, 6], [60, 2, 5, 467, 81, 101, 105, 106, 87, 88, 89]) ws (vs) := ⟨nf_in hl rfl, sgq_506 (vc_Mo_apart_at_ga_1_1 (v_iv (n_v vs 1)) (v_iv (n_v vs 2)) (v_iv (n_v vs 3)) (v_iv (n_v vs 4)) (v_iv (n_v vs 5)) (v_iv (n_v vs 6)) (v_iv (n_v vs 8)) (v_iv (n_v vs 11)) (v_iv (n_v vs 12)) (w_ei ws (w_ar ws (n_v vs 0) 105)) (w_ei ws (w_ar ws (n_v vs 0) 106)) (w_fi ws (n_v vs 0) 101) (w_fi w1 (n_v vs 0) 81) (w_ei w1 (w_ar ws (n_v vs 0) 105)) (w_ei w1 (w_ar ws (n_v vs 0) 106)) (w_fi w1 (n_v vs 0) 101) (w_fi w2 (n_v vs 0) 81) (w_ei w2 (w_ar ws (n_v vs 0) 105)) (w_ei w2 (w_ar ws (n_v vs 0) 106)) (w_fi w2 (n_v vs 0) 101) (w_fi w3 (n_v vs 0) 81) (w_ei w3 (w_ar ws (n_v vs 0) 105)) (w_ei w3 (w_ar ws (n_v vs 0) 106)) (w_fi w3 (n_v vs 0) 101) (w_fi w4 (n_v vs 0) 81) (w_ei w4 (w_ar ws (n_v vs 0) 105)) (w_ei w4 (w_ar ws (n_v vs 0) 106)) (w_ei w4 (w_ar ws (n_v vs 0) 87)) (w_ei w4 (w_ar ws (n_v vs 0) 88)) (w_ei w4 (w_ar ws (n_v vs 0) 89)) (w_fi w4 (n_v vs 0) 101) (w_fi ws (n_v vs 0) 81) (w_ei ws (w_ar ws (n_v vs 0) 87)) (w_ei w1 (w_ar ws (n_v vs 0) 87)) (w_ei w2 (w_ar ws (n_v vs 0) 87)) (w_ei w3 (w_ar ws (n_v vs 0) 87)) (w_ei ws (w_ar ws (n_v vs 0) 88)) (w_ei w1 (w_ar ws (n_v vs 0) 88)) (w_ei w2 (w_ar ws (n_v vs 0) 88)) (w_ei w3 (w_ar ws (n_v vs 0) 88)) (w_ei ws (w_ar ws (n_v vs 0) 89)) (w_ei w1 (w_ar ws (n_v vs 0) 89)) (w_ei w2 (w_ar ws (n_v vs 0) 89)) (w_ei w3 (w_ar ws (n_v vs 0) 89)) k1 k2 k3 k4 k5 k6 k8 k11 k12 d0 (shm_501 f0) (shm_502 f1) (shm_12 f3) g4 (shm_499 f5) f6 (shm_502 f7) (shm_499 f10) f11 (shm_502 f12) (shm_499 f15) f16 (shm_502 f17) (shm_499 f20) f21 f22 (shm_502 f23) fe_0_81_1 fe_0_101_1 fe_0_81_2 fe_0_101_2 fe_0_81_3 fe_0_101_3 fe_0_81_4 fe_0_101_4 hE_0_87_1 hE_0_87_2 hE_0_87_3 hE_0_87_4 hK_0_87 hE_0_88_1 hE_0_88_2 hE_0_88_3 hE_0_88_4 hK_0_88 hE_0_89_1 hE_0_89_2 hE_0_89_3 hE_0_89_4 hK_0_89 hE_0_105_1 hE_0_105_2 hE_0_105_3 hE_0_105_4 hK_0_105 hE_0_106_1 hE_0_106_2 hE_0_106_3 hE_0_106_4 hK_0_106 kz_0_81 kz_0_101)⟩
  refine ⟨(fun _ h => (by cases h)), [], trivial, ?_, (fun _ h => (by cases h))⟩
  rw [List.append_nil]
  exact List.forall_mem_cons.mpr ⟨⟨show (20 : Nat) < 100 from by decide, nf0⟩, List.forall_mem_cons.mpr ⟨⟨show (20 : Nat) < 100 from by decide, nf1⟩, (fun _ h => (by cases h))⟩⟩
def n_Mo_apart_at_ga_an : List an_T := []
def t_Mo_apart_at_ga_ct : ct_L := []
set_option maxRecDepth 100000 in
theorem c_Mo_apart_at_ga {l : Launch} {D : va_G} {kA : Nat → ClassId} : ct_ok PRD l D kA GG y_Mo_apart_at_ga z_Mo_apart_at_ga e_Mo_apart_at_ga := chk_all_ok (FT := [(189, 13, 87), (192, 13, 88), (195, 13, 89), (780, 13, 81)]) (PT := [(780, 13, 81, .int)]) (CT := t_Mo_apart_at_ga_ct) (KT := []) (NT := []) (AN := n_Mo_apart_at_ga_an) (OT := [o_Mo_apart_at_ga_0, o_Mo_apart_at_ga_1]) 0 200 (List.forall_mem_cons.mpr ⟨oo_Mo_apart_at_ga_0, List.forall_mem_cons.mpr ⟨oo_Mo_apart_at_ga_1, List.forall_mem_nil _⟩⟩) (by decide +kernel) ⟨List.forall_mem_cons.mpr ⟨gf_Mo_189, List.forall_mem_cons.mpr ⟨gf_Mo_192, List.forall_mem_cons.mpr ⟨gf_Mo_195, List.forall_mem_cons.mpr ⟨gf_Mo_780, List.forall_mem_nil _⟩⟩⟩⟩, List.forall_mem_cons.mpr ⟨pf_Mo_780, List.forall_mem_nil _⟩, List.forall_mem_nil _, List.forall_mem_nil _, List.forall_mem_nil _, GG_pl⟩ (by decide +kernel)

set_option maxHeartbeats 4000000 in
theorem vc_Mo_apart_at_gl_0_r0 (x1 : Int) (x2 : Int) (x3 : Int) (x4 : Int) (x6 : Int) (apartMany_0 : Int) (all_0 : Int → Int) (turned_0 : Int → Int) (costA_0 : Int → Int) (costB_0 : Int → Int) (costW_0 : Int → Int) (costPlain_0 : Int → Int) (apartA_0 : Int → Int) (apartB_0 : Int → Int) (apart_0 : Int → Int) (r_0 : Int) (costMany_0 : Int) (k1 : 0 ≤ x1 ∧ x1 ≤ 75) (k2 : 0 ≤ x2 ∧ x2 ≤ 75) (k3 : 1 ≤ x3 ∧ x3 ≤ 1) (k4 : 0 ≤ x4 ∧ x4 ≤ 199) (k6 : 0 ≤ x6 ∧ x6 ≤ 200) (g0 : x6 = apartMany_0) (f2 : apartMany_0 = x4) (f3 : LCP (r_0) (costMany_0) (apartMany_0) (all_0) (turned_0) (costA_0) (costB_0) (costW_0) (costPlain_0) (apartA_0) (apartB_0) (apart_0)) (f4 : FRO (r_0) (all_0) (turned_0) (x4) (x1)) (f5 : TOO (r_0) (all_0) (turned_0) (x4) (x2)) (f6 : x3 = 1) (hK_0_83 : ∀ j : Int, 0 ≤ j → j < 200 → 0 ≤ costA_0 j ∧ costA_0 j ≤ 75) (hK_0_84 : ∀ j : Int, 0 ≤ j → j < 200 → 0 ≤ costB_0 j ∧ costB_0 j ≤ 75) (hK_0_85 : ∀ j : Int, 0 ≤ j → j < 200 → 0 ≤ costW_0 j ∧ costW_0 j ≤ 72) (hK_0_86 : ∀ j : Int, 0 ≤ j → j < 200 → 0 ≤ costPlain_0 j ∧ costPlain_0 j ≤ 1) (hK_0_87 : ∀ j : Int, 0 ≤ j → j < 200 → 0 ≤ apartA_0 j ∧ apartA_0 j ≤ 75) (hK_0_88 : ∀ j : Int, 0 ≤ j → j < 200 → 0 ≤ apartB_0 j ∧ apartB_0 j ≤ 75) (hK_0_89 : ∀ j : Int, 0 ≤ j → j < 200 → 0 ≤ apart_0 j ∧ apart_0 j ≤ 202) (hK_0_95 : ∀ j : Int, 0 ≤ j → j < 48 → 0 ≤ turned_0 j ∧ turned_0 j ≤ 1) (kz_0_80 : 0 ≤ costMany_0 ∧ costMany_0 ≤ 200) (kz_0_81 : 0 ≤ apartMany_0 ∧ apartMany_0 ≤ 200) : 0 ≤ x6 ∧ x6 ≤ 199 := by
  omega
def o_Mo_apart_at_gl_0 : or_T := (9, 7, [(0, (2, 0, 0, [165])), (1, (0, 0, 75, [])), (2, (0, 0, 75, [])), (3, (0, 1, 1, [])), (4, (0, 0, 199, [])), (5, (2, 0, 0, [224])), (6, (0, 0, 200, []))], [(9, [6, 0], [81]), (9, [5, 0], [87]), (20, [0, 4], [50, 1, 0, 81, 1, 3, 2, 0, 81, 1, 1]), (20, [0], [60, 3, 9, 434, 5, 80, 81, 2, 95, 83, 84, 85, 86, 87, 88, 89]), (20, [0, 4, 1], [60, 1, 2, 432, 5, 2, 95]), (20, [0, 4, 2], [60, 1, 2, 433, 5, 2, 95]), (20, [3], [50, 0, 0, 1, 2, 1, 0, 0, 1])], [(6, (0, 0, 199, []))], [], [], [], [])
theorem oo_Mo_apart_at_gl_0 {kA : Nat → ClassId} : or_ok PRD kA GG o_Mo_apart_at_gl_0 := by
  refine or_mk fun A ta ws vs hD hth hl => ?_
  intro t0 r0 t1 k1 t2 k2 t3 k3 t4 k4 t5 r5 t6 k6 f0 f1 f2 f3 f4 f5 f6
  replace f0 := shm_497 f0
  have cr_0_83 := fdq_126 hD hth r0
  have cr_0_84 := fdq_127 hD hth r0
  have cr_0_85 := fdq_128 hD hth r0
  have cr_0_86 := fdq_129 hD hth r0
  have cr_0_87 := fdq_119 hD hth r0
  have cr_0_88 := fdq_120 hD hth r0
  have cr_0_89 := fdq_121 hD hth r0
  have cr_0_95 := fdq_130 hD hth r0
  have g0 : v_iv (n_v vs 6) = w_fi ws (n_v vs 0) 81 := congrArg v_iv f0
  have hK_0_83 := elq_67 hD hth cr_0_83
  have hK_0_84 := elq_68 hD hth cr_0_84
  have hK_0_85 := elq_69 hD hth cr_0_85
  have hK_0_86 := elq_70 hD hth cr_0_86
  have hK_0_87 := elq_62 hD hth cr_0_87
  have hK_0_88 := elq_63 hD hth cr_0_88
  have hK_0_89 := elq_64 hD hth cr_0_89
  have hK_0_95 := elq_71 hD hth cr_0_95
  have kz_0_80 := fdq_131 hD hth r0
  have kz_0_81 := fdq_124 hD hth r0
  have hrf0 : 0 ≤ v_iv (n_v vs 6) ∧ v_iv (n_v vs 6) ≤ 199 := vc_Mo_apart_at_gl_0_r0 (v_iv (n_v vs 1)) (v_iv (n_v vs 2)) (v_iv (n_v vs 3)) (v_iv (n_v vs 4)) (v_iv (n_v vs 6)) (w_fi ws (n_v vs 0) 81) (w_ei ws (w_ar ws (n_v vs 0) 2)) (w_ei ws (w_ar ws (n_v vs 0) 95)) (w_ei ws (w_ar ws (n_v vs 0) 83)) (w_ei ws (w_ar ws (n_v vs 0) 84)) (w_ei ws (w_ar ws (n_v vs 0) 85)) (w_ei ws (w_ar ws (n_v vs 0) 86)) (w_ei ws (w_ar ws (n_v vs 0) 87)) (w_ei ws (w_ar ws (n_v vs 0) 88)) (w_ei ws (w_ar ws (n_v vs 0) 89)) (w_fi ws (n_v vs 0) 5) (w_fi ws (n_v vs 0) 80) k1 k2 k3 k4 k6 g0 (shm_499 f2) (shm_507 f3) (shm_508 f4) (shm_509 f5) (shm_510 f6) hK_0_83 hK_0_84 hK_0_85 hK_0_86 hK_0_87 hK_0_88 hK_0_89 hK_0_95 kz_0_80 kz_0_81
  have rf6 : tv_ok ta (0, 0, 199, []) (n_v vs 6) := tv_in t6 (by first | omega | grind) (by first | omega | grind)
  refine ⟨List.forall_mem_cons.mpr ⟨rf6, (fun _ h => (by cases h))⟩, [], trivial, ?_, (fun _ h => (by cases h))⟩
  rw [List.append_nil]
  exact (fun _ h => (by cases h))
set_option maxHeartbeats 4000000 in
theorem vc_Mo_apart_at_gl_1_0 (x1 : Int) (x2 : Int) (x3 : Int) (x4 : Int) (x6 : Int) (x9 : Int) (x10 : Int) (all_0 : Int → Int) (turned_0 : Int → Int) (r_0 : Int) (apartMany_1 : Int) (all_1 : Int → Int) (turned_1 : Int → Int) (r_1 : Int) (apartMany_2 : Int) (all_2 : Int → Int) (turned_2 : Int → Int) (r_2 : Int) (apartMany_3 : Int) (all_3 : Int → Int) (turned_3 : Int → Int) (r_3 : Int) (apartMany_4 : Int) (all_4 : Int → Int) (turned_4 : Int → Int) (costA_4 : Int → Int) (costB_4 : Int → Int) (costW_4 : Int → Int) (costPlain_4 : Int → Int) (apartA_4 : Int → Int) (apartB_4 : Int → Int) (apart_4 : Int → Int) (r_4 : Int) (costMany_4 : Int) (costMany_0 : Int) (costMany_1 : Int) (apartMany_0 : Int) (costMany_2 : Int) (costMany_3 : Int) (costA_0 : Int → Int) (costA_1 : Int → Int) (costA_2 : Int → Int) (costA_3 : Int → Int) (costB_0 : Int → Int) (costB_1 : Int → Int) (costB_2 : Int → Int) (costB_3 : Int → Int) (costW_0 : Int → Int) (costW_1 : Int → Int) (costW_2 : Int → Int) (costW_3 : Int → Int) (costPlain_0 : Int → Int) (costPlain_1 : Int → Int) (costPlain_2 : Int → Int) (costPlain_3 : Int → Int) (apartA_0 : Int → Int) (apartA_1 : Int → Int) (apartA_2 : Int → Int) (apartA_3 : Int → Int) (apartB_0 : Int → Int) (apartB_1 : Int → Int) (apartB_2 : Int → Int) (apartB_3 : Int → Int) (apart_0 : Int → Int) (apart_1 : Int → Int) (apart_2 : Int → Int) (apart_3 : Int → Int) (k1 : 0 ≤ x1 ∧ x1 ≤ 75) (k2 : 0 ≤ x2 ∧ x2 ≤ 75) (k3 : 1 ≤ x3 ∧ x3 ≤ 1) (k4 : 0 ≤ x4 ∧ x4 ≤ 199) (k6 : 0 ≤ x6 ∧ x6 ≤ 199) (k9 : 1 ≤ x9 ∧ x9 ≤ 1) (k10 : 1 ≤ x10 ∧ x10 ≤ 200) (d0 : x6 + 1 ≤ x10 ∧ x10 ≤ x6 + 1) (f0 : FRO (r_0) (all_0) (turned_0) (x4) (x1)) (f1 : TOO (r_0) (all_0) (turned_0) (x4) (x2)) (f2 : x3 = 1) (f4 : x10 = x6 + x9) (g5 : x6 = apartMany_1) (f6 : apartMany_1 = x4) (f7 : FRO (r_1) (all_1) (turned_1) (x4) (x1)) (f8 : TOO (r_1) (all_1) (turned_1) (x4) (x2)) (f9 : x3 = 1) (f12 : apartMany_2 = x4) (f13 : FRO (r_2) (all_2) (turned_2) (x4) (x1)) (f14 : TOO (r_2) (all_2) (turned_2) (x4) (x2)) (f15 : x3 = 1) (f18 : apartMany_3 = x4) (f19 : FRO (r_3) (all_3) (turned_3) (x4) (x1)) (f20 : TOO (r_3) (all_3) (turned_3) (x4) (x2)) (f21 : x3 = 1) (f24 : apartMany_4 = x4) (f25 : LCP (r_4) (costMany_4) (apartMany_4) (all_4) (turned_4) (costA_4) (costB_4) (costW_4) (costPlain_4) (apartA_4) (apartB_4) (apart_4)) (f26 : FRO (r_4) (all_4) (turned_4) (x4) (x1)) (f27 : TOO (r_4) (all_4) (turned_4) (x4) (x2)) (f28 : x3 = 1) (fe_0_5_1 : r_0 = r_1) (fe_0_80_1 : costMany_0 = costMany_1) (fe_0_81_1 : apartMany_0 = x10) (fe_0_5_2 : r_1 = r_2) (fe_0_80_2 : costMany_1 = costMany_2) (fe_0_81_2 : apartMany_1 = apartMany_2) (fe_0_5_3 : r_2 = r_3) (fe_0_80_3 : costMany_2 = costMany_3) (fe_0_81_3 : apartMany_2 = apartMany_3) (fe_0_5_4 : r_3 = r_4) (fe_0_80_4 : costMany_3 = costMany_4) (fe_0_81_4 : apartMany_3 = apartMany_4) (hE_0_2_1 : ∀ j : Int, all_0 j = all_1 j) (hE_0_2_2 : ∀ j : Int, all_1 j = all_2 j) (hE_0_2_3 : ∀ j : Int, all_2 j = all_3 j) (hE_0_2_4 : ∀ j : Int, all_3 j = all_4 j) (hE_0_83_1 : ∀ j : Int, costA_0 j = costA_1 j) (hE_0_83_2 : ∀ j : Int, costA_1 j = costA_2 j) (hE_0_83_3 : ∀ j : Int, costA_2 j = costA_3 j) (hE_0_83_4 : ∀ j : Int, costA_3 j = costA_4 j) (hK_0_83 : ∀ j : Int, 0 ≤ j → j < 200 → 0 ≤ costA_0 j ∧ costA_0 j ≤ 75) (hE_0_84_1 : ∀ j : Int, costB_0 j = costB_1 j) (hE_0_84_2 : ∀ j : Int, costB_1 j = costB_2 j) (hE_0_84_3 : ∀ j : Int, costB_2 j = costB_3 j) (hE_0_84_4 : ∀ j : Int, costB_3 j = costB_4 j) (hK_0_84 : ∀ j : Int, 0 ≤ j → j < 200 → 0 ≤ costB_0 j ∧ costB_0 j ≤ 75) (hE_0_85_1 : ∀ j : Int, costW_0 j = costW_1 j) (hE_0_85_2 : ∀ j : Int, costW_1 j = costW_2 j) (hE_0_85_3 : ∀ j : Int, costW_2 j = costW_3 j) (hE_0_85_4 : ∀ j : Int, costW_3 j = costW_4 j) (hK_0_85 : ∀ j : Int, 0 ≤ j → j < 200 → 0 ≤ costW_0 j ∧ costW_0 j ≤ 72) (hE_0_86_1 : ∀ j : Int, costPlain_0 j = costPlain_1 j) (hE_0_86_2 : ∀ j : Int, costPlain_1 j = costPlain_2 j) (hE_0_86_3 : ∀ j : Int, costPlain_2 j = costPlain_3 j) (hE_0_86_4 : ∀ j : Int, costPlain_3 j = costPlain_4 j) (hK_0_86 : ∀ j : Int, 0 ≤ j → j < 200 → 0 ≤ costPlain_0 j ∧ costPlain_0 j ≤ 1) (hE_0_87_1 : ∀ j : Int, apartA_0 j = apartA_1 j) (hE_0_87_2 : ∀ j : Int, apartA_1 j = apartA_2 j) (hE_0_87_3 : ∀ j : Int, apartA_2 j = apartA_3 j) (hE_0_87_4 : ∀ j : Int, 0 ≤ j → (j = x6 → apartA_3 j = x1) ∧ (j ≠ x6 → apartA_3 j = apartA_4 j)) (hK_0_87 : ∀ j : Int, 0 ≤ j → j < 200 → 0 ≤ apartA_0 j ∧ apartA_0 j ≤ 75) (hE_0_88_1 : ∀ j : Int, apartB_0 j = apartB_1 j) (hE_0_88_2 : ∀ j : Int, apartB_1 j = apartB_2 j) (hE_0_88_3 : ∀ j : Int, 0 ≤ j → (j = x6 → apartB_2 j = x2) ∧ (j ≠ x6 → apartB_2 j = apartB_3 j)) (hE_0_88_4 : ∀ j : Int, apartB_3 j = apartB_4 j) (hK_0_88 : ∀ j : Int, 0 ≤ j → j < 200 → 0 ≤ apartB_0 j ∧ apartB_0 j ≤ 75) (hE_0_89_1 : ∀ j : Int, apart_0 j = apart_1 j) (hE_0_89_2 : ∀ j : Int, 0 ≤ j → (j = x6 → apart_1 j = x3) ∧ (j ≠ x6 → apart_1 j = apart_2 j)) (hE_0_89_3 : ∀ j : Int, apart_2 j = apart_3 j) (hE_0_89_4 : ∀ j : Int, apart_3 j = apart_4 j) (hK_0_89 : ∀ j : Int, 0 ≤ j → j < 200 → 0 ≤ apart_0 j ∧ apart_0 j ≤ 202) (hE_0_95_1 : ∀ j : Int, turned_0 j = turned_1 j) (hE_0_95_2 : ∀ j : Int, turned_1 j = turned_2 j) (hE_0_95_3 : ∀ j : Int, turned_2 j = turned_3 j) (hE_0_95_4 : ∀ j : Int, turned_3 j = turned_4 j) (hK_0_95 : ∀ j : Int, 0 ≤ j → j < 48 → 0 ≤ turned_0 j ∧ turned_0 j ≤ 1) (kz_0_80 : 0 ≤ costMany_0 ∧ costMany_0 ≤ 200) (kz_0_81 : 0 ≤ apartMany_0 ∧ apartMany_0 ≤ 200) : apartMany_0 = (x4 + 1) := by
  subst fe_0_5_1
  subst fe_0_80_1
  subst fe_0_5_2
  subst fe_0_80_2
  subst fe_0_81_2
  subst fe_0_5_3
  subst fe_0_80_3
  subst fe_0_81_3
  subst fe_0_5_4
  subst fe_0_80_4
  subst fe_0_81_4
  have e_hE_0_2_1 := funext hE_0_2_1; subst e_hE_0_2_1
  have e_hE_0_2_2 := funext hE_0_2_2; subst e_hE_0_2_2
  have e_hE_0_2_3 := funext hE_0_2_3; subst e_hE_0_2_3
  have e_hE_0_2_4 := funext hE_0_2_4; subst e_hE_0_2_4
  have e_hE_0_83_1 := funext hE_0_83_1; subst e_hE_0_83_1
  have e_hE_0_83_2 := funext hE_0_83_2; subst e_hE_0_83_2
  have e_hE_0_83_3 := funext hE_0_83_3; subst e_hE_0_83_3
  have e_hE_0_83_4 := funext hE_0_83_4; subst e_hE_0_83_4
  have e_hE_0_84_1 := funext hE_0_84_1; subst e_hE_0_84_1
  have e_hE_0_84_2 := funext hE_0_84_2; subst e_hE_0_84_2
  have e_hE_0_84_3 := funext hE_0_84_3; subst e_hE_0_84_3
  have e_hE_0_84_4 := funext hE_0_84_4; subst e_hE_0_84_4
  have e_hE_0_85_1 := funext hE_0_85_1; subst e_hE_0_85_1
  have e_hE_0_85_2 := funext hE_0_85_2; subst e_hE_0_85_2
  have e_hE_0_85_3 := funext hE_0_85_3; subst e_hE_0_85_3
  have e_hE_0_85_4 := funext hE_0_85_4; subst e_hE_0_85_4
  have e_hE_0_86_1 := funext hE_0_86_1; subst e_hE_0_86_1
  have e_hE_0_86_2 := funext hE_0_86_2; subst e_hE_0_86_2
  have e_hE_0_86_3 := funext hE_0_86_3; subst e_hE_0_86_3
  have e_hE_0_86_4 := funext hE_0_86_4; subst e_hE_0_86_4
  have e_hE_0_87_1 := funext hE_0_87_1; subst e_hE_0_87_1
  have e_hE_0_87_2 := funext hE_0_87_2; subst e_hE_0_87_2
  have e_hE_0_87_3 := funext hE_0_87_3; subst e_hE_0_87_3
  have e_hE_0_88_1 := funext hE_0_88_1; subst e_hE_0_88_1
  have e_hE_0_88_2 := funext hE_0_88_2; subst e_hE_0_88_2
  have e_hE_0_88_4 := funext hE_0_88_4; subst e_hE_0_88_4
  have e_hE_0_89_1 := funext hE_0_89_1; subst e_hE_0_89_1
  have e_hE_0_89_3 := funext hE_0_89_3; subst e_hE_0_89_3
  have e_hE_0_89_4 := funext hE_0_89_4; subst e_hE_0_89_4
  have e_hE_0_95_1 := funext hE_0_95_1; subst e_hE_0_95_1
  have e_hE_0_95_2 := funext hE_0_95_2; subst e_hE_0_95_2
  have e_hE_0_95_3 := funext hE_0_95_3; subst e_hE_0_95_3
  have e_hE_0_95_4 := funext hE_0_95_4; subst e_hE_0_95_4
  omega
set_option maxHeartbeats 4000000 in
theorem vc_Mo_apart_at_gl_1_1 (x1 : Int) (x2 : Int) (x3 : Int) (x4 : Int) (x6 : Int) (x9 : Int) (x10 : Int) (all_0 : Int → Int) (turned_0 : Int → Int) (r_0 : Int) (apartMany_1 : Int) (all_1 : Int → Int) (turned_1 : Int → Int) (r_1 : Int) (apartMany_2 : Int) (all_2 : Int → Int) (turned_2 : Int → Int) (r_2 : Int) (apartMany_3 : Int) (all_3 : Int → Int) (turned_3 : Int → Int) (r_3 : Int) (apartMany_4 : Int) (all_4 : Int → Int) (turned_4 : Int → Int) (costA_4 : Int → Int) (costB_4 : Int → Int) (costW_4 : Int → Int) (costPlain_4 : Int → Int) (apartA_4 : Int → Int) (apartB_4 : Int → Int) (apart_4 : Int → Int) (r_4 : Int) (costMany_4 : Int) (costMany_0 : Int) (costMany_1 : Int) (apartMany_0 : Int) (costMany_2 : Int) (costMany_3 : Int) (costA_0 : Int → Int) (costA_1 : Int → Int) (costA_2 : Int → Int) (costA_3 : Int → Int) (costB_0 : Int → Int) (costB_1 : Int → Int) (costB_2 : Int → Int) (costB_3 : Int → Int) (costW_0 : Int → Int) (costW_1 : Int → Int) (costW_2 : Int → Int) (costW_3 : Int → Int) (costPlain_0 : Int → Int) (costPlain_1 : Int → Int) (costPlain_2 : Int → Int) (costPlain_3 : Int → Int) (apartA_0 : Int → Int) (apartA_1 : Int → Int) (apartA_2 : Int → Int) (apartA_3 : Int → Int) (apartB_0 : Int → Int) (apartB_1 : Int → Int) (apartB_2 : Int → Int) (apartB_3 : Int → Int) (apart_0 : Int → Int) (apart_1 : Int → Int) (apart_2 : Int → Int) (apart_3 : Int → Int) (k1 : 0 ≤ x1 ∧ x1 ≤ 75) (k2 : 0 ≤ x2 ∧ x2 ≤ 75) (k3 : 1 ≤ x3 ∧ x3 ≤ 1) (k4 : 0 ≤ x4 ∧ x4 ≤ 199) (k6 : 0 ≤ x6 ∧ x6 ≤ 199) (k9 : 1 ≤ x9 ∧ x9 ≤ 1) (k10 : 1 ≤ x10 ∧ x10 ≤ 200) (d0 : x6 + 1 ≤ x10 ∧ x10 ≤ x6 + 1) (f0 : FRO (r_0) (all_0) (turned_0) (x4) (x1)) (f1 : TOO (r_0) (all_0) (turned_0) (x4) (x2)) (f2 : x3 = 1) (f4 : x10 = x6 + x9) (g5 : x6 = apartMany_1) (f6 : apartMany_1 = x4) (f7 : FRO (r_1) (all_1) (turned_1) (x4) (x1)) (f8 : TOO (r_1) (all_1) (turned_1) (x4) (x2)) (f9 : x3 = 1) (f12 : apartMany_2 = x4) (f13 : FRO (r_2) (all_2) (turned_2) (x4) (x1)) (f14 : TOO (r_2) (all_2) (turned_2) (x4) (x2)) (f15 : x3 = 1) (f18 : apartMany_3 = x4) (f19 : FRO (r_3) (all_3) (turned_3) (x4) (x1)) (f20 : TOO (r_3) (all_3) (turned_3) (x4) (x2)) (f21 : x3 = 1) (f24 : apartMany_4 = x4) (f25 : LCP (r_4) (costMany_4) (apartMany_4) (all_4) (turned_4) (costA_4) (costB_4) (costW_4) (costPlain_4) (apartA_4) (apartB_4) (apart_4)) (f26 : FRO (r_4) (all_4) (turned_4) (x4) (x1)) (f27 : TOO (r_4) (all_4) (turned_4) (x4) (x2)) (f28 : x3 = 1) (fe_0_5_1 : r_0 = r_1) (fe_0_80_1 : costMany_0 = costMany_1) (fe_0_81_1 : apartMany_0 = x10) (fe_0_5_2 : r_1 = r_2) (fe_0_80_2 : costMany_1 = costMany_2) (fe_0_81_2 : apartMany_1 = apartMany_2) (fe_0_5_3 : r_2 = r_3) (fe_0_80_3 : costMany_2 = costMany_3) (fe_0_81_3 : apartMany_2 = apartMany_3) (fe_0_5_4 : r_3 = r_4) (fe_0_80_4 : costMany_3 = costMany_4) (fe_0_81_4 : apartMany_3 = apartMany_4) (hE_0_2_1 : ∀ j : Int, all_0 j = all_1 j) (hE_0_2_2 : ∀ j : Int, all_1 j = all_2 j) (hE_0_2_3 : ∀ j : Int, all_2 j = all_3 j) (hE_0_2_4 : ∀ j : Int, all_3 j = all_4 j) (hE_0_83_1 : ∀ j : Int, costA_0 j = costA_1 j) (hE_0_83_2 : ∀ j : Int, costA_1 j = costA_2 j) (hE_0_83_3 : ∀ j : Int, costA_2 j = costA_3 j) (hE_0_83_4 : ∀ j : Int, costA_3 j = costA_4 j) (hK_0_83 : ∀ j : Int, 0 ≤ j → j < 200 → 0 ≤ costA_0 j ∧ costA_0 j ≤ 75) (hE_0_84_1 : ∀ j : Int, costB_0 j = costB_1 j) (hE_0_84_2 : ∀ j : Int, costB_1 j = costB_2 j) (hE_0_84_3 : ∀ j : Int, costB_2 j = costB_3 j) (hE_0_84_4 : ∀ j : Int, costB_3 j = costB_4 j) (hK_0_84 : ∀ j : Int, 0 ≤ j → j < 200 → 0 ≤ costB_0 j ∧ costB_0 j ≤ 75) (hE_0_85_1 : ∀ j : Int, costW_0 j = costW_1 j) (hE_0_85_2 : ∀ j : Int, costW_1 j = costW_2 j) (hE_0_85_3 : ∀ j : Int, costW_2 j = costW_3 j) (hE_0_85_4 : ∀ j : Int, costW_3 j = costW_4 j) (hK_0_85 : ∀ j : Int, 0 ≤ j → j < 200 → 0 ≤ costW_0 j ∧ costW_0 j ≤ 72) (hE_0_86_1 : ∀ j : Int, costPlain_0 j = costPlain_1 j) (hE_0_86_2 : ∀ j : Int, costPlain_1 j = costPlain_2 j) (hE_0_86_3 : ∀ j : Int, costPlain_2 j = costPlain_3 j) (hE_0_86_4 : ∀ j : Int, costPlain_3 j = costPlain_4 j) (hK_0_86 : ∀ j : Int, 0 ≤ j → j < 200 → 0 ≤ costPlain_0 j ∧ costPlain_0 j ≤ 1) (hE_0_87_1 : ∀ j : Int, apartA_0 j = apartA_1 j) (hE_0_87_2 : ∀ j : Int, apartA_1 j = apartA_2 j) (hE_0_87_3 : ∀ j : Int, apartA_2 j = apartA_3 j) (hE_0_87_4 : ∀ j : Int, 0 ≤ j → (j = x6 → apartA_3 j = x1) ∧ (j ≠ x6 → apartA_3 j = apartA_4 j)) (hK_0_87 : ∀ j : Int, 0 ≤ j → j < 200 → 0 ≤ apartA_0 j ∧ apartA_0 j ≤ 75) (hE_0_88_1 : ∀ j : Int, apartB_0 j = apartB_1 j) (hE_0_88_2 : ∀ j : Int, apartB_1 j = apartB_2 j) (hE_0_88_3 : ∀ j : Int, 0 ≤ j → (j = x6 → apartB_2 j = x2) ∧ (j ≠ x6 → apartB_2 j = apartB_3 j)) (hE_0_88_4 : ∀ j : Int, apartB_3 j = apartB_4 j) (hK_0_88 : ∀ j : Int, 0 ≤ j → j < 200 → 0 ≤ apartB_0 j ∧ apartB_0 j ≤ 75) (hE_0_89_1 : ∀ j : Int, apart_0 j = apart_1 j) (hE_0_89_2 : ∀ j : Int, 0 ≤ j → (j = x6 → apart_1 j = x3) ∧ (j ≠ x6 → apart_1 j = apart_2 j)) (hE_0_89_3 : ∀ j : Int, apart_2 j = apart_3 j) (hE_0_89_4 : ∀ j : Int, apart_3 j = apart_4 j) (hK_0_89 : ∀ j : Int, 0 ≤ j → j < 200 → 0 ≤ apart_0 j ∧ apart_0 j ≤ 202) (hE_0_95_1 : ∀ j : Int, turned_0 j = turned_1 j) (hE_0_95_2 : ∀ j : Int, turned_1 j = turned_2 j) (hE_0_95_3 : ∀ j : Int, turned_2 j = turned_3 j) (hE_0_95_4 : ∀ j : Int, turned_3 j = turned_4 j) (hK_0_95 : ∀ j : Int, 0 ≤ j → j < 48 → 0 ≤ turned_0 j ∧ turned_0 j ≤ 1) (kz_0_80 : 0 ≤ costMany_0 ∧ costMany_0 ≤ 200) (kz_0_81 : 0 ≤ apartMany_0 ∧ apartMany_0 ≤ 200) : LCP (r_0) (costMany_0) (apartMany_0) (all_0) (turned_0) (costA_0) (costB_0) (costW_0) (costPlain_0) (apartA_0) (apartB_0) (apart_0) := by
  subst fe_0_5_1
  subst fe_0_80_1
  subst fe_0_5_2
  subst fe_0_80_2
  subst fe_0_81_2
  subst fe_0_5_3
  subst fe_0_80_3
  subst fe_0_81_3
  subst fe_0_5_4
  subst fe_0_80_4
  subst fe_0_81_4
  have e_hE_0_2_1 := funext hE_0_2_1; subst e_hE_0_2_1
  have e_hE_0_2_2 := funext hE_0_2_2; subst e_hE_0_2_2
  have e_hE_0_2_3 := funext hE_0_2_3; subst e_hE_0_2_3
  have e_hE_0_2_4 := funext hE_0_2_4; subst e_hE_0_2_4
  have e_hE_0_83_1 := funext hE_0_83_1; subst e_hE_0_83_1
  have e_hE_0_83_2 := funext hE_0_83_2; subst e_hE_0_83_2
  have e_hE_0_83_3 := funext hE_0_83_3; subst e_hE_0_83_3
  have e_hE_0_83_4 := funext hE_0_83_4; subst e_hE_0_83_4
  have e_hE_0_84_1 := funext hE_0_84_1; subst e_hE_0_84_1
  have e_hE_0_84_2 := funext hE_0_84_2; subst e_hE_0_84_2
  have e_hE_0_84_3 := funext hE_0_84_3; subst e_hE_0_84_3
  have e_hE_0_84_4 := funext hE_0_84_4; subst e_hE_0_84_4
  have e_hE_0_85_1 := funext hE_0_85_1; subst e_hE_0_85_1
  have e_hE_0_85_2 := funext hE_0_85_2; subst e_hE_0_85_2
  have e_hE_0_85_3 := funext hE_0_85_3; subst e_hE_0_85_3
  have e_hE_0_85_4 := funext hE_0_85_4; subst e_hE_0_85_4
  have e_hE_0_86_1 := funext hE_0_86_1; subst e_hE_0_86_1
  have e_hE_0_86_2 := funext hE_0_86_2; subst e_hE_0_86_2
  have e_hE_0_86_3 := funext hE_0_86_3; subst e_hE_0_86_3
  have e_hE_0_86_4 := funext hE_0_86_4; subst e_hE_0_86_4
  have e_hE_0_87_1 := funext hE_0_87_1; subst e_hE_0_87_1
  have e_hE_0_87_2 := funext hE_0_87_2; subst e_hE_0_87_2
  have e_hE_0_87_3 := funext hE_0_87_3; subst e_hE_0_87_3
  have e_hE_0_88_1 := funext hE_0_88_1; subst e_hE_0_88_1
  have e_hE_0_88_2 := funext hE_0_88_2; subst e_hE_0_88_2
  have e_hE_0_88_4 := funext hE_0_88_4; subst e_hE_0_88_4
  have e_hE_0_89_1 := funext hE_0_89_1; subst e_hE_0_89_1
  have e_hE_0_89_3 := funext hE_0_89_3; subst e_hE_0_89_3
  have e_hE_0_89_4 := funext hE_0_89_4; subst e_hE_0_89_4
  have e_hE_0_95_1 := funext hE_0_95_1; subst e_hE_0_95_1
  have e_hE_0_95_2 := funext hE_0_95_2; subst e_hE_0_95_2
  have e_hE_0_95_3 := funext hE_0_95_3; subst e_hE_0_95_3
  have e_hE_0_95_4 := funext hE_0_95_4; subst e_hE_0_95_4
  exact lcp_apart ‹LCP _ _ _ _ _ _ _ _ _ _ _ _› (by omega) (by omega) (by assumption) (by assumption) (by omega) (by omega) (by assumption) (by assumption) (by assumption) (by omega) (by omega) (by omega)
def o_Mo_apart_at_gl_1 : or_T := (40, 11, [(0, (2, 0, 0, [165])), (1, (0, 0, 75, [])), (2, (0, 0, 75, [])), (3, (0, 1, 1, [])), (4, (0, 0, 199, [])), (5, (2, 0, 0, [224])), (6, (0, 0, 199, [])), (7, (2, 0, 0, [225])), (8, (2, 0, 0, [226])), (9, (0, 1, 1, [])), (10, (0, 1, 200, []))], [(20, [0, 4, 1], [60, 1, 2, 432, 5, 2, 95]), (20, [0, 4, 2], [60, 1, 2, 433, 5, 2, 95]), (20, [3], [50, 0, 0, 1, 2, 1, 0, 0, 1]), (101, [0, 10], [81]), (1, [10, 6, 9], []), (9, [6, 0], [81]), (20, [0, 4], [50, 1, 0, 81, 1, 3, 2, 0, 81, 1, 1]), (20, [0, 4, 1], [60, 1, 2, 432, 5, 2, 95]), (20, [0, 4, 2], [60, 1, 2, 433, 5, 2, 95]), (20, [3], [50, 0, 0, 1, 2, 1, 0, 0, 1]), (100, [8, 6, 3], []), (9, [8, 0], [89]), (20, [0, 4], [50, 1, 0, 81, 1, 3, 2, 0, 81, 1, 1]), (20, [0, 4, 1], [60, 1, 2, 432, 5, 2, 95]), (20, [0, 4, 2], [60, 1, 2, 433, 5, 2, 95]), (20, [3], [50, 0, 0, 1, 2, 1, 0, 0, 1]), (100, [7, 6, 2], []), (9, [7, 0], [88]), (20, [0, 4], [50, 1, 0, 81, 1, 3, 2, 0, 81, 1, 1]), (20, [0, 4, 1], [60, 1, 2, 432, 5, 2, 95]), (20, [0, 4, 2], [60, 1, 2, 433, 5, 2, 95]), (20, [3], [50, 0, 0, 1, 2, 1, 0, 0, 1]), (100, [5, 6, 1], []), (9, [5, 0], [87]), (20, [0, 4], [50, 1, 0, 81, 1, 3, 2, 0, 81, 1, 1]), (20, [0], [60, 3, 9, 434, 5, 80, 81, 2, 95, 83, 84, 85, 86, 87, 88, 89]), (20, [0, 4, 1], [60, 1, 2, 432, 5, 2, 95]), (20, [0, 4, 2], [60, 1, 2, 433, 5, 2, 95]), (20, [3], [50, 0, 0, 1, 2, 1, 0, 0, 1])], [], [], [(20, [0, 4], [50, 1, 0, 81, 1, 3, 2, 0, 81, 4, 2, 1, 1, 0, 1]), (20, [0], [60, 3, 9, 434, 5, 80, 81, 2, 95, 83, 84, 85, 86, 87, 88, 89])], [], [(10, 6, 1, 1)])
theorem oo_Mo_apart_at_gl_1 {kA : Nat → ClassId} : or_ok PRD kA GG o_Mo_apart_at_gl_1 := by
  refine or_mk fun A ta ws vs hD hth hl => ?_
  intro t0 r0 t1 k1 t2 k2 t3 k3 t4 k4 t5 r5 t6 k6 t7 r7 t8 r8 t9 k9 t10 k10 d0 f0 f1 f2 ta1 w1 le1 s1 f4 f5 f6 f7 f8 f9 ta2 w2 le2 s2 f11 f12 f13 f14 f15 ta3 w3 le3 s3 f17 f18 f19 f20 f21 ta4 w4 le4 s4 f23 f24 f25 f26 f27 f28
  have s1 : (∀ b j, w_el ws b j = w_el w1 b j) ∧ ∀ b j, w_fd ws b j = if b = v_ad (n_v vs 0) ∧ j = 81 then n_v vs 10 else w_fd w1 b j := s1.2
  replace f5 := shm_497 f5
  replace f7 := shm_508 f7
  replace f8 := shm_509 f8
  have s2 : (∀ b j, w_el w1 b j = if b = v_ad (n_v vs 8) ∧ j = (v_iv (n_v vs 6)).toNat then v_iv (n_v vs 3) else w_el w2 b j) ∧ ∀ b k, w_fd w1 b k = w_fd w2 b k := s2.2
  replace f11 := shm_503 f11
  replace f13 := shm_508 f13
  replace f14 := shm_509 f14
  have s3 : (∀ b j, w_el w2 b j = if b = v_ad (n_v vs 7) ∧ j = (v_iv (n_v vs 6)).toNat then v_iv (n_v vs 2) else w_el w3 b j) ∧ ∀ b k, w_fd w2 b k = w_fd w3 b k := s3.2
  replace f17 := shm_504 f17
  replace f19 := shm_508 f19
  replace f20 := shm_509 f20
  have s4 : (∀ b j, w_el w3 b j = if b = v_ad (n_v vs 5) ∧ j = (v_iv (n_v vs 6)).toNat then v_iv (n_v vs 1) else w_el w4 b j) ∧ ∀ b k, w_fd w3 b k = w_fd w4 b k := s4.2
  replace f23 := shm_498 f23
  replace f25 := shm_507 f25
  replace f26 := shm_508 f26
  replace f27 := shm_509 f27
  have ar_0_2_1 : w_ar w1 (n_v vs 0) 2 = w_ar ws (n_v vs 0) 2 := by show v_ad (w_fd w1 _ _) = v_ad (w_fd ws _ _); rw [s1.2, if_neg (fun e => absurd e.2 (by decide))]
  have ar_0_2_2 : w_ar w2 (n_v vs 0) 2 = w_ar ws (n_v vs 0) 2 := by rw [← ar_0_2_1]; show v_ad (w_fd w2 _ _) = v_ad (w_fd w1 _ _); rw [s2.2]
  have ar_0_2_3 : w_ar w3 (n_v vs 0) 2 = w_ar ws (n_v vs 0) 2 := by rw [← ar_0_2_2]; show v_ad (w_fd w3 _ _) = v_ad (w_fd w2 _ _); rw [s3.2]
  have ar_0_2_4 : w_ar w4 (n_v vs 0) 2 = w_ar ws (n_v vs 0) 2 := by rw [← ar_0_2_3]; show v_ad (w_fd w4 _ _) = v_ad (w_fd w3 _ _); rw [s4.2]
  have cr_0_2 := fdq_10 hD hth r0
  have ar_0_83_1 : w_ar w1 (n_v vs 0) 83 = w_ar ws (n_v vs 0) 83 := by show v_ad (w_fd w1 _ _) = v_ad (w_fd ws _ _); rw [s1.2, if_neg (fun e => absurd e.2 (by decide))]
  have ar_0_83_2 : w_ar w2 (n_v vs 0) 83 = w_ar ws (n_v vs 0) 83 := by rw [← ar_0_83_1]; show v_ad (w_fd w2 _ _) = v_ad (w_fd w1 _ _); rw [s2.2]
  have ar_0_83_3 : w_ar w3 (n_v vs 0) 83 = w_ar ws (n_v vs 0) 83 := by rw [← ar_0_83_2]; show v_ad (w_fd w3 _ _) = v_ad (w_fd w2 _ _); rw [s3.2]
  have ar_0_83_4 : w_ar w4 (n_v vs 0) 83 = w_ar ws (n_v vs 0) 83 := by rw [← ar_0_83_3]; show v_ad (w_fd w4 _ _) = v_ad (w_fd w3 _ _); rw [s4.2]
  have cr_0_83 := fdq_126 hD hth r0
  have ar_0_84_1 : w_ar w1 (n_v vs 0) 84 = w_ar ws (n_v vs 0) 84 := by show v_ad (w_fd w1 _ _) = v_ad (w_fd ws _ _); rw [s1.2, if_neg (fun e => absurd e.2 (by decide))]
  have ar_0_84_2 : w_ar w2 (n_v vs 0) 84 = w_ar ws (n_v vs 0) 84 := by rw [← ar_0_84_1]; show v_ad (w_fd w2 _ _) = v_ad (w_fd w1 _ _); rw [s2.2]
  have ar_0_84_3 : w_ar w3 (n_v vs 0) 84 = w_ar ws (n_v vs 0) 84 := by rw [← ar_0_84_2]; show v_ad (w_fd w3 _ _) = v_ad (w_fd w2 _ _); rw [s3.2]
  have ar_0_84_4 : w_ar w4 (n_v vs 0) 84 = w_ar ws (n_v vs 0) 84 := by rw [← ar_0_84_3]; show v_ad (w_fd w4 _ _) = v_ad (w_fd w3 _ _); rw [s4.2]
  have cr_0_84 := fdq_127 hD hth r0
  have ar_0_85_1 : w_ar w1 (n_v vs 0) 85 = w_ar ws (n_v vs 0) 85 := by show v_ad (w_fd w1 _ _) = v_ad (w_fd ws _ _); rw [s1.2, if_neg (fun e => absurd e.2 (by decide))]
  have ar_0_85_2 : w_ar w2 (n_v vs 0) 85 = w_ar ws (n_v vs 0) 85 := by rw [← ar_0_85_1]; show v_ad (w_fd w2 _ _) = v_ad (w_fd w1 _ _); rw [s2.2]
  have ar_0_85_3 : w_ar w3 (n_v vs 0) 85 = w_ar ws (n_v vs 0) 85 := by rw [← ar_0_85_2]; show v_ad (w_fd w3 _ _) = v_ad (w_fd w2 _ _); rw [s3.2]
  have ar_0_85_4 : w_ar w4 (n_v vs 0) 85 = w_ar ws (n_v vs 0) 85 := by rw [← ar_0_85_3]; show v_ad (w_fd w4 _ _) = v_ad (w_fd w3 _ _); rw [s4.2]
  have cr_0_85 := fdq_128 hD hth r0
  have ar_0_86_1 : w_ar w1 (n_v vs 0) 86 = w_ar ws (n_v vs 0) 86 := by show v_ad (w_fd w1 _ _) = v_ad (w_fd ws _ _); rw [s1.2, if_neg (fun e => absurd e.2 (by decide))]
  have ar_0_86_2 : w_ar w2 (n_v vs 0) 86 = w_ar ws (n_v vs 0) 86 := by rw [← ar_0_86_1]; show v_ad (w_fd w2 _ _) = v_ad (w_fd w1 _ _); rw [s2.2]
  have ar_0_86_3 : w_ar w3 (n_v vs 0) 86 = w_ar ws (n_v vs 0) 86 := by rw [← ar_0_86_2]; show v_ad (w_fd w3 _ _) = v_ad (w_fd w2 _ _); rw [s3.2]
  have ar_0_86_4 : w_ar w4 (n_v vs 0) 86 = w_ar ws (n_v vs 0) 86 := by rw [← ar_0_86_3]; show v_ad (w_fd w4 _ _) = v_ad (w_fd w3 _ _); rw [s4.2]
  have cr_0_86 := fdq_129 hD hth r0
  have ar_0_87_1 : w_ar w1 (n_v vs 0) 87 = w_ar ws (n_v vs 0) 87 := by show v_ad (w_fd w1 _ _) = v_ad (w_fd ws _ _); rw [s1.2, if_neg (fun e => absurd e.2 (by decide))]
  have ar_0_87_2 : w_ar w2 (n_v vs 0) 87 = w_ar ws (n_v vs 0) 87 := by rw [← ar_0_87_1]; show v_ad (w_fd w2 _ _) = v_ad (w_fd w1 _ _); rw [s2.2]
  have ar_0_87_3 : w_ar w3 (n_v vs 0) 87 = w_ar ws (n_v vs 0) 87 := by rw [← ar_0_87_2]; show v_ad (w_fd w3 _ _) = v_ad (w_fd w2 _ _); rw [s3.2]
  have ar_0_87_4 : w_ar w4 (n_v vs 0) 87 = w_ar ws (n_v vs 0) 87 := by rw [← ar_0_87_3]; show v_ad (w_fd w4 _ _) = v_ad (w_fd w3 _ _); rw [s4.2]
  have cr_0_87 := fdq_119 hD hth r0
  have ar_0_88_1 : w_ar w1 (n_v vs 0) 88 = w_ar ws (n_v vs 0) 88 := by show v_ad (w_fd w1 _ _) = v_ad (w_fd ws _ _); rw [s1.2, if_neg (fun e => absurd e.2 (by decide))]
  have ar_0_88_2 : w_ar w2 (n_v vs 0) 88 = w_ar ws (n_v vs 0) 88 := by rw [← ar_0_88_1]; show v_ad (w_fd w2 _ _) = v_ad (w_fd w1 _ _); rw [s2.2]
  have ar_0_88_3 : w_ar w3 (n_v vs 0) 88 = w_ar ws (n_v vs 0) 88 := by rw [← ar_0_88_2]; show v_ad (w_fd w3 _ _) = v_ad (w_fd w2 _ _); rw [s3.2]
  have ar_0_88_4 : w_ar w4 (n_v vs 0) 88 = w_ar ws (n_v vs 0) 88 := by rw [← ar_0_88_3]; show v_ad (w_fd w4 _ _) = v_ad (w_fd w3 _ _); rw [s4.2]
  have cr_0_88 := fdq_120 hD hth r0
  have ar_0_89_1 : w_ar w1 (n_v vs 0) 89 = w_ar ws (n_v vs 0) 89 := by show v_ad (w_fd w1 _ _) = v_ad (w_fd ws _ _); rw [s1.2, if_neg (fun e => absurd e.2 (by decide))]
  have ar_0_89_2 : w_ar w2 (n_v vs 0) 89 = w_ar ws (n_v vs 0) 89 := by rw [← ar_0_89_1]; show v_ad (w_fd w2 _ _) = v_ad (w_fd w1 _ _); rw [s2.2]
  have ar_0_89_3 : w_ar w3 (n_v vs 0) 89 = w_ar ws (n_v vs 0) 89 := by rw [← ar_0_89_2]; show v_ad (w_fd w3 _ _) = v_ad (w_fd w2 _ _); rw [s3.2]
  have ar_0_89_4 : w_ar w4 (n_v vs 0) 89 = w_ar ws (n_v vs 0) 89 := by rw [← ar_0_89_3]; show v_ad (w_fd w4 _ _) = v_ad (w_fd w3 _ _); rw [s4.2]
  have cr_0_89 := fdq_121 hD hth r0
  have ar_0_95_1 : w_ar w1 (n_v vs 0) 95 = w_ar ws (n_v vs 0) 95 := by show v_ad (w_fd w1 _ _) = v_ad (w_fd ws _ _); rw [s1.2, if_neg (fun e => absurd e.2 (by decide))]
  have ar_0_95_2 : w_ar w2 (n_v vs 0) 95 = w_ar ws (n_v vs 0) 95 := by rw [← ar_0_95_1]; show v_ad (w_fd w2 _ _) = v_ad (w_fd w1 _ _); rw [s2.2]
  have ar_0_95_3 : w_ar w3 (n_v vs 0) 95 = w_ar ws (n_v vs 0) 95 := by rw [← ar_0_95_2]; show v_ad (w_fd w3 _ _) = v_ad (w_fd w2 _ _); rw [s3.2]
  have ar_0_95_4 : w_ar w4 (n_v vs 0) 95 = w_ar ws (n_v vs 0) 95 := by rw [← ar_0_95_3]; show v_ad (w_fd w4 _ _) = v_ad (w_fd w3 _ _); rw [s4.2]
  have cr_0_95 := fdq_130 hD hth r0
  have ad_8 : v_ad (n_v vs 8) = w_ar ws (n_v vs 0) 89 := (congrArg v_ad f11).trans ar_0_89_2
  have ad_7 : v_ad (n_v vs 7) = w_ar ws (n_v vs 0) 88 := (congrArg v_ad f17).trans ar_0_88_3
  have ad_5 : v_ad (n_v vs 5) = w_ar ws (n_v vs 0) 87 := (congrArg v_ad f23).trans ar_0_87_4
  have g5 : v_iv (n_v vs 6) = w_fi w1 (n_v vs 0) 81 := congrArg v_iv f5
  simp only [ar_0_2_1, ar_0_95_1, ar_0_2_2, ar_0_95_2, ar_0_2_3, ar_0_95_3, ar_0_2_4, ar_0_83_4, ar_0_84_4, ar_0_85_4, ar_0_86_4, ar_0_87_4, ar_0_88_4, ar_0_89_4, ar_0_95_4] at f7 f8 f13 f14 f19 f20 f25 f26 f27
  have fe_0_5_1 : w_fi ws (n_v vs 0) 5 = w_fi w1 (n_v vs 0) 5 := by show v_iv (w_fd _ _ _) = v_iv (w_fd _ _ _); rw [s1.2, if_neg (fun e => absurd e.2 (by decide))]
  have fe_0_80_1 : w_fi ws (n_v vs 0) 80 = w_fi w1 (n_v vs 0) 80 := by show v_iv (w_fd _ _ _) = v_iv (w_fd _ _ _); rw [s1.2, if_neg (fun e => absurd e.2 (by decide))]
  have fe_0_81_1 : w_fi ws (n_v vs 0) 81 = v_iv (n_v vs 10) := by show v_iv (w_fd _ _ _) = _; rw [s1.2, if_pos ⟨rfl, rfl⟩]
  have fe_0_5_2 : w_fi w1 (n_v vs 0) 5 = w_fi w2 (n_v vs 0) 5 := congrArg v_iv (s2.2 _ _)
  have fe_0_80_2 : w_fi w1 (n_v vs 0) 80 = w_fi w2 (n_v vs 0) 80 := congrArg v_iv (s2.2 _ _)
  have fe_0_81_2 : w_fi w1 (n_v vs 0) 81 = w_fi w2 (n_v vs 0) 81 := congrArg v_iv (s2.2 _ _)
  have fe_0_5_3 : w_fi w2 (n_v vs 0) 5 = w_fi w3 (n_v vs 0) 5 := congrArg v_iv (s3.2 _ _)
  have fe_0_80_3 : w_fi w2 (n_v vs 0) 80 = w_fi w3 (n_v vs 0) 80 := congrArg v_iv (s3.2 _ _)
  have fe_0_81_3 : w_fi w2 (n_v vs 0) 81 = w_fi w3 (n_v vs 0) 81 := congrArg v_iv (s3.2 _ _)
  have fe_0_5_4 : w_fi w3 (n_v vs 0) 5 = w_fi w4 (n_v vs 0) 5 := congrArg v_iv (s4.2 _ _)
  have fe_0_80_4 : w_fi w3 (n_v vs 0) 80 = w_fi w4 (n_v vs 0) 80 := congrArg v_iv (s4.2 _ _)
  have fe_0_81_4 : w_fi w3 (n_v vs 0) 81 = w_fi w4 (n_v vs 0) 81 := congrArg v_iv (s4.2 _ _)
  have hE_0_2_1 : ∀ j : Int, w_ei ws (w_ar ws (n_v vs 0) 2) j = w_ei w1 (w_ar ws (n_v vs 0) 2) j := fun j => s1.1 _ _
  have hE_0_2_2 : ∀ j : Int, w_ei w1 (w_ar ws (n_v vs 0) 2) j = w_ei w2 (w_ar ws (n_v vs 0) 2) j := el_kp s2.1 r8 cr_0_2 (by decide)
  have hE_0_2_3 : ∀ j : Int, w_ei w2 (w_ar ws (n_v vs 0) 2) j = w_ei w3 (w_ar ws (n_v vs 0) 2) j := el_kp s3.1 r7 cr_0_2 (by decide)
  have hE_0_2_4 : ∀ j : Int, w_ei w3 (w_ar ws (n_v vs 0) 2) j = w_ei w4 (w_ar ws (n_v vs 0) 2) j := el_kp s4.1 r5 cr_0_2 (by decide)
  have hE_0_83_1 : ∀ j : Int, w_ei ws (w_ar ws (n_v vs 0) 83) j = w_ei w1 (w_ar ws (n_v vs 0) 83) j := fun j => s1.1 _ _
  have hE_0_83_2 : ∀ j : Int, w_ei w1 (w_ar ws (n_v vs 0) 83) j = w_ei w2 (w_ar ws (n_v vs 0) 83) j := el_kp s2.1 r8 cr_0_83 (by decide)
  have hE_0_83_3 : ∀ j : Int, w_ei w2 (w_ar ws (n_v vs 0) 83) j = w_ei w3 (w_ar ws (n_v vs 0) 83) j := el_kp s3.1 r7 cr_0_83 (by decide)
  have hE_0_83_4 : ∀ j : Int, w_ei w3 (w_ar ws (n_v vs 0) 83) j = w_ei w4 (w_ar ws (n_v vs 0) 83) j := el_kp s4.1 r5 cr_0_83 (by decide)
  have hK_0_83 := elq_67 hD hth cr_0_83
  have hE_0_84_1 : ∀ j : Int, w_ei ws (w_ar ws (n_v vs 0) 84) j = w_ei w1 (w_ar ws (n_v vs 0) 84) j := fun j => s1.1 _ _
  have hE_0_84_2 : ∀ j : Int, w_ei w1 (w_ar ws (n_v vs 0) 84) j = w_ei w2 (w_ar ws (n_v vs 0) 84) j := el_kp s2.1 r8 cr_0_84 (by decide)
  have hE_0_84_3 : ∀ j : Int, w_ei w2 (w_ar ws (n_v vs 0) 84) j = w_ei w3 (w_ar ws (n_v vs 0) 84) j := el_kp s3.1 r7 cr_0_84 (by decide)
  have hE_0_84_4 : ∀ j : Int, w_ei w3 (w_ar ws (n_v vs 0) 84) j = w_ei w4 (w_ar ws (n_v vs 0) 84) j := el_kp s4.1 r5 cr_0_84 (by decide)
  have hK_0_84 := elq_68 hD hth cr_0_84
  have hE_0_85_1 : ∀ j : Int, w_ei ws (w_ar ws (n_v vs 0) 85) j = w_ei w1 (w_ar ws (n_v vs 0) 85) j := fun j => s1.1 _ _
  have hE_0_85_2 : ∀ j : Int, w_ei w1 (w_ar ws (n_v vs 0) 85) j = w_ei w2 (w_ar ws (n_v vs 0) 85) j := el_kp s2.1 r8 cr_0_85 (by decide)
  have hE_0_85_3 : ∀ j : Int, w_ei w2 (w_ar ws (n_v vs 0) 85) j = w_ei w3 (w_ar ws (n_v vs 0) 85) j := el_kp s3.1 r7 cr_0_85 (by decide)
  have hE_0_85_4 : ∀ j : Int, w_ei w3 (w_ar ws (n_v vs 0) 85) j = w_ei w4 (w_ar ws (n_v vs 0) 85) j := el_kp s4.1 r5 cr_0_85 (by decide)
  have hK_0_85 := elq_69 hD hth cr_0_85
  have hE_0_86_1 : ∀ j : Int, w_ei ws (w_ar ws (n_v vs 0) 86) j = w_ei w1 (w_ar ws (n_v vs 0) 86) j := fun j => s1.1 _ _
  have hE_0_86_2 : ∀ j : Int, w_ei w1 (w_ar ws (n_v vs 0) 86) j = w_ei w2 (w_ar ws (n_v vs 0) 86) j := el_kp s2.1 r8 cr_0_86 (by decide)
  have hE_0_86_3 : ∀ j : Int, w_ei w2 (w_ar ws (n_v vs 0) 86) j = w_ei w3 (w_ar ws (n_v vs 0) 86) j := el_kp s3.1 r7 cr_0_86 (by decide)
  have hE_0_86_4 : ∀ j : Int, w_ei w3 (w_ar ws (n_v vs 0) 86) j = w_ei w4 (w_ar ws (n_v vs 0) 86) j := el_kp s4.1 r5 cr_0_86 (by decide)
  have hK_0_86 := elq_70 hD hth cr_0_86
  have hE_0_87_1 : ∀ j : Int, w_ei ws (w_ar ws (n_v vs 0) 87) j = w_ei w1 (w_ar ws (n_v vs 0) 87) j := fun j => s1.1 _ _
  have hE_0_87_2 : ∀ j : Int, w_ei w1 (w_ar ws (n_v vs 0) 87) j = w_ei w2 (w_ar ws (n_v vs 0) 87) j := el_kp s2.1 r8 cr_0_87 (by decide)
  have hE_0_87_3 : ∀ j : Int, w_ei w2 (w_ar ws (n_v vs 0) 87) j = w_ei w3 (w_ar ws (n_v vs 0) 87) j := el_kp s3.1 r7 cr_0_87 (by decide)
  have hE_0_87_4 : ∀ j : Int, 0 ≤ j → (j = v_iv (n_v vs 6) → w_ei w3 (w_ar ws (n_v vs 0) 87) j = v_iv (n_v vs 1)) ∧ (j ≠ v_iv (n_v vs 6) → w_ei w3 (w_ar ws (n_v vs 0) 87) j = w_ei w4 (w_ar ws (n_v vs 0) 87) j) := fun j hj => ⟨fun h => by unfold w_ei; rw [s4.1, if_pos ⟨ad_5.symm, by rw [h]⟩], fun h => by unfold w_ei; rw [s4.1, if_neg (fun e => h (by have := e.2; omega))]⟩
  have hK_0_87 := elq_62 hD hth cr_0_87
  have hE_0_88_1 : ∀ j : Int, w_ei ws (w_ar ws (n_v vs 0) 88) j = w_ei w1 (w_ar ws (n_v vs 0) 88) j := fun j => s1.1 _ _
  have hE_0_88_2 : ∀ j : Int, w_ei w1 (w_ar ws (n_v vs 0) 88) j = w_ei w2 (w_ar ws (n_v vs 0) 88) j := el_kp s2.1 r8 cr_0_88 (by decide)
  have hE_0_88_3 : ∀ j : Int, 0 ≤ j → (j = v_iv (n_v vs 6) → w_ei w2 (w_ar ws (n_v vs 0) 88) j = v_iv (n_v vs 2)) ∧ (j ≠ v_iv (n_v vs 6) → w_ei w2 (w_ar ws (n_v vs 0) 88) j = w_ei w3 (w_ar ws (n_v vs 0) 88) j) := fun j hj => ⟨fun h => by unfold w_ei; rw [s3.1, if_pos ⟨ad_7.symm, by rw [h]⟩], fun h => by unfold w_ei; rw [s3.1, if_neg (fun e => h (by have := e.2; omega))]⟩
  have hE_0_88_4 : ∀ j : Int, w_ei w3 (w_ar ws (n_v vs 0) 88) j = w_ei w4 (w_ar ws (n_v vs 0) 88) j := el_kp s4.1 r5 cr_0_88 (by decide)
  have hK_0_88 := elq_63 hD hth cr_0_88
  have hE_0_89_1 : ∀ j : Int, w_ei ws (w_ar ws (n_v vs 0) 89) j = w_ei w1 (w_ar ws (n_v vs 0) 89) j := fun j => s1.1 _ _
  have hE_0_89_2 : ∀ j : Int, 0 ≤ j → (j = v_iv (n_v vs 6) → w_ei w1 (w_ar ws (n_v vs 0) 89) j = v_iv (n_v vs 3)) ∧ (j ≠ v_iv (n_v vs 6) → w_ei w1 (w_ar ws (n_v vs 0) 89) j = w_ei w2 (w_ar ws (n_v vs 0) 89) j) := fun j hj => ⟨fun h => by unfold w_ei; rw [s2.1, if_pos ⟨ad_8.symm, by rw [h]⟩], fun h => by unfold w_ei; rw [s2.1, if_neg (fun e => h (by have := e.2; omega))]⟩
  have hE_0_89_3 : ∀ j : Int, w_ei w2 (w_ar ws (n_v vs 0) 89) j = w_ei w3 (w_ar ws (n_v vs 0) 89) j := el_kp s3.1 r7 cr_0_89 (by decide)
  have hE_0_89_4 : ∀ j : Int, w_ei w3 (w_ar ws (n_v vs 0) 89) j = w_ei w4 (w_ar ws (n_v vs 0) 89) j := el_kp s4.1 r5 cr_0_89 (by decide)
  have hK_0_89 := elq_64 hD hth cr_0_89
  have hE_0_95_1 : ∀ j : Int, w_ei ws (w_ar ws (n_v vs 0) 95) j = w_ei w1 (w_ar ws (n_v vs 0) 95) j := fun j => s1.1 _ _
  have hE_0_95_2 : ∀ j : Int, w_ei w1 (w_ar ws (n_v vs 0) 95) j = w_ei w2 (w_ar ws (n_v vs 0) 95) j := el_kp s2.1 r8 cr_0_95 (by decide)
  have hE_0_95_3 : ∀ j : Int, w_ei w2 (w_ar ws (n_v vs 0) 95) j = w_ei w3 (w_ar ws (n_v vs 0) 95) j := el_kp s3.1 r7 cr_0_95 (by decide)
  have hE_0_95_4 : ∀ j : Int, w_ei w3 (w_ar ws (n_v vs 0) 95) j = w_ei w4 (w_ar ws (n_v vs 0) 95) j := el_kp s4.1 r5 cr_0_95 (by decide)
  have hK_0_95 := elq_71 hD hth cr_0_95
  have kz_0_80 := fdq_131 hD hth r0
  have kz_0_81 := fdq_124 hD hth r0
  have nf0 : fc_1 PRD (20, [0, 4], [50, 1, 0, 81, 1, 3, 2, 0, 81, 4, 2, 1, 1, 0, 1]) ws (vs) := ⟨nf_in hl rfl, sgq_505 (vc_Mo_apart_at_gl_1_0 (v_iv (n_v vs 1)) (v_iv (n_v vs 2)) (v_iv (n_v vs 3)) (v_iv (n_v vs 4)) (v_iv (n_v vs 6)) (v_iv (n_v vs 9)) (v_iv (n_v vs 10)) (w_ei ws (w_ar ws (n_v vs 0) 2)) (w_ei ws (w_ar ws (n_v vs 0) 95)) (w_fi ws (n_v vs 0) 5) (w_fi w1 (n_v vs 0) 81) (w_ei w1 (w_ar ws (n_v vs 0) 2)) (w_ei w1 (w_ar ws (n_v vs 0) 95)) (w_fi w1 (n_v vs 0) 5) (w_fi w2 (n_v vs 0) 81) (w_ei w2 (w_ar ws (n_v vs 0) 2)) (w_ei w2 (w_ar ws (n_v vs 0) 95)) (w_fi w2 (n_v vs 0) 5) (w_fi w3 (n_v vs 0) 81) (w_ei w3 (w_ar ws (n_v vs 0) 2)) (w_ei w3 (w_ar ws (n_v vs 0) 95)) (w_fi w3 (n_v vs 0) 5) (w_fi w4 (n_v vs 0) 81) (w_ei w4 (w_ar ws (n_v vs 0) 2)) (w_ei w4 (w_ar ws (n_v vs 0) 95)) (w_ei w4 (w_ar ws (n_v vs 0) 83)) (w_ei w4 (w_ar ws (n_v vs 0) 84)) (w_ei w4 (w_ar ws (n_v vs 0) 85)) (w_ei w4 (w_ar ws (n_v vs 0) 86)) (w_ei w4 (w_ar ws (n_v vs 0) 87)) (w_ei w4 (w_ar ws (n_v vs 0) 88)) (w_ei w4 (w_ar ws (n_v vs 0) 89)) (w_fi w4 (n_v vs 0) 5) (w_fi w4 (n_v vs 0) 80) (w_fi ws (n_v vs 0) 80) (w_fi w1 (n_v vs 0) 80) (w_fi ws (n_v vs 0) 81) (w_fi w2 (n_v vs 0) 80) (w_fi w3 (n_v vs 0) 80) (w_ei ws (w_ar ws (n_v vs 0) 83)) (w_ei w1 (w_ar ws (n_v vs 0) 83)) (w_ei w2 (w_ar ws (n_v vs 0) 83)) (w_ei w3 (w_ar ws (n_v vs 0) 83)) (w_ei ws (w_ar ws (n_v vs 0) 84)) (w_ei w1 (w_ar ws (n_v vs 0) 84)) (w_ei w2 (w_ar ws (n_v vs 0) 84)) (w_ei w3 (w_ar ws (n_v vs 0) 84)) (w_ei ws (w_ar ws (n_v vs 0) 85)) (w_ei w1 (w_ar ws (n_v vs 0) 85)) (w_ei w2 (w_ar ws (n_v vs 0) 85)) (w_ei w3 (w_ar ws (n_v vs 0) 85)) (w_ei ws (w_ar ws (n_v vs 0) 86)) (w_ei w1 (w_ar ws (n_v vs 0) 86)) (w_ei w2 (w_ar ws (n_v vs 0) 86)) (w_ei w3 (w_ar ws (n_v vs 0) 86)) (w_ei ws (w_ar ws (n_v vs 0) 87)) (w_ei w1 (w_ar ws (n_v vs 0) 87)) (w_ei w2 (w_ar ws (n_v vs 0) 87)) (w_ei w3 (w_ar ws (n_v vs 0) 87)) (w_ei ws (w_ar ws (n_v vs 0) 88)) (w_ei w1 (w_ar ws (n_v vs 0) 88)) (w_ei w2 (w_ar ws (n_v vs 0) 88)) (w_ei w3 (w_ar ws (n_v vs 0) 88)) (w_ei ws (w_ar ws (n_v vs 0) 89)) (w_ei w1 (w_ar ws (n_v vs 0) 89)) (w_ei w2 (w_ar ws (n_v vs 0) 89)) (w_ei w3 (w_ar ws (n_v vs 0) 89)) k1 k2 k3 k4 k6 k9 k10 d0 (shm_508 f0) (shm_509 f1) (shm_510 f2) (shm_12 f4) g5 (shm_499 f6) f7 f8 (shm_510 f9) (shm_499 f12) f13 f14 (shm_510 f15) (shm_499 f18) f19 f20 (shm_510 f21) (shm_499 f24) f25 f26 f27 (shm_510 f28) fe_0_5_1 fe_0_80_1 fe_0_81_1 fe_0_5_2 fe_0_80_2 fe_0_81_2 fe_0_5_3 fe_0_80_3 fe_0_81_3 fe_0_5_4 fe_0_80_4 fe_0_81_4 hE_0_2_1 hE_0_2_2 hE_0_2_3 hE_0_2_4 hE_0_83_1 hE_0_83_2 hE_0_83_3 hE_0_83_4 hK_0_83 hE_0_84_1 hE_0_84_2 hE_0_84_3 hE_0_84_4 hK_0_84 hE_0_85_1 hE_0_85_2 hE_0_85_3 hE_0_85_4 hK_0_85 hE_0_86_1 hE_0_86_2 hE_0_86_3 hE_0_86_4 hK_0_86 hE_0_87_1 hE_0_87_2 hE_0_87_3 hE_0_87_4 hK_0_87 hE_0_88_1 hE_0_88_2 hE_0_88_3 hE_0_88_4 hK_0_88 hE_0_89_1 hE_0_89_2 hE_0_89_3 hE_0_89_4 hK_0_89 hE_0_95_1 hE_0_95_2 hE_0_95_3 hE_0_95_4 hK_0_95 kz_0_80 kz_0_81)⟩
  have nf1 : fc_1 PRD (20, [0], [60, 3, 9, 434, 5, 80, 81, 2, 95, 83, 84, 85, 86, 87, 88, 89]) ws (vs) := ⟨nf_in hl rfl, sgq_507 (vc_Mo_apart_at_gl_1_1 (v_iv (n_v vs 1)) (v_iv (n_v vs 2)) (v_iv (n_v vs 3)) (v_iv (n_v vs 4)) (v_iv (n_v vs 6)) (v_iv (n_v vs 9)) (v_iv (n_v vs 10)) (w_ei ws (w_ar ws (n_v vs 0) 2)) (w_ei ws (w_ar ws (n_v vs 0) 95)) (w_fi ws (n_v vs 0) 5) (w_fi w1 (n_v vs 0) 81) (w_ei w1 (w_ar ws (n_v vs 0) 2)) (w_ei w1 (w_ar ws (n_v vs 0) 95)) (w_fi w1 (n_v vs 0) 5) (w_fi w2 (n_v vs 0) 81) (w_ei w2 (w_ar ws (n_v vs 0) 2)) (w_ei w2 (w_ar ws (n_v vs 0) 95)) (w_fi w2 (n_v vs 0) 5) (w_fi w3 (n_v vs 0) 81) (w_ei w3 (w_ar ws (n_v vs 0) 2)) (w_ei w3 (w_ar ws (n_v vs 0) 95)) (w_fi w3 (n_v vs 0) 5) (w_fi w4 (n_v vs 0) 81) (w_ei w4 (w_ar ws (n_v vs 0) 2)) (w_ei w4 (w_ar ws (n_v vs 0) 95)) (w_ei w4 (w_ar ws (n_v vs 0) 83)) (w_ei w4 (w_ar ws (n_v vs 0) 84)) (w_ei w4 (w_ar ws (n_v vs 0) 85)) (w_ei w4 (w_ar ws (n_v vs 0) 86)) (w_ei w4 (w_ar ws (n_v vs 0) 87)) (w_ei w4 (w_ar ws (n_v vs 0) 88)) (w_ei w4 (w_ar ws (n_v vs 0) 89)) (w_fi w4 (n_v vs 0) 5) (w_fi w4 (n_v vs 0) 80) (w_fi ws (n_v vs 0) 80) (w_fi w1 (n_v vs 0) 80) (w_fi ws (n_v vs 0) 81) (w_fi w2 (n_v vs 0) 80) (w_fi w3 (n_v vs 0) 80) (w_ei ws (w_ar ws (n_v vs 0) 83)) (w_ei w1 (w_ar ws (n_v vs 0) 83)) (w_ei w2 (w_ar ws (n_v vs 0) 83)) (w_ei w3 (w_ar ws (n_v vs 0) 83)) (w_ei ws (w_ar ws (n_v vs 0) 84)) (w_ei w1 (w_ar ws (n_v vs 0) 84)) (w_ei w2 (w_ar ws (n_v vs 0) 84)) (w_ei w3 (w_ar ws (n_v vs 0) 84)) (w_ei ws (w_ar ws (n_v vs 0) 85)) (w_ei w1 (w_ar ws (n_v vs 0) 85)) (w_ei w2 (w_ar ws (n_v vs 0) 85)) (w_ei w3 (w_ar ws (n_v vs 0) 85)) (w_ei ws (w_ar ws (n_v vs 0) 86)) (w_ei w1 (w_ar ws (n_v vs 0) 86)) (w_ei w2 (w_ar ws (n_v vs 0) 86)) (w_ei w3 (w_ar ws (n_v vs 0) 86)) (w_ei ws (w_ar ws (n_v vs 0) 87)) (w_ei w1 (w_ar ws (n_v vs 0) 87)) (w_ei w2 (w_ar ws (n_v vs 0) 87)) (w_ei w3 (w_ar ws (n_v vs 0) 87)) (w_ei ws (w_ar ws (n_v vs 0) 88)) (w_ei w1 (w_ar ws (n_v vs 0) 88)) (w_ei w2 (w_ar ws (n_v vs 0) 88)) (w_ei w3 (w_ar ws (n_v vs 0) 88)) (w_ei ws (w_ar ws (n_v vs 0) 89)) (w_ei w1 (w_ar ws (n_v vs 0) 89)) (w_ei w2 (w_ar ws (n_v vs 0) 89)) (w_ei w3 (w_ar ws (n_v vs 0) 89)) k1 k2 k3 k4 k6 k9 k10 d0 (shm_508 f0) (shm_509 f1) (shm_510 f2) (shm_12 f4) g5 (shm_499 f6) f7 f8 (shm_510 f9) (shm_499 f12) f13 f14 (shm_510 f15) (shm_499 f18) f19 f20 (shm_510 f21) (shm_499 f24) f25 f26 f27 (shm_510 f28) fe_0_5_1 fe_0_80_1 fe_0_81_1 fe_0_5_2 fe_0_80_2 fe_0_81_2 fe_0_5_3 fe_0_80_3 fe_0_81_3 fe_0_5_4 fe_0_80_4 fe_0_81_4 hE_0_2_1 hE_0_2_2 hE_0_2_3 hE_0_2_4 hE_0_83_1 hE_0_83_2 hE_0_83_3 hE_0_83_4 hK_0_83 hE_0_84_1 hE_0_84_2 hE_0_84_3 hE_0_84_4 hK_0_84 hE_0_85_1 hE_0_85_2 hE_0_85_3 hE_0_85_4 hK_0_85 hE_0_86_1 hE_0_86_2 hE_0_86_3 hE_0_86_4 hK_0_86 hE_0_87_1 hE_0_87_2 hE_0_87_3 hE_0_87_4 hK_0_87 hE_0_88_1 hE_0_88_2 hE_0_88_3 hE_0_88_4 hK_0_88 hE_0_89_1 hE_0_89_2 hE_0_89_3 hE_0_89_4 hK_0_89 hE_0_95_1 hE_0_95_2 hE_0_95_3 hE_0_95_4 hK_0_95 kz_0_80 kz_0_81)⟩
  refine ⟨(fun _ h => (by cases h)), [], trivial, ?_, (fun _ h => (by cases h))⟩
  rw [List.append_nil]
  exact List.forall_mem_cons.mpr ⟨⟨show (20 : Nat) < 100 from by decide, nf0⟩, List.forall_mem_cons.mpr ⟨⟨show (20 : Nat) < 100 from by decide, nf1⟩, (fun _ h => (by cases h))⟩⟩
def n_Mo_apart_at_gl_an : List an_T := []
def t_Mo_apart_at_gl_ct : ct_L := []
set_option maxRecDepth 100000 in
theorem c_Mo_apart_at_gl {l : Launch} {D : va_G} {kA : Nat → ClassId} : ct_ok PRD l D kA GG y_Mo_apart_at_gl z_Mo_apart_at_gl e_Mo_apart_at_gl := chk_all_ok (FT := [(189, 13, 87), (192, 13, 88), (195, 13, 89), (780, 13, 81)]) (PT := [(780, 13, 81, .int)]) (CT := t_Mo_apart_at_gl_ct) (KT := []) (NT := []) (AN := n_Mo_apart_at_gl_an) (OT := [o_Mo_apart_at_gl_0, o_Mo_apart_at_gl_1]) 0 200 (List.forall_mem_cons.mpr ⟨oo_Mo_apart_at_gl_0, List.forall_mem_cons.mpr ⟨oo_Mo_apart_at_gl_1, List.forall_mem_nil _⟩⟩) (by decide +kernel) ⟨List.forall_mem_cons.mpr ⟨gf_Mo_189, List.forall_mem_cons.mpr ⟨gf_Mo_192, List.forall_mem_cons.mpr ⟨gf_Mo_195, List.forall_mem_cons.mpr ⟨gf_Mo_780, List.forall_mem_nil _⟩⟩⟩⟩, List.forall_mem_cons.mpr ⟨pf_Mo_780, List.forall_mem_nil _⟩, List.forall_mem_nil _, List.forall_mem_nil _, List.forall_mem_nil _, GG_pl⟩ (by decide +kernel)
set_option maxHeartbeats 4000000 in
theorem vc_Mo_at1_0_0 (x1 : Int) (x2 : Int) (x4 : Int) (x5 : Int) (alive_0 : Int → Int) (pt_0 : Int → Int) (ph_0 : Int → Int) (k1 : 0 ≤ x1 ∧ x1 ≤ 79) (k2 : (-1) ≤ x2 ∧ x2 ≤ 25) (k4 : 0 ≤ x4 ∧ x4 ≤ 0) (k5 : 0 ≤ x5 ∧ x5 ≤ 0) (f0 : x4 = 0) (h1 : x4 = alive_0 (x1)) (hK_0_33 : ∀ j : Int, 0 ≤ j → j < 80 → 0 ≤ pt_0 j ∧ pt_0 j ≤ 24) (hK_0_34 : ∀ j : Int, 0 ≤ j → j < 80 → 0 ≤ ph_0 j ∧ ph_0 j ≤ 24) (hK_0_35 : ∀ j : Int, 0 ≤ j → j < 80 → 0 ≤ alive_0 j ∧ alive_0 j ≤ 1) : ATP (pt_0) (ph_0) (alive_0) (x1) (x2) (x5) := by
  unfold ATP
  constructor
  · intro h
    first
      | (exfalso; omega)
      | exact ⟨by omega, Or.inl (by omega)⟩
      | exact ⟨by omega, Or.inr (by omega)⟩
  · intro h
    first
      | omega
      | (exfalso; have := h.1; omega)
      | (exfalso; have := h.2; omega)
def o_Mo_at1_0 : or_T := (34, 6, [(0, (2, 0, 0, [165])), (1, (0, 0, 79, [])), (2, (0, -1, 25, [])), (4, (0, 0, 0, [])), (5, (0, 0, 0, []))], [(8, [4], [0]), (10, [4, 3, 1], []), (9, [3, 0], [35])], [], [], [(20, [0, 1, 2, 5], [60, 0, 3, 83, 33, 34, 35])], [], [])
theorem oo_Mo_at1_0 {kA : Nat → ClassId} : or_ok PRD kA GG o_Mo_at1_0 := by
  refine or_mk fun A ta ws vs hD hth hl => ?_
  intro t0 r0 t1 k1 t2 k2 t4 k4 t5 k5 f0 f1 f2
  replace f1 := shm_107 f1
  replace f2 := shm_511 f2
  have cr_0_33 := fdq_117 hD hth r0
  have cr_0_34 := fdq_118 hD hth r0
  have cr_0_35 := fdq_132 hD hth r0
  have ad_3 : v_ad (n_v vs 3) = w_ar ws (n_v vs 0) 35 := congrArg v_ad f2
  simp only [ad_3] at f1
  have h1 : v_iv (n_v vs 4) = w_ei ws (w_ar ws (n_v vs 0) 35) (v_iv (n_v vs 1)) := f1
  have hK_0_33 := elq_60 hD hth cr_0_33
  have hK_0_34 := elq_61 hD hth cr_0_34
  have hK_0_35 := elq_72 hD hth cr_0_35
  have nf0 : fc_1 PRD (20, [0, 1, 2, 5], [60, 0, 3, 83, 33, 34, 35]) ws (vs) := ⟨nf_in hl rfl, sgq_512 (vc_Mo_at1_0_0 (v_iv (n_v vs 1)) (v_iv (n_v vs 2)) (v_iv (n_v vs 4)) (v_iv (n_v vs 5)) (w_ei ws (w_ar ws (n_v vs 0) 35)) (w_ei ws (w_ar ws (n_v vs 0) 33)) (w_ei ws (w_ar ws (n_v vs 0) 34)) k1 k2 k4 k5 (shm_192 f0) h1 hK_0_33 hK_0_34 hK_0_35)⟩
  refine ⟨(fun _ h => (by cases h)), [], trivial, ?_, (fun _ h => (by cases h))⟩
  rw [List.append_nil]
  exact List.forall_mem_cons.mpr ⟨⟨show (20 : Nat) < 100 from by decide, nf0⟩, (fun _ h => (by cases h))⟩
set_option maxHeartbeats 4000000 in
theorem vc_Mo_at1_1_0 (x1 : Int) (x2 : Int) (x4 : Int) (x6 : Int) (x7 : Int) (pt_0 : Int → Int) (alive_0 : Int → Int) (ph_0 : Int → Int) (k1 : 0 ≤ x1 ∧ x1 ≤ 79) (k2 : 0 ≤ x2 ∧ x2 ≤ 24) (k4 : 1 ≤ x4 ∧ x4 ≤ 1) (k6 : 0 ≤ x6 ∧ x6 ≤ 24) (k7 : 1 ≤ x7 ∧ x7 ≤ 1) (d0 : x2 + 0 ≤ x6 ∧ x6 ≤ x2 + 0) (f0 : x6 = x2) (h1 : x6 = pt_0 (x1)) (f3 : x4 ≠ 0) (h4 : x4 = alive_0 (x1)) (hK_0_33 : ∀ j : Int, 0 ≤ j → j < 80 → 0 ≤ pt_0 j ∧ pt_0 j ≤ 24) (hK_0_34 : ∀ j : Int, 0 ≤ j → j < 80 → 0 ≤ ph_0 j ∧ ph_0 j ≤ 24) (hK_0_35 : ∀ j : Int, 0 ≤ j → j < 80 → 0 ≤ alive_0 j ∧ alive_0 j ≤ 1) : ATP (pt_0) (ph_0) (alive_0) (x1) (x2) (x7) := by
  unfold ATP
  constructor
  · intro h
    first
      | (exfalso; omega)
      | exact ⟨by omega, Or.inl (by omega)⟩
      | exact ⟨by omega, Or.inr (by omega)⟩
  · intro h
    first
      | omega
      | (exfalso; have := h.1; omega)
      | (exfalso; have := h.2; omega)
def o_Mo_at1_1 : or_T := (34, 8, [(0, (2, 0, 0, [165])), (1, (0, 0, 79, [])), (2, (0, 0, 24, [])), (4, (0, 1, 1, [])), (6, (0, 0, 24, [])), (7, (0, 1, 1, []))], [(7, [6, 2], [0]), (10, [6, 5, 1], []), (9, [5, 0], [33]), (8, [4], [1]), (10, [4, 3, 1], []), (9, [3, 0], [35])], [], [], [(20, [0, 1, 2, 7], [60, 0, 3, 83, 33, 34, 35])], [], [(6, 2, 0, 0)])
theorem oo_Mo_at1_1 {kA : Nat → ClassId} : or_ok PRD kA GG o_Mo_at1_1 := by
  refine or_mk fun A ta ws vs hD hth hl => ?_
  intro t0 r0 t1 k1 t2 k2 t4 k4 t6 k6 t7 k7 d0 f0 f1 f2 f3 f4 f5
  replace f1 := shm_107 f1
  replace f2 := shm_494 f2
  replace f4 := shm_107 f4
  replace f5 := shm_511 f5
  have cr_0_33 := fdq_117 hD hth r0
  have cr_0_34 := fdq_118 hD hth r0
  have cr_0_35 := fdq_132 hD hth r0
  have ad_5 : v_ad (n_v vs 5) = w_ar ws (n_v vs 0) 33 := congrArg v_ad f2
  have ad_3 : v_ad (n_v vs 3) = w_ar ws (n_v vs 0) 35 := congrArg v_ad f5
  simp only [ad_5] at f1
  have h1 : v_iv (n_v vs 6) = w_ei ws (w_ar ws (n_v vs 0) 33) (v_iv (n_v vs 1)) := f1
  simp only [ad_3] at f4
  have h4 : v_iv (n_v vs 4) = w_ei ws (w_ar ws (n_v vs 0) 35) (v_iv (n_v vs 1)) := f4
  have hK_0_33 := elq_60 hD hth cr_0_33
  have hK_0_34 := elq_61 hD hth cr_0_34
  have hK_0_35 := elq_72 hD hth cr_0_35
  have nf0 : fc_1 PRD (20, [0, 1, 2, 7], [60, 0, 3, 83, 33, 34, 35]) ws (vs) := ⟨nf_in hl rfl, sgq_512 (vc_Mo_at1_1_0 (v_iv (n_v vs 1)) (v_iv (n_v vs 2)) (v_iv (n_v vs 4)) (v_iv (n_v vs 6)) (v_iv (n_v vs 7)) (w_ei ws (w_ar ws (n_v vs 0) 33)) (w_ei ws (w_ar ws (n_v vs 0) 35)) (w_ei ws (w_ar ws (n_v vs 0) 34)) k1 k2 k4 k6 k7 d0 (shm_37 f0) h1 (shm_142 f3) h4 hK_0_33 hK_0_34 hK_0_35)⟩
  refine ⟨(fun _ h => (by cases h)), [], trivial, ?_, (fun _ h => (by cases h))⟩
  rw [List.append_nil]
  exact List.forall_mem_cons.mpr ⟨⟨show (20 : Nat) < 100 from by decide, nf0⟩, (fun _ h => (by cases h))⟩
set_option maxHeartbeats 4000000 in
theorem vc_Mo_at1_2_0 (x1 : Int) (x2 : Int) (x4 : Int) (x6 : Int) (x8 : Int) (x9 : Int) (ph_0 : Int → Int) (pt_0 : Int → Int) (alive_0 : Int → Int) (k1 : 0 ≤ x1 ∧ x1 ≤ 79) (k2 : (-1) ≤ x2 ∧ x2 ≤ 25) (k4 : 1 ≤ x4 ∧ x4 ≤ 1) (k6 : 0 ≤ x6 ∧ x6 ≤ 24) (k8 : 0 ≤ x8 ∧ x8 ≤ 24) (k9 : 0 ≤ x9 ∧ x9 ≤ 0) (f0 : x8 ≠ x2) (h1 : x8 = ph_0 (x1)) (f3 : x6 ≠ x2) (h4 : x6 = pt_0 (x1)) (f6 : x4 ≠ 0) (h7 : x4 = alive_0 (x1)) (hK_0_33 : ∀ j : Int, 0 ≤ j → j < 80 → 0 ≤ pt_0 j ∧ pt_0 j ≤ 24) (hK_0_34 : ∀ j : Int, 0 ≤ j → j < 80 → 0 ≤ ph_0 j ∧ ph_0 j ≤ 24) (hK_0_35 : ∀ j : Int, 0 ≤ j → j < 80 → 0 ≤ alive_0 j ∧ alive_0 j ≤ 1) : ATP (pt_0) (ph_0) (alive_0) (x1) (x2) (x9) := by
  unfold ATP
  constructor
  · intro h
    first
      | (exfalso; omega)
      | exact ⟨by omega, Or.inl (by omega)⟩
      | exact ⟨by omega, Or.inr (by omega)⟩
  · intro h
    first
      | omega
      | (exfalso; have := h.1; omega)
      | (exfalso; have := h.2; omega)
def o_Mo_at1_2 : or_T := (34, 10, [(0, (2, 0, 0, [165])), (1, (0, 0, 79, [])), (2, (0, -1, 25, [])), (3, (2, 0, 0, [182])), (4, (0, 1, 1, [])), (5, (2, 0, 0, [180])), (6, (0, 0, 24, [])), (7, (2, 0, 0, [181])), (8, (0, 0, 24, [])), (9, (0, 0, 0, []))], [(7, [8, 2], [1]), (10, [8, 7, 1], []), (9, [7, 0], [34]), (7, [6, 2], [1]), (10, [6, 5, 1], []), (9, [5, 0], [33]), (8, [4], [1]), (10, [4, 3, 1], []), (9, [3, 0], [35])], [], [], [(20, [0, 1, 2, 9], [60, 0, 3, 83, 33, 34, 35])], [], [])
theorem oo_Mo_at1_2 {kA : Nat → ClassId} : or_ok PRD kA GG o_Mo_at1_2 := by
  refine or_mk fun A ta ws vs hD hth hl => ?_
  intro t0 r0 t1 k1 t2 k2 t3 r3 t4 k4 t5 r5 t6 k6 t7 r7 t8 k8 t9 k9 f0 f1 f2 f3 f4 f5 f6 f7 f8
  replace f1 := shm_107 f1
  replace f2 := shm_496 f2
  replace f4 := shm_107 f4
  replace f5 := shm_494 f5
  replace f7 := shm_107 f7
  replace f8 := shm_511 f8
  have cr_0_33 := fdq_117 hD hth r0
  have cr_0_34 := fdq_118 hD hth r0
  have cr_0_35 := fdq_132 hD hth r0
  have ad_7 : v_ad (n_v vs 7) = w_ar ws (n_v vs 0) 34 := congrArg v_ad f2
  have ad_5 : v_ad (n_v vs 5) = w_ar ws (n_v vs 0) 33 := congrArg v_ad f5
  have ad_3 : v_ad (n_v vs 3) = w_ar ws (n_v vs 0) 35 := congrArg v_ad f8
  simp only [ad_7] at f1
  have h1 : v_iv (n_v vs 8) = w_ei ws (w_ar ws (n_v vs 0) 34) (v_iv (n_v vs 1)) := f1
  simp only [ad_5] at f4
  have h4 : v_iv (n_v vs 6) = w_ei ws (w_ar ws (n_v vs 0) 33) (v_iv (n_v vs 1)) := f4
  simp only [ad_3] at f7
  have h7 : v_iv (n_v vs 4) = w_ei ws (w_ar ws (n_v vs 0) 35) (v_iv (n_v vs 1)) := f7
  have hK_0_33 := elq_60 hD hth cr_0_33
  have hK_0_34 := elq_61 hD hth cr_0_34
  have hK_0_35 := elq_72 hD hth cr_0_35
  have nf0 : fc_1 PRD (20, [0, 1, 2, 9], [60, 0, 3, 83, 33, 34, 35]) ws (vs) := ⟨nf_in hl rfl, sgq_512 (vc_Mo_at1_2_0 (v_iv (n_v vs 1)) (v_iv (n_v vs 2)) (v_iv (n_v vs 4)) (v_iv (n_v vs 6)) (v_iv (n_v vs 8)) (v_iv (n_v vs 9)) (w_ei ws (w_ar ws (n_v vs 0) 34)) (w_ei ws (w_ar ws (n_v vs 0) 33)) (w_ei ws (w_ar ws (n_v vs 0) 35)) k1 k2 k4 k6 k8 k9 (shm_40 f0) h1 (shm_40 f3) h4 (shm_142 f6) h7 hK_0_33 hK_0_34 hK_0_35)⟩
  refine ⟨(fun _ h => (by cases h)), [], trivial, ?_, (fun _ h => (by cases h))⟩
  rw [List.append_nil]
  exact List.forall_mem_cons.mpr ⟨⟨show (20 : Nat) < 100 from by decide, nf0⟩, (fun _ h => (by cases h))⟩
set_option maxHeartbeats 4000000 in
theorem vc_Mo_at1_3_0 (x1 : Int) (x2 : Int) (x4 : Int) (x6 : Int) (x8 : Int) (x9 : Int) (ph_0 : Int → Int) (pt_0 : Int → Int) (alive_0 : Int → Int) (k1 : 0 ≤ x1 ∧ x1 ≤ 79) (k2 : 0 ≤ x2 ∧ x2 ≤ 24) (k4 : 1 ≤ x4 ∧ x4 ≤ 1) (k6 : 0 ≤ x6 ∧ x6 ≤ 24) (k8 : 0 ≤ x8 ∧ x8 ≤ 24) (k9 : 1 ≤ x9 ∧ x9 ≤ 1) (d0 : x2 + 0 ≤ x8 ∧ x8 ≤ x2 + 0) (f0 : x8 = x2) (h1 : x8 = ph_0 (x1)) (f3 : x6 ≠ x2) (h4 : x6 = pt_0 (x1)) (f6 : x4 ≠ 0) (h7 : x4 = alive_0 (x1)) (hK_0_33 : ∀ j : Int, 0 ≤ j → j < 80 → 0 ≤ pt_0 j ∧ pt_0 j ≤ 24) (hK_0_34 : ∀ j : Int, 0 ≤ j → j < 80 → 0 ≤ ph_0 j ∧ ph_0 j ≤ 24) (hK_0_35 : ∀ j : Int, 0 ≤ j → j < 80 → 0 ≤ alive_0 j ∧ alive_0 j ≤ 1) : ATP (pt_0) (ph_0) (alive_0) (x1) (x2) (x9) := by
  unfold ATP
  constructor
  · intro h
    first
      | (exfalso; omega)
      | exact ⟨by omega, Or.inl (by omega)⟩
      | exact ⟨by omega, Or.inr (by omega)⟩
  · intro h
    first
      | omega
      | (exfalso; have := h.1; omega)
      | (exfalso; have := h.2; omega)
def o_Mo_at1_3 : or_T := (34, 10, [(0, (2, 0, 0, [165])), (1, (0, 0, 79, [])), (2, (0, 0, 24, [])), (3, (2, 0, 0, [182])), (4, (0, 1, 1, [])), (5, (2, 0, 0, [180])), (6, (0, 0, 24, [])), (7, (2, 0, 0, [181])), (8, (0, 0, 24, [])), (9, (0, 1, 1, []))], [(7, [8, 2], [0]), (10, [8, 7, 1], []), (9, [7, 0], [34]), (7, [6, 2], [1]), (10, [6, 5, 1], []), (9, [5, 0], [33]), (8, [4], [1]), (10, [4, 3, 1], []), (9, [3, 0], [35])], [], [], [(20, [0, 1, 2, 9], [60, 0, 3, 83, 33, 34, 35])], [], [(8, 2, 0, 0)])
theorem oo_Mo_at1_3 {kA : Nat → ClassId} : or_ok PRD kA GG o_Mo_at1_3 := by
  refine or_mk fun A ta ws vs hD hth hl => ?_
  intro t0 r0 t1 k1 t2 k2 t3 r3 t4 k4 t5 r5 t6 k6 t7 r7 t8 k8 t9 k9 d0 f0 f1 f2 f3 f4 f5 f6 f7 f8
  replace f1 := shm_107 f1
  replace f2 := shm_496 f2
  replace f4 := shm_107 f4
  replace f5 := shm_494 f5
  replace f7 := shm_107 f7
  replace f8 := shm_511 f8
  have cr_0_33 := fdq_117 hD hth r0
  have cr_0_34 := fdq_118 hD hth r0
  have cr_0_35 := fdq_132 hD hth r0
  have ad_7 : v_ad (n_v vs 7) = w_ar ws (n_v vs 0) 34 := congrArg v_ad f2
  have ad_5 : v_ad (n_v vs 5) = w_ar ws (n_v vs 0) 33 := congrArg v_ad f5
  have ad_3 : v_ad (n_v vs 3) = w_ar ws (n_v vs 0) 35 := congrArg v_ad f8
  simp only [ad_7] at f1
  have h1 : v_iv (n_v vs 8) = w_ei ws (w_ar ws (n_v vs 0) 34) (v_iv (n_v vs 1)) := f1
  simp only [ad_5] at f4
  have h4 : v_iv (n_v vs 6) = w_ei ws (w_ar ws (n_v vs 0) 33) (v_iv (n_v vs 1)) := f4
  simp only [ad_3] at f7
  have h7 : v_iv (n_v vs 4) = w_ei ws (w_ar ws (n_v vs 0) 35) (v_iv (n_v vs 1)) := f7
  have hK_0_33 := elq_60 hD hth cr_0_33
  have hK_0_34 := elq_61 hD hth cr_0_34
  have hK_0_35 := elq_72 hD hth cr_0_35
  have nf0 : fc_1 PRD (20, [0, 1, 2, 9], [60, 0, 3, 83, 33, 34, 35]) ws (vs) := ⟨nf_in hl rfl, sgq_512 (vc_Mo_at1_3_0 (v_iv (n_v vs 1)) (v_iv (n_v vs 2)) (v_iv (n_v vs 4)) (v_iv (n_v vs 6)) (v_iv (n_v vs 8)) (v_iv (n_v vs 9)) (w_ei ws (w_ar ws (n_v vs 0) 34)) (w_ei ws (w_ar ws (n_v vs 0) 33)) (w_ei ws (w_ar ws (n_v vs 0) 35)) k1 k2 k4 k6 k8 k9 d0 (shm_37 f0) h1 (shm_40 f3) h4 (shm_142 f6) h7 hK_0_33 hK_0_34 hK_0_35)⟩
  refine ⟨(fun _ h => (by cases h)), [], trivial, ?_, (fun _ h => (by cases h))⟩
  rw [List.append_nil]
  exact List.forall_mem_cons.mpr ⟨⟨show (20 : Nat) < 100 from by decide, nf0⟩, (fun _ h => (by cases h))⟩
def n_Mo_at1_an : List an_T := []
def t_Mo_at1_ct : ct_L := []
set_option maxRecDepth 100000 in
theorem c_Mo_at1 {l : Launch} {D : va_G} {kA : Nat → ClassId} : ct_ok PRD l D kA GG y_Mo_at1 z_Mo_at1 e_Mo_at1 := chk_all_ok (FT := [(57, 13, 33), (60, 13, 34), (63, 13, 35)]) (PT := []) (CT := t_Mo_at1_ct) (KT := []) (NT := []) (AN := n_Mo_at1_an) (OT := [o_Mo_at1_0, o_Mo_at1_1, o_Mo_at1_2, o_Mo_at1_3]) 0 200 (List.forall_mem_cons.mpr ⟨oo_Mo_at1_0, List.forall_mem_cons.mpr ⟨oo_Mo_at1_1, List.forall_mem_cons.mpr ⟨oo_Mo_at1_2, List.forall_mem_cons.mpr ⟨oo_Mo_at1_3, List.forall_mem_nil _⟩⟩⟩⟩) (by decide +kernel) ⟨List.forall_mem_cons.mpr ⟨gf_Mo_57, List.forall_mem_cons.mpr ⟨gf_Mo_60, List.forall_mem_cons.mpr ⟨gf_Mo_63, List.forall_mem_nil _⟩⟩⟩, List.forall_mem_nil _, List.forall_mem_nil _, List.forall_mem_nil _, List.forall_mem_nil _, GG_pl⟩ (by decide +kernel)
set_option maxHeartbeats 4000000 in
theorem vc_Mo_behind_0_0 (x1 : Int) (x2 : Int) (x3 : Int) (faceMany_0 : Int → Int) (faces_0 : Int) (face_0 : Int → Int) (k1 : 0 ≤ x1 ∧ x1 ≤ 24) (k2 : 0 ≤ x2 ∧ x2 ≤ 24) (k3 : 0 ≤ x3 ∧ x3 ≤ 0) (f0 : FMB (faces_0) (faceMany_0)) (f1 : BHE (faces_0) (faceMany_0) (face_0) (x1) (x2)) (hK_0_40 : ∀ j : Int, 0 ≤ j → j < 120 → 0 ≤ faceMany_0 j ∧ faceMany_0 j ≤ 60) (hK_0_41 : ∀ j : Int, 0 ≤ j → j < 7200 → 0 ≤ face_0 j ∧ face_0 j ≤ 24) (kz_0_39 : 0 ≤ faces_0 ∧ faces_0 ≤ 120) : BH1 (faceMany_0) (face_0) (x1) (x2) (x3) := by
  first
    | (intro f k a b; exfalso; omega)
    | (have h := ‹BH2 _ _ _ _ _ _›
       intro f k a b c d
       by_cases q : f = x6
       · subst q; exact h.2 k c (by omega)
       · exact h.1 f k a (by omega) c d)
def o_Mo_behind_0 : or_T := (2, 4, [(0, (2, 0, 0, [165])), (1, (0, 0, 24, [])), (2, (0, 0, 24, [])), (3, (0, 0, 0, []))], [(20, [0], [60, 1, 1, 170, 39, 40]), (20, [0, 1, 2], [60, 1, 2, 172, 39, 40, 41])], [], [], [(20, [0, 1, 2, 3], [60, 0, 2, 173, 40, 41]), (24, [0, 0], []), (24, [1, 1], []), (24, [2, 2], [])], [], [])
theorem oo_Mo_behind_0 {kA : Nat → ClassId} : or_ok PRD kA GG o_Mo_behind_0 := by
  refine or_mk fun A ta ws vs hD hth hl => ?_
  intro t0 r0 t1 k1 t2 k2 t3 k3 f0 f1
  have cr_0_40 := fdq_133 hD hth r0
  have cr_0_41 := fdq_134 hD hth r0
  have hK_0_40 := elq_73 hD hth cr_0_40
  have hK_0_41 := elq_74 hD hth cr_0_41
  have kz_0_39 := fdq_135 hD hth r0
  have nf0 : fc_1 PRD (20, [0, 1, 2, 3], [60, 0, 2, 173, 40, 41]) ws (vs) := ⟨nf_in hl rfl, sgq_515 (vc_Mo_behind_0_0 (v_iv (n_v vs 1)) (v_iv (n_v vs 2)) (v_iv (n_v vs 3)) (w_ei ws (w_ar ws (n_v vs 0) 40)) (w_fi ws (n_v vs 0) 39) (w_ei ws (w_ar ws (n_v vs 0) 41)) k1 k2 k3 (shm_513 f0) (shm_514 f1) hK_0_40 hK_0_41 kz_0_39)⟩
  have nf1 : fc_1 PRD (24, [0, 0], []) ws (vs) := by
    refine ⟨nf_in hl rfl, sgq_1 ?_⟩
    · show n_v vs 0 = n_v vs 0
      first | rfl | simp only [true_and]
  have nf2 : fc_1 PRD (24, [1, 1], []) ws (vs) := by
    refine ⟨nf_in hl rfl, sgq_1 ?_⟩
    · show n_v vs 1 = n_v vs 1
      first | rfl | simp only [true_and]
  have nf3 : fc_1 PRD (24, [2, 2], []) ws (vs) := by
    refine ⟨nf_in hl rfl, sgq_1 ?_⟩
    · show n_v vs 2 = n_v vs 2
      first | rfl | simp only [true_and]
  refine ⟨(fun _ h => (by cases h)), [], trivial, ?_, (fun _ h => (by cases h))⟩
  rw [List.append_nil]
  exact List.forall_mem_cons.mpr ⟨⟨show (20 : Nat) < 100 from by decide, nf0⟩, List.forall_mem_cons.mpr ⟨⟨show (24 : Nat) < 100 from by decide, nf1⟩, List.forall_mem_cons.mpr ⟨⟨show (24 : Nat) < 100 from by decide, nf2⟩, List.forall_mem_cons.mpr ⟨⟨show (24 : Nat) < 100 from by decide, nf3⟩, (fun _ h => (by cases h))⟩⟩⟩⟩
set_option maxHeartbeats 4000000 in
theorem vc_Mo_behind_1_0 (x1 : Int) (x2 : Int) (x4 : Int) (x5 : Int) (x6 : Int) (x7 : Int) (x8 : Int) (faces_0 : Int) (faceMany_0 : Int → Int) (face_0 : Int → Int) (k1 : 0 ≤ x1 ∧ x1 ≤ 24) (k2 : 0 ≤ x2 ∧ x2 ≤ 24) (k4 : 0 ≤ x4 ∧ x4 ≤ 24) (k5 : 0 ≤ x5 ∧ x5 ≤ 24) (k6 : 0 ≤ x6 ∧ x6 ≤ 120) (k7 : 0 ≤ x7 ∧ x7 ≤ 120) (k8 : (-1) ≤ x8 ∧ x8 ≤ (-1)) (d0 : x7 + 0 ≤ x6 ∧ x6 ≤ x7 + 4294967296) (d1 : x4 + (-4294967296) ≤ x1 ∧ x1 ≤ x4 + 0) (d2 : x5 + (-4294967296) ≤ x2 ∧ x2 ≤ x5 + 0) (d3 : x1 + (-4294967296) ≤ x4 ∧ x4 ≤ x1 + 0) (d4 : x2 + (-4294967296) ≤ x5 ∧ x5 ≤ x2 + 0) (f0 : x7 ≤ x6) (g1 : x7 = faces_0) (f2 : FMB (faces_0) (faceMany_0)) (f3 : BHE (faces_0) (faceMany_0) (face_0) (x1) (x2)) (f4 : BH1 (faceMany_0) (face_0) (x1) (x2) (x6)) (hK_0_40 : ∀ j : Int, 0 ≤ j → j < 120 → 0 ≤ faceMany_0 j ∧ faceMany_0 j ≤ 60) (hK_0_41 : ∀ j : Int, 0 ≤ j → j < 7200 → 0 ≤ face_0 j ∧ face_0 j ≤ 24) (kz_0_39 : 0 ≤ faces_0 ∧ faces_0 ≤ 120) : BHP (faces_0) (faceMany_0) (face_0) (x1) (x2) (x8) := by
  exfalso
  obtain ⟨f, k, a, b, c, d, e⟩ := ‹BHE _ _ _ _ _›
  exact ‹BH1 _ _ _ _ _› f k a (by omega) c d e
def o_Mo_behind_1 : or_T := (96, 9, [(0, (2, 0, 0, [165])), (1, (0, 0, 24, [])), (2, (0, 0, 24, [])), (4, (0, 0, 24, [])), (5, (0, 0, 24, [])), (6, (0, 0, 120, [])), (7, (0, 0, 120, [])), (8, (0, -1, -1, []))], [(7, [6, 7], [3]), (9, [7, 3], [39]), (20, [3], [60, 1, 1, 170, 39, 40]), (20, [3, 4, 5], [60, 1, 2, 172, 39, 40, 41]), (20, [3, 4, 5, 6], [60, 0, 2, 173, 40, 41]), (24, [0, 3], []), (24, [1, 4], []), (24, [2, 5], [])], [], [], [(20, [0, 1, 2, 8], [60, 1, 2, 171, 39, 40, 41])], [], [(6, 7, 0, 4294967296), (1, 4, -4294967296, 0), (2, 5, -4294967296, 0), (4, 1, -4294967296, 0), (5, 2, -4294967296, 0)])
theorem oo_Mo_behind_1 {kA : Nat → ClassId} : or_ok PRD kA GG o_Mo_behind_1 := by
  refine or_mk fun A ta ws vs hD hth hl => ?_
  intro t0 r0 t1 k1 t2 k2 t4 k4 t5 k5 t6 k6 t7 k7 t8 k8 d0 d1 d2 d3 d4 f0 f1 f2 f3 f4 f5 f6 f7
  replace f1 := shm_516 f1
  replace f2 := shm_513 f2
  replace f3 := shm_514 f3
  replace f4 := shm_515 f4
  replace f5 := shm_5 f5
  replace f6 := shm_5 f6
  replace f7 := shm_5 f7
  have q3 : n_v vs 3 = n_v vs 0 := f5.symm
  have q4 : n_v vs 4 = n_v vs 1 := f6.symm
  have q5 : n_v vs 5 = n_v vs 2 := f7.symm
  simp only [q3, q4, q5] at f1 f2 f3 f4
  have cr_0_40 := fdq_133 hD hth r0
  have cr_0_41 := fdq_134 hD hth r0
  have g1 : v_iv (n_v vs 7) = w_fi ws (n_v vs 0) 39 := congrArg v_iv f1
  have hK_0_40 := elq_73 hD hth cr_0_40
  have hK_0_41 := elq_74 hD hth cr_0_41
  have kz_0_39 := fdq_135 hD hth r0
  have nf0 : fc_1 PRD (20, [0, 1, 2, 8], [60, 1, 2, 171, 39, 40, 41]) ws (vs) := ⟨nf_in hl rfl, sgq_517 (vc_Mo_behind_1_0 (v_iv (n_v vs 1)) (v_iv (n_v vs 2)) (v_iv (n_v vs 4)) (v_iv (n_v vs 5)) (v_iv (n_v vs 6)) (v_iv (n_v vs 7)) (v_iv (n_v vs 8)) (w_fi ws (n_v vs 0) 39) (w_ei ws (w_ar ws (n_v vs 0) 40)) (w_ei ws (w_ar ws (n_v vs 0) 41)) k1 k2 k4 k5 k6 k7 k8 d0 d1 d2 d3 d4 (shm_2 f0) g1 f2 f3 f4 hK_0_40 hK_0_41 kz_0_39)⟩
  refine ⟨(fun _ h => (by cases h)), [], trivial, ?_, (fun _ h => (by cases h))⟩
  rw [List.append_nil]
  exact List.forall_mem_cons.mpr ⟨⟨show (20 : Nat) < 100 from by decide, nf0⟩, (fun _ h => (by cases h))⟩
set_option maxHeartbeats 4000000 in
theorem vc_Mo_behind_2_r0 (x1 : Int) (x2 : Int) (x4 : Int) (x5 : Int) (x6 : Int) (x7 : Int) (x9 : Int) (faceMany_0 : Int → Int) (faces_0 : Int) (face_0 : Int → Int) (k1 : 0 ≤ x1 ∧ x1 ≤ 24) (k2 : 0 ≤ x2 ∧ x2 ≤ 24) (k4 : 0 ≤ x4 ∧ x4 ≤ 24) (k5 : 0 ≤ x5 ∧ x5 ≤ 24) (k6 : 0 ≤ x6 ∧ x6 ≤ 119) (k7 : 1 ≤ x7 ∧ x7 ≤ 120) (k9 : 0 ≤ x9 ∧ x9 ≤ 60) (d0 : x7 + (-4294967296) ≤ x6 ∧ x6 ≤ x7 + (-1)) (d1 : x4 + (-4294967296) ≤ x1 ∧ x1 ≤ x4 + 0) (d2 : x5 + (-4294967296) ≤ x2 ∧ x2 ≤ x5 + 0) (d3 : x1 + (-4294967296) ≤ x4 ∧ x4 ≤ x1 + 0) (d4 : x2 + (-4294967296) ≤ x5 ∧ x5 ≤ x2 + 0) (h0 : x9 = faceMany_0 (x6)) (f2 : x6 < x7) (g3 : x7 = faces_0) (f4 : FMB (faces_0) (faceMany_0)) (f5 : BHE (faces_0) (faceMany_0) (face_0) (x1) (x2)) (f6 : BH1 (faceMany_0) (face_0) (x1) (x2) (x6)) (hK_0_40 : ∀ j : Int, 0 ≤ j → j < 120 → 0 ≤ faceMany_0 j ∧ faceMany_0 j ≤ 60) (hK_0_41 : ∀ j : Int, 0 ≤ j → j < 7200 → 0 ≤ face_0 j ∧ face_0 j ≤ 24) (kz_0_39 : 0 ≤ faces_0 ∧ faces_0 ≤ 120) : 3 ≤ x9 ∧ x9 ≤ 25 := by
  have h := ‹FMB _ _› x6 (by omega) (by omega)
  omega
def o_Mo_behind_2 : or_T := (16, 10, [(0, (2, 0, 0, [165])), (1, (0, 0, 24, [])), (2, (0, 0, 24, [])), (3, (2, 0, 0, [165])), (4, (0, 0, 24, [])), (5, (0, 0, 24, [])), (6, (0, 0, 119, [])), (7, (0, 1, 120, [])), (8, (2, 0, 0, [186])), (9, (0, 0, 60, []))], [(10, [9, 8, 6], []), (9, [8, 3], [40]), (7, [6, 7], [2]), (9, [7, 3], [39]), (20, [3], [60, 1, 1, 170, 39, 40]), (20, [3, 4, 5], [60, 1, 2, 172, 39, 40, 41]), (20, [3, 4, 5, 6], [60, 0, 2, 173, 40, 41]), (24, [0, 3], []), (24, [1, 4], []), (24, [2, 5], [])], [(9, (0, 3, 25, []))], [], [], [], [(6, 7, -4294967296, -1), (1, 4, -4294967296, 0), (2, 5, -4294967296, 0), (4, 1, -4294967296, 0), (5, 2, -4294967296, 0)])
theorem oo_Mo_behind_2 {kA : Nat → ClassId} : or_ok PRD kA GG o_Mo_behind_2 := by
  refine or_mk fun A ta ws vs hD hth hl => ?_
  intro t0 r0 t1 k1 t2 k2 t3 r3 t4 k4 t5 k5 t6 k6 t7 k7 t8 r8 t9 k9 d0 d1 d2 d3 d4 f0 f1 f2 f3 f4 f5 f6 f7 f8 f9
  replace f0 := shm_107 f0
  replace f1 := shm_518 f1
  replace f3 := shm_516 f3
  replace f4 := shm_513 f4
  replace f5 := shm_514 f5
  replace f6 := shm_515 f6
  replace f7 := shm_5 f7
  replace f8 := shm_5 f8
  replace f9 := shm_5 f9
  have q3 : n_v vs 3 = n_v vs 0 := f7.symm
  have q4 : n_v vs 4 = n_v vs 1 := f8.symm
  have q5 : n_v vs 5 = n_v vs 2 := f9.symm
  simp only [q3, q4, q5] at f1 f3 f4 f5 f6
  have cr_0_40 := fdq_133 hD hth r0
  have cr_0_41 := fdq_134 hD hth r0
  have ad_8 : v_ad (n_v vs 8) = w_ar ws (n_v vs 0) 40 := congrArg v_ad f1
  simp only [ad_8] at f0
  have h0 : v_iv (n_v vs 9) = w_ei ws (w_ar ws (n_v vs 0) 40) (v_iv (n_v vs 6)) := f0
  have g3 : v_iv (n_v vs 7) = w_fi ws (n_v vs 0) 39 := congrArg v_iv f3
  have hK_0_40 := elq_73 hD hth cr_0_40
  have hK_0_41 := elq_74 hD hth cr_0_41
  have kz_0_39 := fdq_135 hD hth r0
  have hrf0 : 3 ≤ v_iv (n_v vs 9) ∧ v_iv (n_v vs 9) ≤ 25 := vc_Mo_behind_2_r0 (v_iv (n_v vs 1)) (v_iv (n_v vs 2)) (v_iv (n_v vs 4)) (v_iv (n_v vs 5)) (v_iv (n_v vs 6)) (v_iv (n_v vs 7)) (v_iv (n_v vs 9)) (w_ei ws (w_ar ws (n_v vs 0) 40)) (w_fi ws (n_v vs 0) 39) (w_ei ws (w_ar ws (n_v vs 0) 41)) k1 k2 k4 k5 k6 k7 k9 d0 d1 d2 d3 d4 h0 (shm_6 f2) g3 f4 f5 f6 hK_0_40 hK_0_41 kz_0_39
  have rf9 : tv_ok ta (0, 3, 25, []) (n_v vs 9) := tv_in t9 (by first | omega | grind) (by first | omega | grind)
  refine ⟨List.forall_mem_cons.mpr ⟨rf9, (fun _ h => (by cases h))⟩, [], trivial, ?_, (fun _ h => (by cases h))⟩
  rw [List.append_nil]
  exact (fun _ h => (by cases h))
set_option maxHeartbeats 4000000 in
theorem vc_Mo_behind_3_0 (x1 : Int) (x2 : Int) (x4 : Int) (x5 : Int) (x6 : Int) (x7 : Int) (x9 : Int) (x10 : Int) (faceMany_0 : Int → Int) (faces_0 : Int) (face_0 : Int → Int) (k1 : 0 ≤ x1 ∧ x1 ≤ 24) (k2 : 0 ≤ x2 ∧ x2 ≤ 24) (k4 : 0 ≤ x4 ∧ x4 ≤ 24) (k5 : 0 ≤ x5 ∧ x5 ≤ 24) (k6 : 0 ≤ x6 ∧ x6 ≤ 119) (k7 : 1 ≤ x7 ∧ x7 ≤ 120) (k9 : 3 ≤ x9 ∧ x9 ≤ 25) (k10 : 0 ≤ x10 ∧ x10 ≤ 0) (d0 : x7 + (-4294967296) ≤ x6 ∧ x6 ≤ x7 + (-1)) (d1 : x4 + (-4294967296) ≤ x1 ∧ x1 ≤ x4 + 0) (d2 : x5 + (-4294967296) ≤ x2 ∧ x2 ≤ x5 + 0) (d3 : x1 + (-4294967296) ≤ x4 ∧ x4 ≤ x1 + 0) (d4 : x2 + (-4294967296) ≤ x5 ∧ x5 ≤ x2 + 0) (h0 : x9 = faceMany_0 (x6)) (f2 : x6 < x7) (g3 : x7 = faces_0) (f4 : FMB (faces_0) (faceMany_0)) (f5 : BHE (faces_0) (faceMany_0) (face_0) (x1) (x2)) (f6 : BH1 (faceMany_0) (face_0) (x1) (x2) (x6)) (hK_0_40 : ∀ j : Int, 0 ≤ j → j < 120 → 0 ≤ faceMany_0 j ∧ faceMany_0 j ≤ 60) (hK_0_41 : ∀ j : Int, 0 ≤ j → j < 7200 → 0 ≤ face_0 j ∧ face_0 j ≤ 24) (kz_0_39 : 0 ≤ faces_0 ∧ faces_0 ≤ 120) : BH2 (faceMany_0) (face_0) (x1) (x2) (x6) (x10) := by
  first
    | exact ⟨‹BH1 _ _ _ _ _›, fun k a b => by exfalso; omega⟩
    | (have h := ‹BH2 _ _ _ _ _ _›
       refine ⟨h.1, fun k a b z => ?_⟩
       by_cases q : k = x8
       · subst q
         have z1 := z.1
         have z2 := z.2
         unfold rwf at z1 z2
         rw [show 60 * x6 + k = x12 by omega] at z1
         first
           | omega
           | (rw [← ‹x7 = faceMany_0 x6›, ← nr_m1 (by omega) (by omega), ← Int.tmod_eq_emod_of_nonneg (by omega), show k + 1 = x17 by omega, ← ‹x18 = Int.tmod x17 x7›, show 60 * x6 + x18 = x19 by omega] at z2
              omega)
       · exact h.2 k a (by omega) z)
set_option maxHeartbeats 4000000 in
theorem vc_Mo_behind_3_1 (x1 : Int) (x2 : Int) (x4 : Int) (x5 : Int) (x6 : Int) (x7 : Int) (x9 : Int) (x10 : Int) (faceMany_0 : Int → Int) (faces_0 : Int) (face_0 : Int → Int) (k1 : 0 ≤ x1 ∧ x1 ≤ 24) (k2 : 0 ≤ x2 ∧ x2 ≤ 24) (k4 : 0 ≤ x4 ∧ x4 ≤ 24) (k5 : 0 ≤ x5 ∧ x5 ≤ 24) (k6 : 0 ≤ x6 ∧ x6 ≤ 119) (k7 : 1 ≤ x7 ∧ x7 ≤ 120) (k9 : 3 ≤ x9 ∧ x9 ≤ 25) (k10 : 0 ≤ x10 ∧ x10 ≤ 0) (d0 : x7 + (-4294967296) ≤ x6 ∧ x6 ≤ x7 + (-1)) (d1 : x4 + (-4294967296) ≤ x1 ∧ x1 ≤ x4 + 0) (d2 : x5 + (-4294967296) ≤ x2 ∧ x2 ≤ x5 + 0) (d3 : x1 + (-4294967296) ≤ x4 ∧ x4 ≤ x1 + 0) (d4 : x2 + (-4294967296) ≤ x5 ∧ x5 ≤ x2 + 0) (h0 : x9 = faceMany_0 (x6)) (f2 : x6 < x7) (g3 : x7 = faces_0) (f4 : FMB (faces_0) (faceMany_0)) (f5 : BHE (faces_0) (faceMany_0) (face_0) (x1) (x2)) (f6 : BH1 (faceMany_0) (face_0) (x1) (x2) (x6)) (hK_0_40 : ∀ j : Int, 0 ≤ j → j < 120 → 0 ≤ faceMany_0 j ∧ faceMany_0 j ≤ 60) (hK_0_41 : ∀ j : Int, 0 ≤ j → j < 7200 → 0 ≤ face_0 j ∧ face_0 j ≤ 24) (kz_0_39 : 0 ≤ faces_0 ∧ faces_0 ≤ 120) : 1 * x6 + ((-1) * faces_0 + 0) ≤ (-1) := by
  first | omega
set_option maxHeartbeats 4000000 in
theorem vc_Mo_behind_3_2 (x1 : Int) (x2 : Int) (x4 : Int) (x5 : Int) (x6 : Int) (x7 : Int) (x9 : Int) (x10 : Int) (faceMany_0 : Int → Int) (faces_0 : Int) (face_0 : Int → Int) (k1 : 0 ≤ x1 ∧ x1 ≤ 24) (k2 : 0 ≤ x2 ∧ x2 ≤ 24) (k4 : 0 ≤ x4 ∧ x4 ≤ 24) (k5 : 0 ≤ x5 ∧ x5 ≤ 24) (k6 : 0 ≤ x6 ∧ x6 ≤ 119) (k7 : 1 ≤ x7 ∧ x7 ≤ 120) (k9 : 3 ≤ x9 ∧ x9 ≤ 25) (k10 : 0 ≤ x10 ∧ x10 ≤ 0) (d0 : x7 + (-4294967296) ≤ x6 ∧ x6 ≤ x7 + (-1)) (d1 : x4 + (-4294967296) ≤ x1 ∧ x1 ≤ x4 + 0) (d2 : x5 + (-4294967296) ≤ x2 ∧ x2 ≤ x5 + 0) (d3 : x1 + (-4294967296) ≤ x4 ∧ x4 ≤ x1 + 0) (d4 : x2 + (-4294967296) ≤ x5 ∧ x5 ≤ x2 + 0) (h0 : x9 = faceMany_0 (x6)) (f2 : x6 < x7) (g3 : x7 = faces_0) (f4 : FMB (faces_0) (faceMany_0)) (f5 : BHE (faces_0) (faceMany_0) (face_0) (x1) (x2)) (f6 : BH1 (faceMany_0) (face_0) (x1) (x2) (x6)) (hK_0_40 : ∀ j : Int, 0 ≤ j → j < 120 → 0 ≤ faceMany_0 j ∧ faceMany_0 j ≤ 60) (hK_0_41 : ∀ j : Int, 0 ≤ j → j < 7200 → 0 ≤ face_0 j ∧ face_0 j ≤ 24) (kz_0_39 : 0 ≤ faces_0 ∧ faces_0 ≤ 120) : x9 = faceMany_0 (x6) := by
  first | omega
def o_Mo_behind_3 : or_T := (21, 11, [(0, (2, 0, 0, [165])), (1, (0, 0, 24, [])), (2, (0, 0, 24, [])), (4, (0, 0, 24, [])), (5, (0, 0, 24, [])), (6, (0, 0, 119, [])), (7, (0, 1, 120, [])), (9, (0, 3, 25, [])), (10, (0, 0, 0, []))], [(10, [9, 8, 6], []), (9, [8, 3], [40]), (7, [6, 7], [2]), (9, [7, 3], [39]), (20, [3], [60, 1, 1, 170, 39, 40]), (20, [3, 4, 5], [60, 1, 2, 172, 39, 40, 41]), (20, [3, 4, 5, 6], [60, 0, 2, 173, 40, 41]), (24, [0, 3], []), (24, [1, 4], []), (24, [2, 5], [])], [], [], [(20, [3, 4, 5, 6, 10], [60, 0, 2, 174, 40, 41]), (20, [6, 3], [30, -1, 1, 0, 0, -1, 1, 39]), (20, [9, 3, 6], [50, 0, 1, 1040, 1, 2, 1, 0, 3, 1, 40, 1, 2])], [], [(6, 7, -4294967296, -1), (1, 4, -4294967296, 0), (2, 5, -4294967296, 0), (4, 1, -4294967296, 0), (5, 2, -4294967296, 0)])
theorem oo_Mo_behind_3 {kA : Nat → ClassId} : or_ok PRD kA GG o_Mo_behind_3 := by
  refine or_mk fun A ta ws vs hD hth hl => ?_
  intro t0 r0 t1 k1 t2 k2 t4 k4 t5 k5 t6 k6 t7 k7 t9 k9 t10 k10 d0 d1 d2 d3 d4 f0 f1 f2 f3 f4 f5 f6 f7 f8 f9
  replace f0 := shm_107 f0
  replace f1 := shm_518 f1
  replace f2 := shm_6 f2
  replace f3 := shm_516 f3
  replace f4 := shm_513 f4
  replace f5 := shm_514 f5
  replace f6 := shm_515 f6
  replace f7 := shm_5 f7
  replace f8 := shm_5 f8
  replace f9 := shm_5 f9
  have q3 : n_v vs 3 = n_v vs 0 := f7.symm
  have q4 : n_v vs 4 = n_v vs 1 := f8.symm
  have q5 : n_v vs 5 = n_v vs 2 := f9.symm
  simp only [q3, q4, q5] at f1 f3 f4 f5 f6
  have cr_0_40 := fdq_133 hD hth r0
  have cr_0_41 := fdq_134 hD hth r0
  have ad_8 : v_ad (n_v vs 8) = w_ar ws (n_v vs 0) 40 := congrArg v_ad f1
  simp only [ad_8] at f0
  have h0 : v_iv (n_v vs 9) = w_ei ws (w_ar ws (n_v vs 0) 40) (v_iv (n_v vs 6)) := f0
  have g3 : v_iv (n_v vs 7) = w_fi ws (n_v vs 0) 39 := congrArg v_iv f3
  have hK_0_40 := elq_73 hD hth cr_0_40
  have hK_0_41 := elq_74 hD hth cr_0_41
  have kz_0_39 := fdq_135 hD hth r0
  have nf0 : fc_1 PRD (20, [3, 4, 5, 6, 10], [60, 0, 2, 174, 40, 41]) ws (vs) := by
    refine ⟨nf_in hl rfl, sgq_519 ?_⟩
    · show BH2 (w_ei ws (w_ar ws (n_v vs 3) 40)) (w_ei ws (w_ar ws (n_v vs 3) 41)) (v_iv (n_v vs 4)) (v_iv (n_v vs 5)) (v_iv (n_v vs 6)) (v_iv (n_v vs 10))
      simp only [q3, q4, q5]
      exact vc_Mo_behind_3_0 (v_iv (n_v vs 1)) (v_iv (n_v vs 2)) (v_iv (n_v vs 4)) (v_iv (n_v vs 5)) (v_iv (n_v vs 6)) (v_iv (n_v vs 7)) (v_iv (n_v vs 9)) (v_iv (n_v vs 10)) (w_ei ws (w_ar ws (n_v vs 0) 40)) (w_fi ws (n_v vs 0) 39) (w_ei ws (w_ar ws (n_v vs 0) 41)) k1 k2 k4 k5 k6 k7 k9 k10 d0 d1 d2 d3 d4 h0 f2 g3 f4 f5 f6 hK_0_40 hK_0_41 kz_0_39
  have nf1 : fc_1 PRD (20, [6, 3], [30, -1, 1, 0, 0, -1, 1, 39]) ws (vs) := by
    refine ⟨nf_in hl rfl, sgq_520 ?_⟩
    · show 1 * v_iv (n_v vs 6) + ((-1) * w_fi ws (n_v vs 3) 39 + 0) ≤ (-1)
      rw [q3]
      exact vc_Mo_behind_3_1 (v_iv (n_v vs 1)) (v_iv (n_v vs 2)) (v_iv (n_v vs 4)) (v_iv (n_v vs 5)) (v_iv (n_v vs 6)) (v_iv (n_v vs 7)) (v_iv (n_v vs 9)) (v_iv (n_v vs 10)) (w_ei ws (w_ar ws (n_v vs 0) 40)) (w_fi ws (n_v vs 0) 39) (w_ei ws (w_ar ws (n_v vs 0) 41)) k1 k2 k4 k5 k6 k7 k9 k10 d0 d1 d2 d3 d4 h0 f2 g3 f4 f5 f6 hK_0_40 hK_0_41 kz_0_39
  have nf2 : fc_1 PRD (20, [9, 3, 6], [50, 0, 1, 1040, 1, 2, 1, 0, 3, 1, 40, 1, 2]) ws (vs) := by
    refine ⟨nf_in hl rfl, sgq_521 ?_⟩
    · show v_iv (n_v vs 9) = w_ei ws (w_ar ws (n_v vs 3) 40) (v_iv (n_v vs 6))
      rw [q3]
      exact vc_Mo_behind_3_2 (v_iv (n_v vs 1)) (v_iv (n_v vs 2)) (v_iv (n_v vs 4)) (v_iv (n_v vs 5)) (v_iv (n_v vs 6)) (v_iv (n_v vs 7)) (v_iv (n_v vs 9)) (v_iv (n_v vs 10)) (w_ei ws (w_ar ws (n_v vs 0) 40)) (w_fi ws (n_v vs 0) 39) (w_ei ws (w_ar ws (n_v vs 0) 41)) k1 k2 k4 k5 k6 k7 k9 k10 d0 d1 d2 d3 d4 h0 f2 g3 f4 f5 f6 hK_0_40 hK_0_41 kz_0_39
  refine ⟨(fun _ h => (by cases h)), [], trivial, ?_, (fun _ h => (by cases h))⟩
  rw [List.append_nil]
  exact List.forall_mem_cons.mpr ⟨⟨show (20 : Nat) < 100 from by decide, nf0⟩, List.forall_mem_cons.mpr ⟨⟨show (20 : Nat) < 100 from by decide, nf1⟩, List.forall_mem_cons.mpr ⟨⟨show (20 : Nat) < 100 from by decide, nf2⟩, (fun _ h => (by cases h))⟩⟩⟩
set_option maxHeartbeats 4000000 in
theorem vc_Mo_behind_4_0 (x1 : Int) (x2 : Int) (x4 : Int) (x5 : Int) (x6 : Int) (x7 : Int) (x8 : Int) (x9 : Int) (faceMany_0 : Int → Int) (faces_0 : Int) (face_0 : Int → Int) (k1 : 0 ≤ x1 ∧ x1 ≤ 24) (k2 : 0 ≤ x2 ∧ x2 ≤ 24) (k4 : 0 ≤ x4 ∧ x4 ≤ 24) (k5 : 0 ≤ x5 ∧ x5 ≤ 24) (k6 : 0 ≤ x6 ∧ x6 ≤ 119) (k7 : 3 ≤ x7 ∧ x7 ≤ 25) (k8 : 3 ≤ x8 ∧ x8 ≤ 25) (k9 : 1 ≤ x9 ∧ x9 ≤ 120) (d0 : x6 + 1 ≤ x9 ∧ x9 ≤ x6 + 1) (d1 : x7 + 0 ≤ x8 ∧ x8 ≤ x7 + 4294967296) (d2 : x4 + (-4294967296) ≤ x1 ∧ x1 ≤ x4 + 0) (d3 : x5 + (-4294967296) ≤ x2 ∧ x2 ≤ x5 + 0) (d4 : x1 + (-4294967296) ≤ x4 ∧ x4 ≤ x1 + 0) (d5 : x2 + (-4294967296) ≤ x5 ∧ x5 ≤ x2 + 0) (f0 : x9 = x6 + 1) (f1 : x7 ≤ x8) (f2 : FMB (faces_0) (faceMany_0)) (f3 : BHE (faces_0) (faceMany_0) (face_0) (x1) (x2)) (f4 : BH2 (faceMany_0) (face_0) (x1) (x2) (x6) (x8)) (f5 : 1 * x6 + ((-1) * faces_0 + 0) ≤ (-1)) (f6 : x7 = faceMany_0 (x6)) (hK_0_40 : ∀ j : Int, 0 ≤ j → j < 120 → 0 ≤ faceMany_0 j ∧ faceMany_0 j ≤ 60) (hK_0_41 : ∀ j : Int, 0 ≤ j → j < 7200 → 0 ≤ face_0 j ∧ face_0 j ≤ 24) (kz_0_39 : 0 ≤ faces_0 ∧ faces_0 ≤ 120) : BH1 (faceMany_0) (face_0) (x1) (x2) (x9) := by
  first
    | (intro f k a b; exfalso; omega)
    | (have h := ‹BH2 _ _ _ _ _ _›
       intro f k a b c d
       by_cases q : f = x6
       · subst q; exact h.2 k c (by omega)
       · exact h.1 f k a (by omega) c d)
def o_Mo_behind_4 : or_T := (2, 10, [(0, (2, 0, 0, [165])), (1, (0, 0, 24, [])), (2, (0, 0, 24, [])), (4, (0, 0, 24, [])), (5, (0, 0, 24, [])), (6, (0, 0, 119, [])), (7, (0, 3, 25, [])), (8, (0, 3, 25, [])), (9, (0, 1, 120, []))], [(6, [9, 6], [1]), (7, [8, 7], [3]), (20, [3], [60, 1, 1, 170, 39, 40]), (20, [3, 4, 5], [60, 1, 2, 172, 39, 40, 41]), (20, [3, 4, 5, 6, 8], [60, 0, 2, 174, 40, 41]), (20, [6, 3], [30, -1, 1, 0, 0, -1, 1, 39]), (20, [7, 3, 6], [50, 0, 1, 1040, 1, 2, 1, 0, 3, 1, 40, 1, 2]), (24, [0, 3], []), (24, [1, 4], []), (24, [2, 5], [])], [], [], [(20, [3, 4, 5, 9], [60, 0, 2, 173, 40, 41])], [], [(9, 6, 1, 1), (8, 7, 0, 4294967296), (1, 4, -4294967296, 0), (2, 5, -4294967296, 0), (4, 1, -4294967296, 0), (5, 2, -4294967296, 0)])
theorem oo_Mo_behind_4 {kA : Nat → ClassId} : or_ok PRD kA GG o_Mo_behind_4 := by
  refine or_mk fun A ta ws vs hD hth hl => ?_
  intro t0 r0 t1 k1 t2 k2 t4 k4 t5 k5 t6 k6 t7 k7 t8 k8 t9 k9 d0 d1 d2 d3 d4 d5 f0 f1 f2 f3 f4 f5 f6 f7 f8 f9
  replace f0 := shm_4 f0
  replace f1 := shm_2 f1
  replace f2 := shm_513 f2
  replace f3 := shm_514 f3
  replace f4 := shm_519 f4
  replace f5 := shm_520 f5
  replace f6 := shm_521 f6
  replace f7 := shm_5 f7
  replace f8 := shm_5 f8
  replace f9 := shm_5 f9
  have q3 : n_v vs 3 = n_v vs 0 := f7.symm
  have q4 : n_v vs 4 = n_v vs 1 := f8.symm
  have q5 : n_v vs 5 = n_v vs 2 := f9.symm
  simp only [q3, q4, q5] at f2 f3 f4 f5 f6
  have cr_0_40 := fdq_133 hD hth r0
  have cr_0_41 := fdq_134 hD hth r0
  have hK_0_40 := elq_73 hD hth cr_0_40
  have hK_0_41 := elq_74 hD hth cr_0_41
  have kz_0_39 := fdq_135 hD hth r0
  have nf0 : fc_1 PRD (20, [3, 4, 5, 9], [60, 0, 2, 173, 40, 41]) ws (vs) := by
    refine ⟨nf_in hl rfl, sgq_515 ?_⟩
    · show BH1 (w_ei ws (w_ar ws (n_v vs 3) 40)) (w_ei ws (w_ar ws (n_v vs 3) 41)) (v_iv (n_v vs 4)) (v_iv (n_v vs 5)) (v_iv (n_v vs 9))
      simp only [q3, q4, q5]
      exact vc_Mo_behind_4_0 (v_iv (n_v vs 1)) (v_iv (n_v vs 2)) (v_iv (n_v vs 4)) (v_iv (n_v vs 5)) (v_iv (n_v vs 6)) (v_iv (n_v vs 7)) (v_iv (n_v vs 8)) (v_iv (n_v vs 9)) (w_ei ws (w_ar ws (n_v vs 0) 40)) (w_fi ws (n_v vs 0) 39) (w_ei ws (w_ar ws (n_v vs 0) 41)) k1 k2 k4 k5 k6 k7 k8 k9 d0 d1 d2 d3 d4 d5 f0 f1 f2 f3 f4 f5 f6 hK_0_40 hK_0_41 kz_0_39
  refine ⟨(fun _ h => (by cases h)), [], trivial, ?_, (fun _ h => (by cases h))⟩
  rw [List.append_nil]
  exact List.forall_mem_cons.mpr ⟨⟨show (20 : Nat) < 100 from by decide, nf0⟩, (fun _ h => (by cases h))⟩
set_option maxHeartbeats 4000000 in
theorem vc_Mo_behind_5_0 (x1 : Int) (x2 : Int) (x4 : Int) (x5 : Int) (x6 : Int) (x7 : Int) (x8 : Int) (x10 : Int) (x11 : Int) (x12 : Int) (x13 : Int) (x14 : Int) (face_0 : Int → Int) (faceMany_0 : Int → Int) (faces_0 : Int) (k1 : 0 ≤ x1 ∧ x1 ≤ 24) (k2 : 0 ≤ x2 ∧ x2 ≤ 24) (k4 : 0 ≤ x4 ∧ x4 ≤ 24) (k5 : 0 ≤ x5 ∧ x5 ≤ 24) (k6 : 0 ≤ x6 ∧ x6 ≤ 119) (k7 : 3 ≤ x7 ∧ x7 ≤ 25) (k8 : 0 ≤ x8 ∧ x8 ≤ 24) (k10 : 60 ≤ x10 ∧ x10 ≤ 60) (k11 : 0 ≤ x11 ∧ x11 ≤ 7140) (k12 : 0 ≤ x12 ∧ x12 ≤ 7164) (k13 : 0 ≤ x13 ∧ x13 ≤ 24) (k14 : 1 ≤ x14 ∧ x14 ≤ 25) (d0 : x8 + 1 ≤ x14 ∧ x14 ≤ x8 + 1) (d1 : x7 + (-4294967296) ≤ x14 ∧ x14 ≤ x7 + 0) (d2 : x8 + 0 ≤ x12 ∧ x12 ≤ x8 + 7140) (d3 : x7 + (-4294967296) ≤ x12 ∧ x12 ≤ x7 + 7139) (d4 : x11 + 0 ≤ x12 ∧ x12 ≤ x11 + 24) (d5 : x7 + (-4294967296) ≤ x8 ∧ x8 ≤ x7 + (-1)) (d6 : x4 + (-4294967296) ≤ x1 ∧ x1 ≤ x4 + 0) (d7 : x5 + (-4294967296) ≤ x2 ∧ x2 ≤ x5 + 0) (d8 : x1 + (-4294967296) ≤ x4 ∧ x4 ≤ x1 + 0) (d9 : x2 + (-4294967296) ≤ x5 ∧ x5 ≤ x2 + 0) (f0 : x14 = x8 + 1) (f1 : x13 ≠ x1) (h2 : x13 = face_0 (x12)) (f3 : x12 = x11 + x8) (f4 : x11 = 60 * x6) (f6 : x8 < x7) (f7 : FMB (faces_0) (faceMany_0)) (f8 : BHE (faces_0) (faceMany_0) (face_0) (x1) (x2)) (f9 : BH2 (faceMany_0) (face_0) (x1) (x2) (x6) (x8)) (f10 : 1 * x6 + ((-1) * faces_0 + 0) ≤ (-1)) (f11 : x7 = faceMany_0 (x6)) (hK_0_40 : ∀ j : Int, 0 ≤ j → j < 120 → 0 ≤ faceMany_0 j ∧ faceMany_0 j ≤ 60) (hK_0_41 : ∀ j : Int, 0 ≤ j → j < 7200 → 0 ≤ face_0 j ∧ face_0 j ≤ 24) (kz_0_39 : 0 ≤ faces_0 ∧ faces_0 ≤ 120) : BH2 (faceMany_0) (face_0) (x1) (x2) (x6) (x14) := by
  first
    | exact ⟨‹BH1 _ _ _ _ _›, fun k a b => by exfalso; omega⟩
    | (have h := ‹BH2 _ _ _ _ _ _›
       refine ⟨h.1, fun k a b z => ?_⟩
       by_cases q : k = x8
       · subst q
         have z1 := z.1
         have z2 := z.2
         unfold rwf at z1 z2
         rw [show 60 * x6 + k = x12 by omega] at z1
         first
           | omega
           | (rw [← ‹x7 = faceMany_0 x6›, ← nr_m1 (by omega) (by omega), ← Int.tmod_eq_emod_of_nonneg (by omega), show k + 1 = x17 by omega, ← ‹x18 = Int.tmod x17 x7›, show 60 * x6 + x18 = x19 by omega] at z2
              omega)
       · exact h.2 k a (by omega) z)
def o_Mo_behind_5 : or_T := (21, 15, [(0, (2, 0, 0, [165])), (1, (0, 0, 24, [])), (2, (0, 0, 24, [])), (4, (0, 0, 24, [])), (5, (0, 0, 24, [])), (6, (0, 0, 119, [])), (7, (0, 3, 25, [])), (8, (0, 0, 24, [])), (10, (0, 60, 60, [])), (11, (0, 0, 7140, [])), (12, (0, 0, 7164, [])), (13, (0, 0, 24, [])), (14, (0, 1, 25, []))], [(6, [14, 8], [1]), (7, [13, 4], [1]), (10, [13, 9, 12], []), (1, [12, 11, 8], []), (3, [11, 10, 6], []), (9, [9, 3], [41]), (7, [8, 7], [2]), (20, [3], [60, 1, 1, 170, 39, 40]), (20, [3, 4, 5], [60, 1, 2, 172, 39, 40, 41]), (20, [3, 4, 5, 6, 8], [60, 0, 2, 174, 40, 41]), (20, [6, 3], [30, -1, 1, 0, 0, -1, 1, 39]), (20, [7, 3, 6], [50, 0, 1, 1040, 1, 2, 1, 0, 3, 1, 40, 1, 2]), (24, [0, 3], []), (24, [1, 4], []), (24, [2, 5], [])], [], [], [(20, [3, 4, 5, 6, 14], [60, 0, 2, 174, 40, 41])], [], [(14, 8, 1, 1), (14, 7, -4294967296, 0), (12, 8, 0, 7140), (12, 7, -4294967296, 7139), (12, 11, 0, 24), (8, 7, -4294967296, -1), (1, 4, -4294967296, 0), (2, 5, -4294967296, 0), (4, 1, -4294967296, 0), (5, 2, -4294967296, 0)])
theorem oo_Mo_behind_5 {kA : Nat → ClassId} : or_ok PRD kA GG o_Mo_behind_5 := by
  refine or_mk fun A ta ws vs hD hth hl => ?_
  intro t0 r0 t1 k1 t2 k2 t4 k4 t5 k5 t6 k6 t7 k7 t8 k8 t10 k10 t11 k11 t12 k12 t13 k13 t14 k14 d0 d1 d2 d3 d4 d5 d6 d7 d8 d9 f0 f1 f2 f3 f4 f5 f6 f7 f8 f9 f10 f11 f12 f13 f14
  replace f0 := shm_4 f0
  replace f1 := shm_40 f1
  replace f2 := shm_107 f2
  replace f3 := shm_12 f3
  replace f4 := shm_38 f4
  rw [show v_iv (n_v vs 10) = 60 from by omega] at f4
  replace f5 := shm_522 f5
  replace f6 := shm_6 f6
  replace f7 := shm_513 f7
  replace f8 := shm_514 f8
  replace f9 := shm_519 f9
  replace f10 := shm_520 f10
  replace f11 := shm_521 f11
  replace f12 := shm_5 f12
  replace f13 := shm_5 f13
  replace f14 := shm_5 f14
  have q3 : n_v vs 3 = n_v vs 0 := f12.symm
  have q4 : n_v vs 4 = n_v vs 1 := f13.symm
  have q5 : n_v vs 5 = n_v vs 2 := f14.symm
  simp only [q4, q3, q5] at f1 f5 f7 f8 f9 f10 f11
  have cr_0_40 := fdq_133 hD hth r0
  have cr_0_41 := fdq_134 hD hth r0
  have ad_9 : v_ad (n_v vs 9) = w_ar ws (n_v vs 0) 41 := congrArg v_ad f5
  simp only [ad_9] at f2
  have h2 : v_iv (n_v vs 13) = w_ei ws (w_ar ws (n_v vs 0) 41) (v_iv (n_v vs 12)) := f2
  have hK_0_40 := elq_73 hD hth cr_0_40
  have hK_0_41 := elq_74 hD hth cr_0_41
  have kz_0_39 := fdq_135 hD hth r0
  have nf0 : fc_1 PRD (20, [3, 4, 5, 6, 14], [60, 0, 2, 174, 40, 41]) ws (vs) := by
    refine ⟨nf_in hl rfl, sgq_519 ?_⟩
    · show BH2 (w_ei ws (w_ar ws (n_v vs 3) 40)) (w_ei ws (w_ar ws (n_v vs 3) 41)) (v_iv (n_v vs 4)) (v_iv (n_v vs 5)) (v_iv (n_v vs 6)) (v_iv (n_v vs 14))
      simp only [q3, q4, q5]
      exact vc_Mo_behind_5_0 (v_iv (n_v vs 1)) (v_iv (n_v vs 2)) (v_iv (n_v vs 4)) (v_iv (n_v vs 5)) (v_iv (n_v vs 6)) (v_iv (n_v vs 7)) (v_iv (n_v vs 8)) (v_iv (n_v vs 10)) (v_iv (n_v vs 11)) (v_iv (n_v vs 12)) (v_iv (n_v vs 13)) (v_iv (n_v vs 14)) (w_ei ws (w_ar ws (n_v vs 0) 41)) (w_ei ws (w_ar ws (n_v vs 0) 40)) (w_fi ws (n_v vs 0) 39) k1 k2 k4 k5 k6 k7 k8 k10 k11 k12 k13 k14 d0 d1 d2 d3 d4 d5 d6 d7 d8 d9 f0 f1 h2 f3 f4 f6 f7 f8 f9 f10 f11 hK_0_40 hK_0_41 kz_0_39
  refine ⟨(fun _ h => (by cases h)), [], trivial, ?_, (fun _ h => (by cases h))⟩
  rw [List.append_nil]
  exact List.forall_mem_cons.mpr ⟨⟨show (20 : Nat) < 100 from by decide, nf0⟩, (fun _ h => (by cases h))⟩
set_option maxHeartbeats 4000000 in
theorem vc_Mo_behind_6_0 (x1 : Int) (x2 : Int) (x4 : Int) (x5 : Int) (x6 : Int) (x7 : Int) (x8 : Int) (x10 : Int) (x11 : Int) (x12 : Int) (x13 : Int) (x14 : Int) (x15 : Int) (x16 : Int) (x17 : Int) (x18 : Int) (x19 : Int) (x20 : Int) (x21 : Int) (face_0 : Int → Int) (faceMany_0 : Int → Int) (faces_0 : Int) (k1 : 0 ≤ x1 ∧ x1 ≤ 24) (k2 : 0 ≤ x2 ∧ x2 ≤ 24) (k4 : 0 ≤ x4 ∧ x4 ≤ 24) (k5 : 0 ≤ x5 ∧ x5 ≤ 24) (k6 : 0 ≤ x6 ∧ x6 ≤ 119) (k7 : 3 ≤ x7 ∧ x7 ≤ 25) (k8 : 0 ≤ x8 ∧ x8 ≤ 24) (k10 : 60 ≤ x10 ∧ x10 ≤ 60) (k11 : 0 ≤ x11 ∧ x11 ≤ 7140) (k12 : 0 ≤ x12 ∧ x12 ≤ 7164) (k13 : 0 ≤ x13 ∧ x13 ≤ 24) (k14 : 60 ≤ x14 ∧ x14 ≤ 60) (k15 : 0 ≤ x15 ∧ x15 ≤ 7140) (k16 : 1 ≤ x16 ∧ x16 ≤ 1) (k17 : 1 ≤ x17 ∧ x17 ≤ 25) (k18 : 0 ≤ x18 ∧ x18 ≤ 24) (k19 : 0 ≤ x19 ∧ x19 ≤ 7164) (k20 : 0 ≤ x20 ∧ x20 ≤ 24) (k21 : 1 ≤ x21 ∧ x21 ≤ 25) (d0 : x8 + 1 ≤ x21 ∧ x21 ≤ x8 + 1) (d1 : x7 + (-4294967296) ≤ x21 ∧ x21 ≤ x7 + 0) (d2 : x18 + 0 ≤ x19 ∧ x19 ≤ x18 + 7140) (d3 : x7 + (-4294967295) ≤ x19 ∧ x19 ≤ x7 + 7139) (d4 : x15 + 0 ≤ x19 ∧ x19 ≤ x15 + 24) (d5 : x7 + (-4294967295) ≤ x18 ∧ x18 ≤ x7 + (-1)) (d6 : x8 + 1 ≤ x17 ∧ x17 ≤ x8 + 1) (d7 : x7 + (-4294967296) ≤ x17 ∧ x17 ≤ x7 + 0) (d8 : x4 + 0 ≤ x13 ∧ x13 ≤ x4 + 0) (d9 : x8 + 0 ≤ x12 ∧ x12 ≤ x8 + 7140) (d10 : x7 + (-4294967296) ≤ x12 ∧ x12 ≤ x7 + 7139) (d11 : x11 + 0 ≤ x12 ∧ x12 ≤ x11 + 24) (d12 : x7 + (-4294967296) ≤ x8 ∧ x8 ≤ x7 + (-1)) (d13 : x4 + (-4294967296) ≤ x1 ∧ x1 ≤ x4 + 0) (d14 : x5 + (-4294967296) ≤ x2 ∧ x2 ≤ x5 + 0) (d15 : x1 + (-4294967296) ≤ x4 ∧ x4 ≤ x1 + 0) (d16 : x2 + (-4294967296) ≤ x5 ∧ x5 ≤ x2 + 0) (f0 : x21 = x8 + 1) (f1 : x20 ≠ x2) (h2 : x20 = face_0 (x19)) (f3 : x19 = x15 + x18) (f4 : x18 = Int.tmod (x17) (x7)) (f5 : x17 = x8 + x16) (f6 : x15 = 60 * x6) (f8 : x13 = x1) (h9 : x13 = face_0 (x12)) (f10 : x12 = x11 + x8) (f11 : x11 = 60 * x6) (f12 : x8 < x7) (f13 : FMB (faces_0) (faceMany_0)) (f14 : BHE (faces_0) (faceMany_0) (face_0) (x1) (x2)) (f15 : BH2 (faceMany_0) (face_0) (x1) (x2) (x6) (x8)) (f16 : 1 * x6 + ((-1) * faces_0 + 0) ≤ (-1)) (f17 : x7 = faceMany_0 (x6)) (hK_0_40 : ∀ j : Int, 0 ≤ j → j < 120 → 0 ≤ faceMany_0 j ∧ faceMany_0 j ≤ 60) (hK_0_41 : ∀ j : Int, 0 ≤ j → j < 7200 → 0 ≤ face_0 j ∧ face_0 j ≤ 24) (kz_0_39 : 0 ≤ faces_0 ∧ faces_0 ≤ 120) : BH2 (faceMany_0) (face_0) (x1) (x2) (x6) (x21) := by
  first
    | exact ⟨‹BH1 _ _ _ _ _›, fun k a b => by exfalso; omega⟩
    | (have h := ‹BH2 _ _ _ _ _ _›
       refine ⟨h.1, fun k a b z => ?_⟩
       by_cases q : k = x8
       · subst q
         have z1 := z.1
         have z2 := z.2
         unfold rwf at z1 z2
         rw [show 60 * x6 + k = x12 by omega] at z1
         first
           | omega
           | (rw [← ‹x7 = faceMany_0 x6›, ← nr_m1 (by omega) (by omega), ← Int.tmod_eq_emod_of_nonneg (by omega), show k + 1 = x17 by omega, ← ‹x18 = Int.tmod x17 x7›, show 60 * x6 + x18 = x19 by omega] at z2
              omega)
       · exact h.2 k a (by omega) z)
def o_Mo_behind_6 : or_T := (21, 22, [(0, (2, 0, 0, [165])), (1, (0, 0, 24, [])), (2, (0, 0, 24, [])), (4, (0, 0, 24, [])), (5, (0, 0, 24, [])), (6, (0, 0, 119, [])), (7, (0, 3, 25, [])), (8, (0, 0, 24, [])), (10, (0, 60, 60, [])), (11, (0, 0, 7140, [])), (12, (0, 0, 7164, [])), (13, (0, 0, 24, [])), (14, (0, 60, 60, [])), (15, (0, 0, 7140, [])), (16, (0, 1, 1, [])), (17, (0, 1, 25, [])), (18, (0, 0, 24, [])), (19, (0, 0, 7164, [])), (20, (0, 0, 24, [])), (21, (0, 1, 25, []))], [(6, [21, 8], [1]), (7, [20, 5], [1]), (10, [20, 9, 19], []), (1, [19, 15, 18], []), (5, [18, 17, 7], []), (1, [17, 8, 16], []), (3, [15, 14, 6], []), (9, [9, 3], [41]), (7, [13, 4], [0]), (10, [13, 9, 12], []), (1, [12, 11, 8], []), (3, [11, 10, 6], []), (7, [8, 7], [2]), (20, [3], [60, 1, 1, 170, 39, 40]), (20, [3, 4, 5], [60, 1, 2, 172, 39, 40, 41]), (20, [3, 4, 5, 6, 8], [60, 0, 2, 174, 40, 41]), (20, [6, 3], [30, -1, 1, 0, 0, -1, 1, 39]), (20, [7, 3, 6], [50, 0, 1, 1040, 1, 2, 1, 0, 3, 1, 40, 1, 2]), (24, [0, 3], []), (24, [1, 4], []), (24, [2, 5], [])], [], [], [(20, [3, 4, 5, 6, 21], [60, 0, 2, 174, 40, 41])], [], [(21, 8, 1, 1), (21, 7, -4294967296, 0), (19, 18, 0, 7140), (19, 7, -4294967295, 7139), (19, 15, 0, 24), (18, 7, -4294967295, -1), (17, 8, 1, 1), (17, 7, -4294967296, 0), (13, 4, 0, 0), (12, 8, 0, 7140), (12, 7, -4294967296, 7139), (12, 11, 0, 24), (8, 7, -4294967296, -1), (1, 4, -4294967296, 0), (2, 5, -4294967296, 0), (4, 1, -4294967296, 0), (5, 2, -4294967296, 0)])
theorem oo_Mo_behind_6 {kA : Nat → ClassId} : or_ok PRD kA GG o_Mo_behind_6 := by
  refine or_mk fun A ta ws vs hD hth hl => ?_
  intro t0 r0 t1 k1 t2 k2 t4 k4 t5 k5 t6 k6 t7 k7 t8 k8 t10 k10 t11 k11 t12 k12 t13 k13 t14 k14 t15 k15 t16 k16 t17 k17 t18 k18 t19 k19 t20 k20 t21 k21 d0 d1 d2 d3 d4 d5 d6 d7 d8 d9 d10 d11 d12 d13 d14 d15 d16 f0 f1 f2 f3 f4 f5 f6 f7 f8 f9 f10 f11 f12 f13 f14 f15 f16 f17 f18 f19 f20
  replace f0 := shm_4 f0
  replace f1 := shm_40 f1
  replace f2 := shm_107 f2
  replace f3 := shm_12 f3
  replace f4 := shm_468 f4
  replace f5 := shm_12 f5
  replace f6 := shm_38 f6
  rw [show v_iv (n_v vs 14) = 60 from by omega] at f6
  replace f7 := shm_522 f7
  replace f8 := shm_37 f8
  replace f9 := shm_107 f9
  replace f10 := shm_12 f10
  replace f11 := shm_38 f11
  rw [show v_iv (n_v vs 10) = 60 from by omega] at f11
  replace f12 := shm_6 f12
  replace f13 := shm_513 f13
  replace f14 := shm_514 f14
  replace f15 := shm_519 f15
  replace f16 := shm_520 f16
  replace f17 := shm_521 f17
  replace f18 := shm_5 f18
  replace f19 := shm_5 f19
  replace f20 := shm_5 f20
  have q3 : n_v vs 3 = n_v vs 0 := f18.symm
  have q4 : n_v vs 4 = n_v vs 1 := f19.symm
  have q5 : n_v vs 5 = n_v vs 2 := f20.symm
  simp only [q5, q3, q4] at f1 f7 f8 f13 f14 f15 f16 f17
  have cr_0_40 := fdq_133 hD hth r0
  have cr_0_41 := fdq_134 hD hth r0
  have ad_9 : v_ad (n_v vs 9) = w_ar ws (n_v vs 0) 41 := congrArg v_ad f7
  simp only [ad_9] at f2
  have h2 : v_iv (n_v vs 20) = w_ei ws (w_ar ws (n_v vs 0) 41) (v_iv (n_v vs 19)) := f2
  simp only [ad_9] at f9
  have h9 : v_iv (n_v vs 13) = w_ei ws (w_ar ws (n_v vs 0) 41) (v_iv (n_v vs 12)) := f9
  have hK_0_40 := elq_73 hD hth cr_0_40
  have hK_0_41 := elq_74 hD hth cr_0_41
  have kz_0_39 := fdq_135 hD hth r0
  have nf0 : fc_1 PRD (20, [3, 4, 5, 6, 21], [60, 0, 2, 174, 40, 41]) ws (vs) := by
    refine ⟨nf_in hl rfl, sgq_519 ?_⟩
    · show BH2 (w_ei ws (w_ar ws (n_v vs 3) 40)) (w_ei ws (w_ar ws (n_v vs 3) 41)) (v_iv (n_v vs 4)) (v_iv (n_v vs 5)) (v_iv (n_v vs 6)) (v_iv (n_v vs 21))
      simp only [q3, q4, q5]
      exact vc_Mo_behind_6_0 (v_iv (n_v vs 1)) (v_iv (n_v vs 2)) (v_iv (n_v vs 4)) (v_iv (n_v vs 5)) (v_iv (n_v vs 6)) (v_iv (n_v vs 7)) (v_iv (n_v vs 8)) (v_iv (n_v vs 10)) (v_iv (n_v vs 11)) (v_iv (n_v vs 12)) (v_iv (n_v vs 13)) (v_iv (n_v vs 14)) (v_iv (n_v vs 15)) (v_iv (n_v vs 16)) (v_iv (n_v vs 17)) (v_iv (n_v vs 18)) (v_iv (n_v vs 19)) (v_iv (n_v vs 20)) (v_iv (n_v vs 21)) (w_ei ws (w_ar ws (n_v vs 0) 41)) (w_ei ws (w_ar ws (n_v vs 0) 40)) (w_fi ws (n_v vs 0) 39) k1 k2 k4 k5 k6 k7 k8 k10 k11 k12 k13 k14 k15 k16 k17 k18 k19 k20 k21 d0 d1 d2 d3 d4 d5 d6 d7 d8 d9 d10 d11 d12 d13 d14 d15 d16 f0 f1 h2 f3 f4 f5 f6 f8 h9 f10 f11 f12 f13 f14 f15 f16 f17 hK_0_40 hK_0_41 kz_0_39
  refine ⟨(fun _ h => (by cases h)), [], trivial, ?_, (fun _ h => (by cases h))⟩
  rw [List.append_nil]
  exact List.forall_mem_cons.mpr ⟨⟨show (20 : Nat) < 100 from by decide, nf0⟩, (fun _ h => (by cases h))⟩
set_option maxHeartbeats 4000000 in
theorem vc_Mo_behind_7_0 (x1 : Int) (x2 : Int) (x4 : Int) (x5 : Int) (x6 : Int) (x7 : Int) (x8 : Int) (x10 : Int) (x11 : Int) (x12 : Int) (x13 : Int) (x14 : Int) (x15 : Int) (x16 : Int) (x17 : Int) (x18 : Int) (x19 : Int) (x20 : Int) (x21 : Int) (x22 : Int) (x23 : Int) (x24 : Int) (x25 : Int) (x26 : Int) (x27 : Int) (face_0 : Int → Int) (faceMany_0 : Int → Int) (faces_0 : Int) (k1 : 0 ≤ x1 ∧ x1 ≤ 24) (k2 : 0 ≤ x2 ∧ x2 ≤ 24) (k4 : 0 ≤ x4 ∧ x4 ≤ 24) (k5 : 0 ≤ x5 ∧ x5 ≤ 24) (k6 : 0 ≤ x6 ∧ x6 ≤ 119) (k7 : 3 ≤ x7 ∧ x7 ≤ 25) (k8 : 0 ≤ x8 ∧ x8 ≤ 24) (k10 : 60 ≤ x10 ∧ x10 ≤ 60) (k11 : 0 ≤ x11 ∧ x11 ≤ 7140) (k12 : 0 ≤ x12 ∧ x12 ≤ 7164) (k13 : 0 ≤ x13 ∧ x13 ≤ 24) (k14 : 60 ≤ x14 ∧ x14 ≤ 60) (k15 : 0 ≤ x15 ∧ x15 ≤ 7140) (k16 : 1 ≤ x16 ∧ x16 ≤ 1) (k17 : 1 ≤ x17 ∧ x17 ≤ 25) (k18 : 0 ≤ x18 ∧ x18 ≤ 24) (k19 : 0 ≤ x19 ∧ x19 ≤ 7164) (k20 : 0 ≤ x20 ∧ x20 ≤ 24) (k21 : 60 ≤ x21 ∧ x21 ≤ 60) (k22 : 0 ≤ x22 ∧ x22 ≤ 7140) (k23 : 2 ≤ x23 ∧ x23 ≤ 2) (k24 : 2 ≤ x24 ∧ x24 ≤ 26) (k25 : 0 ≤ x25 ∧ x25 ≤ 24) (k26 : 0 ≤ x26 ∧ x26 ≤ 7164) (k27 : 0 ≤ x27 ∧ x27 ≤ 24) (d0 : x25 + 0 ≤ x26 ∧ x26 ≤ x25 + 7140) (d1 : x7 + (-4294967295) ≤ x26 ∧ x26 ≤ x7 + 7139) (d2 : x22 + 0 ≤ x26 ∧ x26 ≤ x22 + 24) (d3 : x7 + (-4294967295) ≤ x25 ∧ x25 ≤ x7 + (-1)) (d4 : x8 + 2 ≤ x24 ∧ x24 ≤ x8 + 2) (d5 : x7 + (-4294967296) ≤ x24 ∧ x24 ≤ x7 + 1) (d6 : x5 + 0 ≤ x20 ∧ x20 ≤ x5 + 0) (d7 : x18 + 0 ≤ x19 ∧ x19 ≤ x18 + 7140) (d8 : x7 + (-4294967295) ≤ x19 ∧ x19 ≤ x7 + 7139) (d9 : x15 + 0 ≤ x19 ∧ x19 ≤ x15 + 24) (d10 : x7 + (-4294967295) ≤ x18 ∧ x18 ≤ x7 + (-1)) (d11 : x8 + 1 ≤ x17 ∧ x17 ≤ x8 + 1) (d12 : x7 + (-4294967296) ≤ x17 ∧ x17 ≤ x7 + 0) (d13 : x4 + 0 ≤ x13 ∧ x13 ≤ x4 + 0) (d14 : x8 + 0 ≤ x12 ∧ x12 ≤ x8 + 7140) (d15 : x7 + (-4294967296) ≤ x12 ∧ x12 ≤ x7 + 7139) (d16 : x11 + 0 ≤ x12 ∧ x12 ≤ x11 + 24) (d17 : x7 + (-4294967296) ≤ x8 ∧ x8 ≤ x7 + (-1)) (d18 : x4 + (-4294967296) ≤ x1 ∧ x1 ≤ x4 + 0) (d19 : x5 + (-4294967296) ≤ x2 ∧ x2 ≤ x5 + 0) (d20 : x1 + (-4294967296) ≤ x4 ∧ x4 ≤ x1 + 0) (d21 : x2 + (-4294967296) ≤ x5 ∧ x5 ≤ x2 + 0) (h0 : x27 = face_0 (x26)) (f1 : x26 = x22 + x25) (f2 : x25 = Int.tmod (x24) (x7)) (f3 : x24 = x8 + x23) (f4 : x22 = 60 * x6) (f6 : x20 = x2) (h7 : x20 = face_0 (x19)) (f8 : x19 = x15 + x18) (f9 : x18 = Int.tmod (x17) (x7)) (f10 : x17 = x8 + x16) (f11 : x15 = 60 * x6) (f12 : x13 = x1) (h13 : x13 = face_0 (x12)) (f14 : x12 = x11 + x8) (f15 : x11 = 60 * x6) (f16 : x8 < x7) (f17 : FMB (faces_0) (faceMany_0)) (f18 : BHE (faces_0) (faceMany_0) (face_0) (x1) (x2)) (f19 : BH2 (faceMany_0) (face_0) (x1) (x2) (x6) (x8)) (f20 : 1 * x6 + ((-1) * faces_0 + 0) ≤ (-1)) (f21 : x7 = faceMany_0 (x6)) (hK_0_40 : ∀ j : Int, 0 ≤ j → j < 120 → 0 ≤ faceMany_0 j ∧ faceMany_0 j ≤ 60) (hK_0_41 : ∀ j : Int, 0 ≤ j → j < 7200 → 0 ≤ face_0 j ∧ face_0 j ≤ 24) (kz_0_39 : 0 ≤ faces_0 ∧ faces_0 ≤ 120) : BHP (faces_0) (faceMany_0) (face_0) (x1) (x2) (x27) := by
  refine ⟨x6, x8, by omega, by omega, by omega, by omega, ?_, ?_, ?_⟩
  · unfold rwf; rw [show 60 * x6 + x8 = x12 by omega]; omega
  · unfold rwf
    rw [← ‹x7 = faceMany_0 x6›, ← nr_m1 (by omega) (by omega), ← Int.tmod_eq_emod_of_nonneg (by omega), show x8 + 1 = x17 by omega, ← ‹x18 = Int.tmod x17 x7›, show 60 * x6 + x18 = x19 by omega]; omega
  · unfold rwf
    rw [← ‹x7 = faceMany_0 x6›, ← nr_m2 (by omega) (by omega) (by omega), ← Int.tmod_eq_emod_of_nonneg (by omega), show x8 + 2 = x24 by omega, ← ‹x25 = Int.tmod x24 x7›, show 60 * x6 + x25 = x26 by omega]; omega
def o_Mo_behind_7 : or_T := (82, 28, [(0, (2, 0, 0, [165])), (1, (0, 0, 24, [])), (2, (0, 0, 24, [])), (4, (0, 0, 24, [])), (5, (0, 0, 24, [])), (6, (0, 0, 119, [])), (7, (0, 3, 25, [])), (8, (0, 0, 24, [])), (10, (0, 60, 60, [])), (11, (0, 0, 7140, [])), (12, (0, 0, 7164, [])), (13, (0, 0, 24, [])), (14, (0, 60, 60, [])), (15, (0, 0, 7140, [])), (16, (0, 1, 1, [])), (17, (0, 1, 25, [])), (18, (0, 0, 24, [])), (19, (0, 0, 7164, [])), (20, (0, 0, 24, [])), (21, (0, 60, 60, [])), (22, (0, 0, 7140, [])), (23, (0, 2, 2, [])), (24, (0, 2, 26, [])), (25, (0, 0, 24, [])), (26, (0, 0, 7164, [])), (27, (0, 0, 24, []))], [(10, [27, 9, 26], []), (1, [26, 22, 25], []), (5, [25, 24, 7], []), (1, [24, 8, 23], []), (3, [22, 21, 6], []), (9, [9, 3], [41]), (7, [20, 5], [0]), (10, [20, 9, 19], []), (1, [19, 15, 18], []), (5, [18, 17, 7], []), (1, [17, 8, 16], []), (3, [15, 14, 6], []), (7, [13, 4], [0]), (10, [13, 9, 12], []), (1, [12, 11, 8], []), (3, [11, 10, 6], []), (7, [8, 7], [2]), (20, [3], [60, 1, 1, 170, 39, 40]), (20, [3, 4, 5], [60, 1, 2, 172, 39, 40, 41]), (20, [3, 4, 5, 6, 8], [60, 0, 2, 174, 40, 41]), (20, [6, 3], [30, -1, 1, 0, 0, -1, 1, 39]), (20, [7, 3, 6], [50, 0, 1, 1040, 1, 2, 1, 0, 3, 1, 40, 1, 2]), (24, [0, 3], []), (24, [1, 4], []), (24, [2, 5], [])], [], [], [(20, [0, 1, 2, 27], [60, 1, 2, 171, 39, 40, 41])], [], [(26, 25, 0, 7140), (26, 7, -4294967295, 7139), (26, 22, 0, 24), (25, 7, -4294967295, -1), (24, 8, 2, 2), (24, 7, -4294967296, 1), (20, 5, 0, 0), (19, 18, 0, 7140), (19, 7, -4294967295, 7139), (19, 15, 0, 24), (18, 7, -4294967295, -1), (17, 8, 1, 1), (17, 7, -4294967296, 0), (13, 4, 0, 0), (12, 8, 0, 7140), (12, 7, -4294967296, 7139), (12, 11, 0, 24), (8, 7, -4294967296, -1), (1, 4, -4294967296, 0), (2, 5, -4294967296, 0), (4, 1, -4294967296, 0), (5, 2, -4294967296, 0)])
theorem oo_Mo_behind_7 {kA : Nat → ClassId} : or_ok PRD kA GG o_Mo_behind_7 := by
  refine or_mk fun A ta ws vs hD hth hl => ?_
  intro t0 r0 t1 k1 t2 k2 t4 k4 t5 k5 t6 k6 t7 k7 t8 k8 t10 k10 t11 k11 t12 k12 t13 k13 t14 k14 t15 k15 t16 k16 t17 k17 t18 k18 t19 k19 t20 k20 t21 k21 t22 k22 t23 k23 t24 k24 t25 k25 t26 k26 t27 k27 d0 d1 d2 d3 d4 d5 d6 d7 d8 d9 d10 d11 d12 d13 d14 d15 d16 d17 d18 d19 d20 d21 f0 f1 f2 f3 f4 f5 f6 f7 f8 f9 f10 f11 f12 f13 f14 f15 f16 f17 f18 f19 f20 f21 f22 f23 f24
  replace f0 := shm_107 f0
  replace f4 := shm_38 f4
  rw [show v_iv (n_v vs 21) = 60 from by omega] at f4
  replace f5 := shm_522 f5
  replace f6 := shm_37 f6
  replace f7 := shm_107 f7
  replace f11 := shm_38 f11
  rw [show v_iv (n_v vs 14) = 60 from by omega] at f11
  replace f12 := shm_37 f12
  replace f13 := shm_107 f13
  replace f15 := shm_38 f15
  rw [show v_iv (n_v vs 10) = 60 from by omega] at f15
  replace f17 := shm_513 f17
  replace f18 := shm_514 f18
  replace f19 := shm_519 f19
  replace f20 := shm_520 f20
  replace f21 := shm_521 f21
  replace f22 := shm_5 f22
  replace f23 := shm_5 f23
  replace f24 := shm_5 f24
  have q3 : n_v vs 3 = n_v vs 0 := f22.symm
  have q4 : n_v vs 4 = n_v vs 1 := f23.symm
  have q5 : n_v vs 5 = n_v vs 2 := f24.symm
  simp only [q3, q5, q4] at f5 f6 f12 f17 f18 f19 f20 f21
  have cr_0_40 := fdq_133 hD hth r0
  have cr_0_41 := fdq_134 hD hth r0
  have ad_9 : v_ad (n_v vs 9) = w_ar ws (n_v vs 0) 41 := congrArg v_ad f5
  simp only [ad_9] at f0
  have h0 : v_iv (n_v vs 27) = w_ei ws (w_ar ws (n_v vs 0) 41) (v_iv (n_v vs 26)) := f0
  simp only [ad_9] at f7
  have h7 : v_iv (n_v vs 20) = w_ei ws (w_ar ws (n_v vs 0) 41) (v_iv (n_v vs 19)) := f7
  simp only [ad_9] at f13
  have h13 : v_iv (n_v vs 13) = w_ei ws (w_ar ws (n_v vs 0) 41) (v_iv (n_v vs 12)) := f13
  have hK_0_40 := elq_73 hD hth cr_0_40
  have hK_0_41 := elq_74 hD hth cr_0_41
  have kz_0_39 := fdq_135 hD hth r0
  have nf0 : fc_1 PRD (20, [0, 1, 2, 27], [60, 1, 2, 171, 39, 40, 41]) ws (vs) := ⟨nf_in hl rfl, sgq_517 (vc_Mo_behind_7_0 (v_iv (n_v vs 1)) (v_iv (n_v vs 2)) (v_iv (n_v vs 4)) (v_iv (n_v vs 5)) (v_iv (n_v vs 6)) (v_iv (n_v vs 7)) (v_iv (n_v vs 8)) (v_iv (n_v vs 10)) (v_iv (n_v vs 11)) (v_iv (n_v vs 12)) (v_iv (n_v vs 13)) (v_iv (n_v vs 14)) (v_iv (n_v vs 15)) (v_iv (n_v vs 16)) (v_iv (n_v vs 17)) (v_iv (n_v vs 18)) (v_iv (n_v vs 19)) (v_iv (n_v vs 20)) (v_iv (n_v vs 21)) (v_iv (n_v vs 22)) (v_iv (n_v vs 23)) (v_iv (n_v vs 24)) (v_iv (n_v vs 25)) (v_iv (n_v vs 26)) (v_iv (n_v vs 27)) (w_ei ws (w_ar ws (n_v vs 0) 41)) (w_ei ws (w_ar ws (n_v vs 0) 40)) (w_fi ws (n_v vs 0) 39) k1 k2 k4 k5 k6 k7 k8 k10 k11 k12 k13 k14 k15 k16 k17 k18 k19 k20 k21 k22 k23 k24 k25 k26 k27 d0 d1 d2 d3 d4 d5 d6 d7 d8 d9 d10 d11 d12 d13 d14 d15 d16 d17 d18 d19 d20 d21 h0 (shm_12 f1) (shm_468 f2) (shm_12 f3) f4 f6 h7 (shm_12 f8) (shm_468 f9) (shm_12 f10) f11 f12 h13 (shm_12 f14) f15 (shm_6 f16) f17 f18 f19 f20 f21 hK_0_40 hK_0_41 kz_0_39)⟩
  refine ⟨(fun _ h => (by cases h)), [], trivial, ?_, (fun _ h => (by cases h))⟩
  rw [List.append_nil]
  exact List.forall_mem_cons.mpr ⟨⟨show (20 : Nat) < 100 from by decide, nf0⟩, (fun _ h => (by cases h))⟩
def n_Mo_behind_an : List an_T := [(2, [(0, (2, 0, 0, [165])), (1, (0, 0, 24, [])), (2, (0, 0, 24, [])), (3, (0, 0, 120, []))], [], (0, 0), [(0, 0, 99998), (1, 6, 120), (0, 0, 100000), (0, 0, 0), (0, 0, 0)], [(1, 4, (Int.negSucc 999999999999), 0), (2, 5, (Int.negSucc 999999999999), 0), (4, 1, (Int.negSucc 999999999999), 0), (5, 2, (Int.negSucc 999999999999), 0)], [], [(2, 0, 0, [165]), (0, 0, 24, []), (0, 0, 24, [])], 0, [], [(20, [3], [60, 1, 1, 170, 39, 40]), (20, [3, 4, 5], [60, 1, 2, 172, 39, 40, 41]), (20, [3, 4, 5, 6], [60, 0, 2, 173, 40, 41]), (24, [0, 3], []), (24, [1, 4], []), (24, [2, 5], [])]), (21, [(0, (2, 0, 0, [165])), (1, (0, 0, 24, [])), (2, (0, 0, 24, [])), (3, (0, 0, 119, [])), (4, (0, 3, 25, [])), (5, (0, 0, 25, []))], [], (0, 0), [(0, 0, 99998), (1, 6, 120), (0, 0, 99979), (1, 8, 25), (0, 0, 100000)], [(1, 4, (Int.negSucc 999999999999), 0), (2, 5, (Int.negSucc 999999999999), 0), (4, 1, (Int.negSucc 999999999999), 0), (5, 2, (Int.negSucc 999999999999), 0)], [], [(2, 0, 0, [165]), (0, 0, 24, []), (0, 0, 24, [])], 0, [], [(20, [3], [60, 1, 1, 170, 39, 40]), (20, [3, 4, 5], [60, 1, 2, 172, 39, 40, 41]), (20, [3, 4, 5, 6, 8], [60, 0, 2, 174, 40, 41]), (20, [6, 3], [30, (Int.negSucc 0), 1, 0, 0, (Int.negSucc 0), 1, 39]), (20, [7, 3, 6], [50, 0, 1, 1040, 1, 2, 1, 0, 3, 1, 40, 1, 2]), (24, [0, 3], []), (24, [1, 4], []), (24, [2, 5], [])])]
def t_Mo_behind_ct : ct_L := []
set_option maxRecDepth 100000 in
theorem c_Mo_behind {l : Launch} {D : va_G} {kA : Nat → ClassId} : ct_ok PRD l D kA GG y_Mo_behind z_Mo_behind e_Mo_behind := chk_all_ok (FT := [(75, 13, 40), (78, 13, 41), (612, 13, 39)]) (PT := []) (CT := t_Mo_behind_ct) (KT := []) (NT := []) (AN := n_Mo_behind_an) (OT := [o_Mo_behind_0, o_Mo_behind_1, o_Mo_behind_2, o_Mo_behind_3, o_Mo_behind_4, o_Mo_behind_5, o_Mo_behind_6, o_Mo_behind_7]) 5 244 (List.forall_mem_cons.mpr ⟨oo_Mo_behind_0, List.forall_mem_cons.mpr ⟨oo_Mo_behind_1, List.forall_mem_cons.mpr ⟨oo_Mo_behind_2, List.forall_mem_cons.mpr ⟨oo_Mo_behind_3, List.forall_mem_cons.mpr ⟨oo_Mo_behind_4, List.forall_mem_cons.mpr ⟨oo_Mo_behind_5, List.forall_mem_cons.mpr ⟨oo_Mo_behind_6, List.forall_mem_cons.mpr ⟨oo_Mo_behind_7, List.forall_mem_nil _⟩⟩⟩⟩⟩⟩⟩⟩) (by decide +kernel) ⟨List.forall_mem_cons.mpr ⟨gf_Mo_75, List.forall_mem_cons.mpr ⟨gf_Mo_78, List.forall_mem_cons.mpr ⟨gf_Mo_612, List.forall_mem_nil _⟩⟩⟩, List.forall_mem_nil _, List.forall_mem_nil _, List.forall_mem_nil _, List.forall_mem_nil _, GG_pl⟩ (by decide +kernel)

set_option maxHeartbeats 4000000 in
theorem vc_Mo_bits_0_0 (x1 : Int) (pt_0 : Int → Int) (ph_0 : Int → Int) (drawnEdge_0 : Int → Int) (drawnNode_0 : Int → Int) (pieceOf_0 : Int → Int) (pm_0 : Int) (ends_0 : Int → Int) (k1 : 0 ≤ x1 ∧ x1 ≤ 0) (f0 : PCS (pm_0) (pt_0) (ph_0) (drawnEdge_0) (drawnNode_0) (pieceOf_0)) (hK_0_33 : ∀ j : Int, 0 ≤ j → j < 80 → 0 ≤ pt_0 j ∧ pt_0 j ≤ 24) (hK_0_34 : ∀ j : Int, 0 ≤ j → j < 80 → 0 ≤ ph_0 j ∧ ph_0 j ≤ 24) (hK_0_42 : ∀ j : Int, 0 ≤ j → j < 26 → 0 ≤ drawnNode_0 j ∧ drawnNode_0 j ≤ 1) (hK_0_43 : ∀ j : Int, 0 ≤ j → j < 80 → 0 ≤ drawnEdge_0 j ∧ drawnEdge_0 j ≤ 1) (hK_0_44 : ∀ j : Int, 0 ≤ j → j < 80 → (-1) ≤ pieceOf_0 j ∧ pieceOf_0 j ≤ 79) (hK_0_50 : ∀ j : Int, 0 ≤ j → j < 80 → 0 ≤ ends_0 j ∧ ends_0 j ≤ 33554431) (kz_0_32 : 0 ≤ pm_0 ∧ pm_0 ≤ 80) : EN0 (ends_0) (x1) := by
  first
    | (intro p a b; exfalso; omega)
    | (have h := ‹EN0 _ _›
       intro p a b
       by_cases q : p = x2
       · rw [q, (hE_0_50_1 x2 (by omega)).1 rfl]; omega
       · rw [(hE_0_50_1 p a).2 q]; exact h p a (by omega))
def o_Mo_bits_0 : or_T := (2, 2, [(0, (2, 0, 0, [165])), (1, (0, 0, 0, []))], [(20, [0], [60, 1, 5, 106, 32, 33, 34, 43, 42, 44])], [], [], [(20, [0, 1], [60, 0, 1, 107, 50]), (24, [0, 0], [])], [], [])
theorem oo_Mo_bits_0 {kA : Nat → ClassId} : or_ok PRD kA GG o_Mo_bits_0 := by
  refine or_mk fun A ta ws vs hD hth hl => ?_
  intro t0 r0 t1 k1 f0
  have cr_0_33 := fdq_117 hD hth r0
  have cr_0_34 := fdq_118 hD hth r0
  have cr_0_42 := fdq_136 hD hth r0
  have cr_0_43 := fdq_137 hD hth r0
  have cr_0_44 := fdq_138 hD hth r0
  have cr_0_50 := fdq_139 hD hth r0
  have hK_0_33 := elq_60 hD hth cr_0_33
  have hK_0_34 := elq_61 hD hth cr_0_34
  have hK_0_42 := elq_75 hD hth cr_0_42
  have hK_0_43 := elq_76 hD hth cr_0_43
  have hK_0_44 := elq_77 hD hth cr_0_44
  have hK_0_50 := elq_78 hD hth cr_0_50
  have kz_0_32 := fdq_140 hD hth r0
  have nf0 : fc_1 PRD (20, [0, 1], [60, 0, 1, 107, 50]) ws (vs) := ⟨nf_in hl rfl, sgq_524 (vc_Mo_bits_0_0 (v_iv (n_v vs 1)) (w_ei ws (w_ar ws (n_v vs 0) 33)) (w_ei ws (w_ar ws (n_v vs 0) 34)) (w_ei ws (w_ar ws (n_v vs 0) 43)) (w_ei ws (w_ar ws (n_v vs 0) 42)) (w_ei ws (w_ar ws (n_v vs 0) 44)) (w_fi ws (n_v vs 0) 32) (w_ei ws (w_ar ws (n_v vs 0) 50)) k1 (shm_523 f0) hK_0_33 hK_0_34 hK_0_42 hK_0_43 hK_0_44 hK_0_50 kz_0_32)⟩
  have nf1 : fc_1 PRD (24, [0, 0], []) ws (vs) := by
    refine ⟨nf_in hl rfl, sgq_1 ?_⟩
    · show n_v vs 0 = n_v vs 0
      first | rfl | simp only [true_and]
  refine ⟨(fun _ h => (by cases h)), [], trivial, ?_, (fun _ h => (by cases h))⟩
  rw [List.append_nil]
  exact List.forall_mem_cons.mpr ⟨⟨show (20 : Nat) < 100 from by decide, nf0⟩, List.forall_mem_cons.mpr ⟨⟨show (24 : Nat) < 100 from by decide, nf1⟩, (fun _ h => (by cases h))⟩⟩
set_option maxHeartbeats 4000000 in
theorem vc_Mo_bits_1_0 (x2 : Int) (x3 : Int) (x4 : Int) (pm_0 : Int) (pt_0 : Int → Int) (ph_0 : Int → Int) (drawnEdge_0 : Int → Int) (drawnNode_0 : Int → Int) (pieceOf_0 : Int → Int) (ends_0 : Int → Int) (k2 : 0 ≤ x2 ∧ x2 ≤ 80) (k3 : 0 ≤ x3 ∧ x3 ≤ 80) (k4 : 0 ≤ x4 ∧ x4 ≤ 0) (d0 : x3 + 0 ≤ x2 ∧ x2 ≤ x3 + 4294967296) (f0 : x3 ≤ x2) (g1 : x3 = pm_0) (f2 : PCS (pm_0) (pt_0) (ph_0) (drawnEdge_0) (drawnNode_0) (pieceOf_0)) (f3 : EN0 (ends_0) (x2)) (hK_0_33 : ∀ j : Int, 0 ≤ j → j < 80 → 0 ≤ pt_0 j ∧ pt_0 j ≤ 24) (hK_0_34 : ∀ j : Int, 0 ≤ j → j < 80 → 0 ≤ ph_0 j ∧ ph_0 j ≤ 24) (hK_0_42 : ∀ j : Int, 0 ≤ j → j < 26 → 0 ≤ drawnNode_0 j ∧ drawnNode_0 j ≤ 1) (hK_0_43 : ∀ j : Int, 0 ≤ j → j < 80 → 0 ≤ drawnEdge_0 j ∧ drawnEdge_0 j ≤ 1) (hK_0_44 : ∀ j : Int, 0 ≤ j → j < 80 → (-1) ≤ pieceOf_0 j ∧ pieceOf_0 j ≤ 79) (hK_0_50 : ∀ j : Int, 0 ≤ j → j < 80 → 0 ≤ ends_0 j ∧ ends_0 j ≤ 33554431) (kz_0_32 : 0 ≤ pm_0 ∧ pm_0 ≤ 80) : ENS (pm_0) (pt_0) (ph_0) (drawnEdge_0) (drawnNode_0) (pieceOf_0) (ends_0) (x4) := by
  first
    | (have h := ‹EN0 _ _›
       intro p i p0 p1 i0 i1
       rw [h p p0 (by omega)]
       exact ⟨fun z => absurd z (bit_zero i), fun ⟨f, a, b, _⟩ => by exfalso; omega⟩)
    | (first | rw [show x6 = x2 + 1 by omega] | rw [show x7 = x2 + 1 by omega]
       exact ens_skip ‹ENS _ _ _ _ _ _ _ _› (by omega))
    | (have o1 := bit_or (n := x26) (a := x22) (b := x25) (by assumption)
       have s1 := fun i (h0 : 0 ≤ i) (h1 : i < 32) => bit_shl (n := x25) (a := x23) (b := x24) (i := i) (by assumption) (by omega) (by omega) h0 h1
       have o2 := bit_or (n := x17) (a := x13) (b := x16) (by assumption)
       have s2 := fun i (h0 : 0 ≤ i) (h1 : i < 32) => bit_shl (n := x16) (a := x14) (b := x15) (i := i) (by assumption) (by omega) (by omega) h0 h1
       rw [show x27 = x2 + 1 by omega]
       skip
       have hr := pcs_rng (e := x2) ‹PCS _ _ _ _ _ _› (by omega) (by omega) (by omega)
       have v := (hE_0_50_1 (pieceOf_0 x2) (by omega)).1 rfl
       have w := (hE_0_50_2 (pieceOf_0 x2) (by omega)).1 rfl
       refine ens_step ‹ENS _ _ _ _ _ _ _ _› (by omega) (by omega) (fun p a b => by rw [(hE_0_50_1 p a).2 b, (hE_0_50_2 p a).2 b]) (fun i a b => ?_)
       rw [v, o1 i, s1 i a b, w, o2 i, s2 i a b]
       constructor
       · rintro ((z | z) | z)
         · exact Or.inl z
         · exact Or.inr (by omega)
         · exact Or.inr (by omega)
       · rintro (z | z | z)
         · exact Or.inl (Or.inl z)
         · exact Or.inl (Or.inr z.1)
         · exact Or.inr z.1)
    | (have o1 := bit_or (n := x20) (a := x16) (b := x19) (by assumption)
       have s1 := fun i (h0 : 0 ≤ i) (h1 : i < 32) => bit_shl (n := x19) (a := x17) (b := x18) (i := i) (by assumption) (by omega) (by omega) h0 h1
       rw [show x21 = x2 + 1 by omega]
       skip
       have hr := pcs_rng (e := x2) ‹PCS _ _ _ _ _ _› (by omega) (by omega) (by omega)
       have v := (hE_0_50_1 (pieceOf_0 x2) (by omega)).1 rfl
       refine ens_step ‹ENS _ _ _ _ _ _ _ _› (by omega) (by omega) (fun p a b => (hE_0_50_1 p a).2 b) (fun i a b => ?_)
       rw [v, o1 i, s1 i a b]
       refine or_congr Iff.rfl ⟨fun z => ?_, fun z => ?_⟩ <;> omega)
    | (have o1 := bit_or (n := x17) (a := x13) (b := x16) (by assumption)
       have s1 := fun i (h0 : 0 ≤ i) (h1 : i < 32) => bit_shl (n := x16) (a := x14) (b := x15) (i := i) (by assumption) (by omega) (by omega) h0 h1
       rw [show x21 = x2 + 1 by omega]
       skip
       have hr := pcs_rng (e := x2) ‹PCS _ _ _ _ _ _› (by omega) (by omega) (by omega)
       have v := (hE_0_50_1 (pieceOf_0 x2) (by omega)).1 rfl
       refine ens_step ‹ENS _ _ _ _ _ _ _ _› (by omega) (by omega) (fun p a b => (hE_0_50_1 p a).2 b) (fun i a b => ?_)
       rw [v, o1 i, s1 i a b]
       refine or_congr Iff.rfl ⟨fun z => ?_, fun z => ?_⟩ <;> omega)
    | (skip
       first | rw [show x13 = x2 + 1 by omega] | rw [show x14 = x2 + 1 by omega] | rw [show x15 = x2 + 1 by omega]
       refine ens_step ‹ENS _ _ _ _ _ _ _ _› (by omega) (by omega) (fun _ _ _ => rfl) (fun i a b => ?_)
       constructor
       · exact Or.inl
       · rintro (z | z | z)
         · exact z
         · exfalso; omega
         · exfalso; omega)
set_option maxHeartbeats 4000000 in
theorem vc_Mo_bits_1_1 (x2 : Int) (x3 : Int) (x4 : Int) (pm_0 : Int) (pt_0 : Int → Int) (ph_0 : Int → Int) (drawnEdge_0 : Int → Int) (drawnNode_0 : Int → Int) (pieceOf_0 : Int → Int) (ends_0 : Int → Int) (k2 : 0 ≤ x2 ∧ x2 ≤ 80) (k3 : 0 ≤ x3 ∧ x3 ≤ 80) (k4 : 0 ≤ x4 ∧ x4 ≤ 0) (d0 : x3 + 0 ≤ x2 ∧ x2 ≤ x3 + 4294967296) (f0 : x3 ≤ x2) (g1 : x3 = pm_0) (f2 : PCS (pm_0) (pt_0) (ph_0) (drawnEdge_0) (drawnNode_0) (pieceOf_0)) (f3 : EN0 (ends_0) (x2)) (hK_0_33 : ∀ j : Int, 0 ≤ j → j < 80 → 0 ≤ pt_0 j ∧ pt_0 j ≤ 24) (hK_0_34 : ∀ j : Int, 0 ≤ j → j < 80 → 0 ≤ ph_0 j ∧ ph_0 j ≤ 24) (hK_0_42 : ∀ j : Int, 0 ≤ j → j < 26 → 0 ≤ drawnNode_0 j ∧ drawnNode_0 j ≤ 1) (hK_0_43 : ∀ j : Int, 0 ≤ j → j < 80 → 0 ≤ drawnEdge_0 j ∧ drawnEdge_0 j ≤ 1) (hK_0_44 : ∀ j : Int, 0 ≤ j → j < 80 → (-1) ≤ pieceOf_0 j ∧ pieceOf_0 j ≤ 79) (hK_0_50 : ∀ j : Int, 0 ≤ j → j < 80 → 0 ≤ ends_0 j ∧ ends_0 j ≤ 33554431) (kz_0_32 : 0 ≤ pm_0 ∧ pm_0 ≤ 80) : 1 * x4 + ((-1) * pm_0 + 0) ≤ 0 := by
  first | omega
def o_Mo_bits_1 : or_T := (25, 5, [(0, (2, 0, 0, [165])), (2, (0, 0, 80, [])), (3, (0, 0, 80, [])), (4, (0, 0, 0, []))], [(7, [2, 3], [3]), (9, [3, 1], [32]), (20, [1], [60, 1, 5, 106, 32, 33, 34, 43, 42, 44]), (20, [1, 2], [60, 0, 1, 107, 50]), (24, [0, 1], [])], [], [], [(20, [1, 4], [60, 1, 6, 108, 32, 33, 34, 43, 42, 44, 50]), (20, [4, 1], [30, 0, 1, 0, 0, -1, 1, 32])], [], [(2, 3, 0, 4294967296)])
theorem oo_Mo_bits_1 {kA : Nat → ClassId} : or_ok PRD kA GG o_Mo_bits_1 := by
  refine or_mk fun A ta ws vs hD hth hl => ?_
  intro t0 r0 t2 k2 t3 k3 t4 k4 d0 f0 f1 f2 f3 f4
  replace f0 := shm_2 f0
  replace f1 := shm_525 f1
  replace f2 := shm_523 f2
  replace f3 := shm_524 f3
  replace f4 := shm_5 f4
  have q1 : n_v vs 1 = n_v vs 0 := f4.symm
  simp only [q1] at f1 f2 f3
  have cr_0_33 := fdq_117 hD hth r0
  have cr_0_34 := fdq_118 hD hth r0
  have cr_0_42 := fdq_136 hD hth r0
  have cr_0_43 := fdq_137 hD hth r0
  have cr_0_44 := fdq_138 hD hth r0
  have cr_0_50 := fdq_139 hD hth r0
  have g1 : v_iv (n_v vs 3) = w_fi ws (n_v vs 0) 32 := congrArg v_iv f1
  have hK_0_33 := elq_60 hD hth cr_0_33
  have hK_0_34 := elq_61 hD hth cr_0_34
  have hK_0_42 := elq_75 hD hth cr_0_42
  have hK_0_43 := elq_76 hD hth cr_0_43
  have hK_0_44 := elq_77 hD hth cr_0_44
  have hK_0_50 := elq_78 hD hth cr_0_50
  have kz_0_32 := fdq_140 hD hth r0
  have nf0 : fc_1 PRD (20, [1, 4], [60, 1, 6, 108, 32, 33, 34, 43, 42, 44, 50]) ws (vs) := by
    refine ⟨nf_in hl rfl, sgq_526 ?_⟩
    · show ENS (w_fi ws (n_v vs 1) 32) (w_ei ws (w_ar ws (n_v vs 1) 33)) (w_ei ws (w_ar ws (n_v vs 1) 34)) (w_ei ws (w_ar ws (n_v vs 1) 43)) (w_ei ws (w_ar ws (n_v vs 1) 42)) (w_ei ws (w_ar ws (n_v vs 1) 44)) (w_ei ws (w_ar ws (n_v vs 1) 50)) (v_iv (n_v vs 4))
      rw [q1]
      exact vc_Mo_bits_1_0 (v_iv (n_v vs 2)) (v_iv (n_v vs 3)) (v_iv (n_v vs 4)) (w_fi ws (n_v vs 0) 32) (w_ei ws (w_ar ws (n_v vs 0) 33)) (w_ei ws (w_ar ws (n_v vs 0) 34)) (w_ei ws (w_ar ws (n_v vs 0) 43)) (w_ei ws (w_ar ws (n_v vs 0) 42)) (w_ei ws (w_ar ws (n_v vs 0) 44)) (w_ei ws (w_ar ws (n_v vs 0) 50)) k2 k3 k4 d0 f0 g1 f2 f3 hK_0_33 hK_0_34 hK_0_42 hK_0_43 hK_0_44 hK_0_50 kz_0_32
  have nf1 : fc_1 PRD (20, [4, 1], [30, 0, 1, 0, 0, -1, 1, 32]) ws (vs) := by
    refine ⟨nf_in hl rfl, sgq_527 ?_⟩
    · show 1 * v_iv (n_v vs 4) + ((-1) * w_fi ws (n_v vs 1) 32 + 0) ≤ 0
      rw [q1]
      exact vc_Mo_bits_1_1 (v_iv (n_v vs 2)) (v_iv (n_v vs 3)) (v_iv (n_v vs 4)) (w_fi ws (n_v vs 0) 32) (w_ei ws (w_ar ws (n_v vs 0) 33)) (w_ei ws (w_ar ws (n_v vs 0) 34)) (w_ei ws (w_ar ws (n_v vs 0) 43)) (w_ei ws (w_ar ws (n_v vs 0) 42)) (w_ei ws (w_ar ws (n_v vs 0) 44)) (w_ei ws (w_ar ws (n_v vs 0) 50)) k2 k3 k4 d0 f0 g1 f2 f3 hK_0_33 hK_0_34 hK_0_42 hK_0_43 hK_0_44 hK_0_50 kz_0_32
  refine ⟨(fun _ h => (by cases h)), [], trivial, ?_, (fun _ h => (by cases h))⟩
  rw [List.append_nil]
  exact List.forall_mem_cons.mpr ⟨⟨show (20 : Nat) < 100 from by decide, nf0⟩, List.forall_mem_cons.mpr ⟨⟨show (20 : Nat) < 100 from by decide, nf1⟩, (fun _ h => (by cases h))⟩⟩
set_option maxHeartbeats 4000000 in
theorem vc_Mo_bits_2_0 (x2 : Int) (x3 : Int) (x5 : Int) (x6 : Int) (pt_0 : Int → Int) (ph_0 : Int → Int) (drawnEdge_0 : Int → Int) (drawnNode_0 : Int → Int) (pieceOf_0 : Int → Int) (pm_0 : Int) (pm_1 : Int) (pt_1 : Int → Int) (ph_1 : Int → Int) (drawnEdge_1 : Int → Int) (drawnNode_1 : Int → Int) (pieceOf_1 : Int → Int) (ends_1 : Int → Int) (ends_0 : Int → Int) (k2 : 0 ≤ x2 ∧ x2 ≤ 79) (k3 : 1 ≤ x3 ∧ x3 ≤ 80) (k5 : 0 ≤ x5 ∧ x5 ≤ 0) (k6 : 1 ≤ x6 ∧ x6 ≤ 80) (d0 : x2 + 1 ≤ x6 ∧ x6 ≤ x2 + 1) (d1 : x3 + (-4294967296) ≤ x6 ∧ x6 ≤ x3 + 0) (d2 : x3 + (-4294967296) ≤ x2 ∧ x2 ≤ x3 + (-1)) (f0 : x6 = x2 + 1) (f1 : PCS (pm_0) (pt_0) (ph_0) (drawnEdge_0) (drawnNode_0) (pieceOf_0)) (f5 : x2 < x3) (g6 : x3 = pm_1) (f7 : PCS (pm_1) (pt_1) (ph_1) (drawnEdge_1) (drawnNode_1) (pieceOf_1)) (f8 : EN0 (ends_1) (x2)) (fe_0_32_1 : pm_0 = pm_1) (hE_0_33_1 : ∀ j : Int, pt_0 j = pt_1 j) (hK_0_33 : ∀ j : Int, 0 ≤ j → j < 80 → 0 ≤ pt_0 j ∧ pt_0 j ≤ 24) (hE_0_34_1 : ∀ j : Int, ph_0 j = ph_1 j) (hK_0_34 : ∀ j : Int, 0 ≤ j → j < 80 → 0 ≤ ph_0 j ∧ ph_0 j ≤ 24) (hE_0_42_1 : ∀ j : Int, drawnNode_0 j = drawnNode_1 j) (hK_0_42 : ∀ j : Int, 0 ≤ j → j < 26 → 0 ≤ drawnNode_0 j ∧ drawnNode_0 j ≤ 1) (hE_0_43_1 : ∀ j : Int, drawnEdge_0 j = drawnEdge_1 j) (hK_0_43 : ∀ j : Int, 0 ≤ j → j < 80 → 0 ≤ drawnEdge_0 j ∧ drawnEdge_0 j ≤ 1) (hE_0_44_1 : ∀ j : Int, pieceOf_0 j = pieceOf_1 j) (hK_0_44 : ∀ j : Int, 0 ≤ j → j < 80 → (-1) ≤ pieceOf_0 j ∧ pieceOf_0 j ≤ 79) (hE_0_50_1 : ∀ j : Int, 0 ≤ j → (j = x2 → ends_0 j = x5) ∧ (j ≠ x2 → ends_0 j = ends_1 j)) (hK_0_50 : ∀ j : Int, 0 ≤ j → j < 80 → 0 ≤ ends_0 j ∧ ends_0 j ≤ 33554431) (kz_0_32 : 0 ≤ pm_0 ∧ pm_0 ≤ 80) : EN0 (ends_0) (x6) := by
  subst fe_0_32_1
  have e_hE_0_33_1 := funext hE_0_33_1; subst e_hE_0_33_1
  have e_hE_0_34_1 := funext hE_0_34_1; subst e_hE_0_34_1
  have e_hE_0_42_1 := funext hE_0_42_1; subst e_hE_0_42_1
  have e_hE_0_43_1 := funext hE_0_43_1; subst e_hE_0_43_1
  have e_hE_0_44_1 := funext hE_0_44_1; subst e_hE_0_44_1
  first
    | (intro p a b; exfalso; omega)
    | (have h := ‹EN0 _ _›
       intro p a b
       by_cases q : p = x2
       · rw [q, (hE_0_50_1 x2 (by omega)).1 rfl]; omega
       · rw [(hE_0_50_1 p a).2 q]; exact h p a (by omega))
def o_Mo_bits_2 : or_T := (2, 7, [(0, (2, 0, 0, [165])), (2, (0, 0, 79, [])), (3, (0, 1, 80, [])), (4, (2, 0, 0, [193])), (5, (0, 0, 0, [])), (6, (0, 1, 80, []))], [(6, [6, 2], [1]), (20, [1], [60, 1, 5, 106, 32, 33, 34, 43, 42, 44]), (24, [0, 1], []), (100, [4, 2, 5], []), (9, [4, 1], [50]), (7, [2, 3], [2]), (9, [3, 1], [32]), (20, [1], [60, 1, 5, 106, 32, 33, 34, 43, 42, 44]), (20, [1, 2], [60, 0, 1, 107, 50])], [], [], [(20, [1, 6], [60, 0, 1, 107, 50])], [], [(6, 2, 1, 1), (6, 3, -4294967296, 0), (2, 3, -4294967296, -1)])
theorem oo_Mo_bits_2 {kA : Nat → ClassId} : or_ok PRD kA GG o_Mo_bits_2 := by
  refine or_mk fun A ta ws vs hD hth hl => ?_
  intro t0 r0 t2 k2 t3 k3 t4 r4 t5 k5 t6 k6 d0 d1 d2 f0 f1 f2 ta1 w1 le1 s1 f4 f5 f6 f7 f8
  replace f0 := shm_4 f0
  replace f1 := shm_523 f1
  replace f2 := shm_5 f2
  have s1 : (∀ b j, w_el ws b j = if b = v_ad (n_v vs 4) ∧ j = (v_iv (n_v vs 2)).toNat then v_iv (n_v vs 5) else w_el w1 b j) ∧ ∀ b k, w_fd ws b k = w_fd w1 b k := s1.2
  replace f4 := shm_528 f4
  replace f5 := shm_6 f5
  replace f6 := shm_525 f6
  replace f7 := shm_523 f7
  replace f8 := shm_524 f8
  have q1 : n_v vs 1 = n_v vs 0 := f2.symm
  simp only [q1] at f1 f4 f6 f7 f8
  have ar_0_33_1 : w_ar w1 (n_v vs 0) 33 = w_ar ws (n_v vs 0) 33 := congrArg v_ad (s1.2 _ _).symm
  have cr_0_33 := fdq_117 hD hth r0
  have ar_0_34_1 : w_ar w1 (n_v vs 0) 34 = w_ar ws (n_v vs 0) 34 := congrArg v_ad (s1.2 _ _).symm
  have cr_0_34 := fdq_118 hD hth r0
  have ar_0_42_1 : w_ar w1 (n_v vs 0) 42 = w_ar ws (n_v vs 0) 42 := congrArg v_ad (s1.2 _ _).symm
  have cr_0_42 := fdq_136 hD hth r0
  have ar_0_43_1 : w_ar w1 (n_v vs 0) 43 = w_ar ws (n_v vs 0) 43 := congrArg v_ad (s1.2 _ _).symm
  have cr_0_43 := fdq_137 hD hth r0
  have ar_0_44_1 : w_ar w1 (n_v vs 0) 44 = w_ar ws (n_v vs 0) 44 := congrArg v_ad (s1.2 _ _).symm
  have cr_0_44 := fdq_138 hD hth r0
  have ar_0_50_1 : w_ar w1 (n_v vs 0) 50 = w_ar ws (n_v vs 0) 50 := congrArg v_ad (s1.2 _ _).symm
  have cr_0_50 := fdq_139 hD hth r0
  have ad_4 : v_ad (n_v vs 4) = w_ar ws (n_v vs 0) 50 := (congrArg v_ad f4).trans ar_0_50_1
  have g6 : v_iv (n_v vs 3) = w_fi w1 (n_v vs 0) 32 := congrArg v_iv f6
  simp only [ar_0_33_1, ar_0_34_1, ar_0_42_1, ar_0_43_1, ar_0_44_1, ar_0_50_1] at f7 f8
  have fe_0_32_1 : w_fi ws (n_v vs 0) 32 = w_fi w1 (n_v vs 0) 32 := congrArg v_iv (s1.2 _ _)
  have hE_0_33_1 : ∀ j : Int, w_ei ws (w_ar ws (n_v vs 0) 33) j = w_ei w1 (w_ar ws (n_v vs 0) 33) j := el_kp s1.1 r4 cr_0_33 (by decide)
  have hK_0_33 := elq_60 hD hth cr_0_33
  have hE_0_34_1 : ∀ j : Int, w_ei ws (w_ar ws (n_v vs 0) 34) j = w_ei w1 (w_ar ws (n_v vs 0) 34) j := el_kp s1.1 r4 cr_0_34 (by decide)
  have hK_0_34 := elq_61 hD hth cr_0_34
  have hE_0_42_1 : ∀ j : Int, w_ei ws (w_ar ws (n_v vs 0) 42) j = w_ei w1 (w_ar ws (n_v vs 0) 42) j := el_kp s1.1 r4 cr_0_42 (by decide)
  have hK_0_42 := elq_75 hD hth cr_0_42
  have hE_0_43_1 : ∀ j : Int, w_ei ws (w_ar ws (n_v vs 0) 43) j = w_ei w1 (w_ar ws (n_v vs 0) 43) j := el_kp s1.1 r4 cr_0_43 (by decide)
  have hK_0_43 := elq_76 hD hth cr_0_43
  have hE_0_44_1 : ∀ j : Int, w_ei ws (w_ar ws (n_v vs 0) 44) j = w_ei w1 (w_ar ws (n_v vs 0) 44) j := el_kp s1.1 r4 cr_0_44 (by decide)
  have hK_0_44 := elq_77 hD hth cr_0_44
  have hE_0_50_1 : ∀ j : Int, 0 ≤ j → (j = v_iv (n_v vs 2) → w_ei ws (w_ar ws (n_v vs 0) 50) j = v_iv (n_v vs 5)) ∧ (j ≠ v_iv (n_v vs 2) → w_ei ws (w_ar ws (n_v vs 0) 50) j = w_ei w1 (w_ar ws (n_v vs 0) 50) j) := fun j hj => ⟨fun h => by unfold w_ei; rw [s1.1, if_pos ⟨ad_4.symm, by rw [h]⟩], fun h => by unfold w_ei; rw [s1.1, if_neg (fun e => h (by have := e.2; omega))]⟩
  have hK_0_50 := elq_78 hD hth cr_0_50
  have kz_0_32 := fdq_140 hD hth r0
  have nf0 : fc_1 PRD (20, [1, 6], [60, 0, 1, 107, 50]) ws (vs) := by
    refine ⟨nf_in hl rfl, sgq_524 ?_⟩
    · show EN0 (w_ei ws (w_ar ws (n_v vs 1) 50)) (v_iv (n_v vs 6))
      rw [q1]
      exact vc_Mo_bits_2_0 (v_iv (n_v vs 2)) (v_iv (n_v vs 3)) (v_iv (n_v vs 5)) (v_iv (n_v vs 6)) (w_ei ws (w_ar ws (n_v vs 0) 33)) (w_ei ws (w_ar ws (n_v vs 0) 34)) (w_ei ws (w_ar ws (n_v vs 0) 43)) (w_ei ws (w_ar ws (n_v vs 0) 42)) (w_ei ws (w_ar ws (n_v vs 0) 44)) (w_fi ws (n_v vs 0) 32) (w_fi w1 (n_v vs 0) 32) (w_ei w1 (w_ar ws (n_v vs 0) 33)) (w_ei w1 (w_ar ws (n_v vs 0) 34)) (w_ei w1 (w_ar ws (n_v vs 0) 43)) (w_ei w1 (w_ar ws (n_v vs 0) 42)) (w_ei w1 (w_ar ws (n_v vs 0) 44)) (w_ei w1 (w_ar ws (n_v vs 0) 50)) (w_ei ws (w_ar ws (n_v vs 0) 50)) k2 k3 k5 k6 d0 d1 d2 f0 f1 f5 g6 f7 f8 fe_0_32_1 hE_0_33_1 hK_0_33 hE_0_34_1 hK_0_34 hE_0_42_1 hK_0_42 hE_0_43_1 hK_0_43 hE_0_44_1 hK_0_44 hE_0_50_1 hK_0_50 kz_0_32
  refine ⟨(fun _ h => (by cases h)), [], trivial, ?_, (fun _ h => (by cases h))⟩
  rw [List.append_nil]
  exact List.forall_mem_cons.mpr ⟨⟨show (20 : Nat) < 100 from by decide, nf0⟩, (fun _ h => (by cases h))⟩
set_option maxHeartbeats 4000000 in
theorem vc_Mo_bits_3_0 (x2 : Int) (x3 : Int) (x4 : Int) (pm_0 : Int) (pt_0 : Int → Int) (ph_0 : Int → Int) (drawnEdge_0 : Int → Int) (drawnNode_0 : Int → Int) (pieceOf_0 : Int → Int) (ends_0 : Int → Int) (faceMany_0 : Int → Int) (face_0 : Int → Int) (faceNodes_0 : Int → Int) (k2 : 0 ≤ x2 ∧ x2 ≤ 80) (k3 : 0 ≤ x3 ∧ x3 ≤ 80) (k4 : 0 ≤ x4 ∧ x4 ≤ 0) (d0 : x3 + 0 ≤ x2 ∧ x2 ≤ x3 + 4294967296) (f0 : x3 ≤ x2) (g1 : x3 = pm_0) (f2 : PCS (pm_0) (pt_0) (ph_0) (drawnEdge_0) (drawnNode_0) (pieceOf_0)) (f3 : ENS (pm_0) (pt_0) (ph_0) (drawnEdge_0) (drawnNode_0) (pieceOf_0) (ends_0) (x2)) (f4 : 1 * x2 + ((-1) * pm_0 + 0) ≤ 0) (hK_0_33 : ∀ j : Int, 0 ≤ j → j < 80 → 0 ≤ pt_0 j ∧ pt_0 j ≤ 24) (hK_0_34 : ∀ j : Int, 0 ≤ j → j < 80 → 0 ≤ ph_0 j ∧ ph_0 j ≤ 24) (hK_0_40 : ∀ j : Int, 0 ≤ j → j < 120 → 0 ≤ faceMany_0 j ∧ faceMany_0 j ≤ 60) (hK_0_41 : ∀ j : Int, 0 ≤ j → j < 7200 → 0 ≤ face_0 j ∧ face_0 j ≤ 24) (hK_0_42 : ∀ j : Int, 0 ≤ j → j < 26 → 0 ≤ drawnNode_0 j ∧ drawnNode_0 j ≤ 1) (hK_0_43 : ∀ j : Int, 0 ≤ j → j < 80 → 0 ≤ drawnEdge_0 j ∧ drawnEdge_0 j ≤ 1) (hK_0_44 : ∀ j : Int, 0 ≤ j → j < 80 → (-1) ≤ pieceOf_0 j ∧ pieceOf_0 j ≤ 79) (hK_0_50 : ∀ j : Int, 0 ≤ j → j < 80 → 0 ≤ ends_0 j ∧ ends_0 j ≤ 33554431) (hK_0_51 : ∀ j : Int, 0 ≤ j → j < 120 → 0 ≤ faceNodes_0 j ∧ faceNodes_0 j ≤ 33554431) (kz_0_32 : 0 ≤ pm_0 ∧ pm_0 ≤ 80) : END (pm_0) (pt_0) (ph_0) (drawnEdge_0) (drawnNode_0) (pieceOf_0) (ends_0) := by
  first
    | assumption
    | (have h := ‹ENS _ _ _ _ _ _ _ _›; rw [show x2 = pm_0 by omega] at h; exact h)
set_option maxHeartbeats 4000000 in
theorem vc_Mo_bits_3_1 (x2 : Int) (x3 : Int) (x4 : Int) (pm_0 : Int) (pt_0 : Int → Int) (ph_0 : Int → Int) (drawnEdge_0 : Int → Int) (drawnNode_0 : Int → Int) (pieceOf_0 : Int → Int) (ends_0 : Int → Int) (faceMany_0 : Int → Int) (face_0 : Int → Int) (faceNodes_0 : Int → Int) (k2 : 0 ≤ x2 ∧ x2 ≤ 80) (k3 : 0 ≤ x3 ∧ x3 ≤ 80) (k4 : 0 ≤ x4 ∧ x4 ≤ 0) (d0 : x3 + 0 ≤ x2 ∧ x2 ≤ x3 + 4294967296) (f0 : x3 ≤ x2) (g1 : x3 = pm_0) (f2 : PCS (pm_0) (pt_0) (ph_0) (drawnEdge_0) (drawnNode_0) (pieceOf_0)) (f3 : ENS (pm_0) (pt_0) (ph_0) (drawnEdge_0) (drawnNode_0) (pieceOf_0) (ends_0) (x2)) (f4 : 1 * x2 + ((-1) * pm_0 + 0) ≤ 0) (hK_0_33 : ∀ j : Int, 0 ≤ j → j < 80 → 0 ≤ pt_0 j ∧ pt_0 j ≤ 24) (hK_0_34 : ∀ j : Int, 0 ≤ j → j < 80 → 0 ≤ ph_0 j ∧ ph_0 j ≤ 24) (hK_0_40 : ∀ j : Int, 0 ≤ j → j < 120 → 0 ≤ faceMany_0 j ∧ faceMany_0 j ≤ 60) (hK_0_41 : ∀ j : Int, 0 ≤ j → j < 7200 → 0 ≤ face_0 j ∧ face_0 j ≤ 24) (hK_0_42 : ∀ j : Int, 0 ≤ j → j < 26 → 0 ≤ drawnNode_0 j ∧ drawnNode_0 j ≤ 1) (hK_0_43 : ∀ j : Int, 0 ≤ j → j < 80 → 0 ≤ drawnEdge_0 j ∧ drawnEdge_0 j ≤ 1) (hK_0_44 : ∀ j : Int, 0 ≤ j → j < 80 → (-1) ≤ pieceOf_0 j ∧ pieceOf_0 j ≤ 79) (hK_0_50 : ∀ j : Int, 0 ≤ j → j < 80 → 0 ≤ ends_0 j ∧ ends_0 j ≤ 33554431) (hK_0_51 : ∀ j : Int, 0 ≤ j → j < 120 → 0 ≤ faceNodes_0 j ∧ faceNodes_0 j ≤ 33554431) (kz_0_32 : 0 ≤ pm_0 ∧ pm_0 ≤ 80) : FCN (faceMany_0) (face_0) (faceNodes_0) (x4) := by
  first
    | (intro g i a b; exfalso; omega)
    | (have h := ‹FCN _ _ _ _›
       have k := ‹FCK _ _ _ _›
       have kb := ‹FCB _ _ _›
       intro g i a b c d
       by_cases q : g = x2
       · rw [q, k i c d]
         unfold FCB at kb
         exact ⟨fun ⟨j, j0, j1, j2⟩ => ⟨j, j0, by omega, j2⟩, fun ⟨j, j0, j1, j2⟩ => ⟨j, j0, by omega, j2⟩⟩
       · exact h g i a (by omega) c d)
def o_Mo_bits_3 : or_T := (125, 5, [(0, (2, 0, 0, [165])), (2, (0, 0, 80, [])), (3, (0, 0, 80, [])), (4, (0, 0, 0, []))], [(7, [2, 3], [3]), (9, [3, 1], [32]), (20, [1], [60, 1, 5, 106, 32, 33, 34, 43, 42, 44]), (20, [1, 2], [60, 1, 6, 108, 32, 33, 34, 43, 42, 44, 50]), (20, [2, 1], [30, 0, 1, 0, 0, -1, 1, 32]), (24, [0, 1], [])], [], [], [(20, [1], [60, 1, 6, 109, 32, 33, 34, 43, 42, 44, 50]), (20, [1, 4], [60, 0, 3, 110, 40, 41, 51])], [], [(2, 3, 0, 4294967296)])
theorem oo_Mo_bits_3 {kA : Nat → ClassId} : or_ok PRD kA GG o_Mo_bits_3 := by
  refine or_mk fun A ta ws vs hD hth hl => ?_
  intro t0 r0 t2 k2 t3 k3 t4 k4 d0 f0 f1 f2 f3 f4 f5
  replace f0 := shm_2 f0
  replace f1 := shm_525 f1
  replace f2 := shm_523 f2
  replace f3 := shm_526 f3
  replace f4 := shm_527 f4
  replace f5 := shm_5 f5
  have q1 : n_v vs 1 = n_v vs 0 := f5.symm
  simp only [q1] at f1 f2 f3 f4
  have cr_0_33 := fdq_117 hD hth r0
  have cr_0_34 := fdq_118 hD hth r0
  have cr_0_40 := fdq_133 hD hth r0
  have cr_0_41 := fdq_134 hD hth r0
  have cr_0_42 := fdq_136 hD hth r0
  have cr_0_43 := fdq_137 hD hth r0
  have cr_0_44 := fdq_138 hD hth r0
  have cr_0_50 := fdq_139 hD hth r0
  have cr_0_51 := fdq_141 hD hth r0
  have g1 : v_iv (n_v vs 3) = w_fi ws (n_v vs 0) 32 := congrArg v_iv f1
  have hK_0_33 := elq_60 hD hth cr_0_33
  have hK_0_34 := elq_61 hD hth cr_0_34
  have hK_0_40 := elq_73 hD hth cr_0_40
  have hK_0_41 := elq_74 hD hth cr_0_41
  have hK_0_42 := elq_75 hD hth cr_0_42
  have hK_0_43 := elq_76 hD hth cr_0_43
  have hK_0_44 := elq_77 hD hth cr_0_44
  have hK_0_50 := elq_78 hD hth cr_0_50
  have hK_0_51 := elq_79 hD hth cr_0_51
  have kz_0_32 := fdq_140 hD hth r0
  have nf0 : fc_1 PRD (20, [1], [60, 1, 6, 109, 32, 33, 34, 43, 42, 44, 50]) ws (vs) := by
    refine ⟨nf_in hl rfl, sgq_529 ?_⟩
    · show END (w_fi ws (n_v vs 1) 32) (w_ei ws (w_ar ws (n_v vs 1) 33)) (w_ei ws (w_ar ws (n_v vs 1) 34)) (w_ei ws (w_ar ws (n_v vs 1) 43)) (w_ei ws (w_ar ws (n_v vs 1) 42)) (w_ei ws (w_ar ws (n_v vs 1) 44)) (w_ei ws (w_ar ws (n_v vs 1) 50))
      rw [q1]
      exact vc_Mo_bits_3_0 (v_iv (n_v vs 2)) (v_iv (n_v vs 3)) (v_iv (n_v vs 4)) (w_fi ws (n_v vs 0) 32) (w_ei ws (w_ar ws (n_v vs 0) 33)) (w_ei ws (w_ar ws (n_v vs 0) 34)) (w_ei ws (w_ar ws (n_v vs 0) 43)) (w_ei ws (w_ar ws (n_v vs 0) 42)) (w_ei ws (w_ar ws (n_v vs 0) 44)) (w_ei ws (w_ar ws (n_v vs 0) 50)) (w_ei ws (w_ar ws (n_v vs 0) 40)) (w_ei ws (w_ar ws (n_v vs 0) 41)) (w_ei ws (w_ar ws (n_v vs 0) 51)) k2 k3 k4 d0 f0 g1 f2 f3 f4 hK_0_33 hK_0_34 hK_0_40 hK_0_41 hK_0_42 hK_0_43 hK_0_44 hK_0_50 hK_0_51 kz_0_32
  have nf1 : fc_1 PRD (20, [1, 4], [60, 0, 3, 110, 40, 41, 51]) ws (vs) := by
    refine ⟨nf_in hl rfl, sgq_530 ?_⟩
    · show FCN (w_ei ws (w_ar ws (n_v vs 1) 40)) (w_ei ws (w_ar ws (n_v vs 1) 41)) (w_ei ws (w_ar ws (n_v vs 1) 51)) (v_iv (n_v vs 4))
      rw [q1]
      exact vc_Mo_bits_3_1 (v_iv (n_v vs 2)) (v_iv (n_v vs 3)) (v_iv (n_v vs 4)) (w_fi ws (n_v vs 0) 32) (w_ei ws (w_ar ws (n_v vs 0) 33)) (w_ei ws (w_ar ws (n_v vs 0) 34)) (w_ei ws (w_ar ws (n_v vs 0) 43)) (w_ei ws (w_ar ws (n_v vs 0) 42)) (w_ei ws (w_ar ws (n_v vs 0) 44)) (w_ei ws (w_ar ws (n_v vs 0) 50)) (w_ei ws (w_ar ws (n_v vs 0) 40)) (w_ei ws (w_ar ws (n_v vs 0) 41)) (w_ei ws (w_ar ws (n_v vs 0) 51)) k2 k3 k4 d0 f0 g1 f2 f3 f4 hK_0_33 hK_0_34 hK_0_40 hK_0_41 hK_0_42 hK_0_43 hK_0_44 hK_0_50 hK_0_51 kz_0_32
  refine ⟨(fun _ h => (by cases h)), [], trivial, ?_, (fun _ h => (by cases h))⟩
  rw [List.append_nil]
  exact List.forall_mem_cons.mpr ⟨⟨show (20 : Nat) < 100 from by decide, nf0⟩, List.forall_mem_cons.mpr ⟨⟨show (20 : Nat) < 100 from by decide, nf1⟩, (fun _ h => (by cases h))⟩⟩
set_option maxHeartbeats 4000000 in
theorem vc_Mo_bits_4_0 (x2 : Int) (x3 : Int) (x5 : Int) (x8 : Int) (x9 : Int) (x11 : Int) (x12 : Int) (x13 : Int) (drawnNode_0 : Int → Int) (ph_0 : Int → Int) (pt_0 : Int → Int) (drawnEdge_0 : Int → Int) (pm_0 : Int) (pieceOf_0 : Int → Int) (ends_0 : Int → Int) (k2 : 0 ≤ x2 ∧ x2 ≤ 79) (k3 : 1 ≤ x3 ∧ x3 ≤ 80) (k5 : 0 ≤ x5 ∧ x5 ≤ 0) (k8 : 0 ≤ x8 ∧ x8 ≤ 24) (k9 : 0 ≤ x9 ∧ x9 ≤ 0) (k11 : 0 ≤ x11 ∧ x11 ≤ 24) (k12 : 0 ≤ x12 ∧ x12 ≤ 0) (k13 : 1 ≤ x13 ∧ x13 ≤ 80) (d0 : x2 + 1 ≤ x13 ∧ x13 ≤ x2 + 1) (d1 : x3 + (-4294967296) ≤ x13 ∧ x13 ≤ x3 + 0) (d2 : x3 + (-4294967296) ≤ x2 ∧ x2 ≤ x3 + (-1)) (f0 : x13 = x2 + 1) (f1 : x12 = 0) (h2 : x12 = drawnNode_0 (x11)) (h3 : x11 = ph_0 (x2)) (f6 : x9 = 0) (h7 : x9 = drawnNode_0 (x8)) (h8 : x8 = pt_0 (x2)) (f10 : x5 = 0) (h11 : x5 = drawnEdge_0 (x2)) (f13 : x2 < x3) (g14 : x3 = pm_0) (f15 : PCS (pm_0) (pt_0) (ph_0) (drawnEdge_0) (drawnNode_0) (pieceOf_0)) (f16 : ENS (pm_0) (pt_0) (ph_0) (drawnEdge_0) (drawnNode_0) (pieceOf_0) (ends_0) (x2)) (f17 : 1 * x2 + ((-1) * pm_0 + 0) ≤ 0) (hK_0_33 : ∀ j : Int, 0 ≤ j → j < 80 → 0 ≤ pt_0 j ∧ pt_0 j ≤ 24) (hK_0_34 : ∀ j : Int, 0 ≤ j → j < 80 → 0 ≤ ph_0 j ∧ ph_0 j ≤ 24) (hK_0_42 : ∀ j : Int, 0 ≤ j → j < 26 → 0 ≤ drawnNode_0 j ∧ drawnNode_0 j ≤ 1) (hK_0_43 : ∀ j : Int, 0 ≤ j → j < 80 → 0 ≤ drawnEdge_0 j ∧ drawnEdge_0 j ≤ 1) (hK_0_44 : ∀ j : Int, 0 ≤ j → j < 80 → (-1) ≤ pieceOf_0 j ∧ pieceOf_0 j ≤ 79) (hK_0_50 : ∀ j : Int, 0 ≤ j → j < 80 → 0 ≤ ends_0 j ∧ ends_0 j ≤ 33554431) (kz_0_32 : 0 ≤ pm_0 ∧ pm_0 ≤ 80) : ENS (pm_0) (pt_0) (ph_0) (drawnEdge_0) (drawnNode_0) (pieceOf_0) (ends_0) (x13) := by
  first
    | (have h := ‹EN0 _ _›
       intro p i p0 p1 i0 i1
       rw [h p p0 (by omega)]
       exact ⟨fun z => absurd z (bit_zero i), fun ⟨f, a, b, _⟩ => by exfalso; omega⟩)
    | (first | rw [show x6 = x2 + 1 by omega] | rw [show x7 = x2 + 1 by omega]
       exact ens_skip ‹ENS _ _ _ _ _ _ _ _› (by omega))
    | (have o1 := bit_or (n := x26) (a := x22) (b := x25) (by assumption)
       have s1 := fun i (h0 : 0 ≤ i) (h1 : i < 32) => bit_shl (n := x25) (a := x23) (b := x24) (i := i) (by assumption) (by omega) (by omega) h0 h1
       have o2 := bit_or (n := x17) (a := x13) (b := x16) (by assumption)
       have s2 := fun i (h0 : 0 ≤ i) (h1 : i < 32) => bit_shl (n := x16) (a := x14) (b := x15) (i := i) (by assumption) (by omega) (by omega) h0 h1
       rw [show x27 = x2 + 1 by omega]
       skip; (first | subst h2 | skip); (first | subst h3 | skip); (first | subst h7 | skip); (first | subst h8 | skip); (first | subst h11 | skip)
       have hr := pcs_rng (e := x2) ‹PCS _ _ _ _ _ _› (by omega) (by omega) (by omega)
       have v := (hE_0_50_1 (pieceOf_0 x2) (by omega)).1 rfl
       have w := (hE_0_50_2 (pieceOf_0 x2) (by omega)).1 rfl
       refine ens_step ‹ENS _ _ _ _ _ _ _ _› (by omega) (by omega) (fun p a b => by rw [(hE_0_50_1 p a).2 b, (hE_0_50_2 p a).2 b]) (fun i a b => ?_)
       rw [v, o1 i, s1 i a b, w, o2 i, s2 i a b]
       constructor
       · rintro ((z | z) | z)
         · exact Or.inl z
         · exact Or.inr (by omega)
         · exact Or.inr (by omega)
       · rintro (z | z | z)
         · exact Or.inl (Or.inl z)
         · exact Or.inl (Or.inr z.1)
         · exact Or.inr z.1)
    | (have o1 := bit_or (n := x20) (a := x16) (b := x19) (by assumption)
       have s1 := fun i (h0 : 0 ≤ i) (h1 : i < 32) => bit_shl (n := x19) (a := x17) (b := x18) (i := i) (by assumption) (by omega) (by omega) h0 h1
       rw [show x21 = x2 + 1 by omega]
       skip; (first | subst h2 | skip); (first | subst h3 | skip); (first | subst h7 | skip); (first | subst h8 | skip); (first | subst h11 | skip)
       have hr := pcs_rng (e := x2) ‹PCS _ _ _ _ _ _› (by omega) (by omega) (by omega)
       have v := (hE_0_50_1 (pieceOf_0 x2) (by omega)).1 rfl
       refine ens_step ‹ENS _ _ _ _ _ _ _ _› (by omega) (by omega) (fun p a b => (hE_0_50_1 p a).2 b) (fun i a b => ?_)
       rw [v, o1 i, s1 i a b]
       refine or_congr Iff.rfl ⟨fun z => ?_, fun z => ?_⟩ <;> omega)
    | (have o1 := bit_or (n := x17) (a := x13) (b := x16) (by assumption)
       have s1 := fun i (h0 : 0 ≤ i) (h1 : i < 32) => bit_shl (n := x16) (a := x14) (b := x15) (i := i) (by assumption) (by omega) (by omega) h0 h1
       rw [show x21 = x2 + 1 by omega]
       skip; (first | subst h2 | skip); (first | subst h3 | skip); (first | subst h7 | skip); (first | subst h8 | skip); (first | subst h11 | skip)
       have hr := pcs_rng (e := x2) ‹PCS _ _ _ _ _ _› (by omega) (by omega) (by omega)
       have v := (hE_0_50_1 (pieceOf_0 x2) (by omega)).1 rfl
       refine ens_step ‹ENS _ _ _ _ _ _ _ _› (by omega) (by omega) (fun p a b => (hE_0_50_1 p a).2 b) (fun i a b => ?_)
       rw [v, o1 i, s1 i a b]
       refine or_congr Iff.rfl ⟨fun z => ?_, fun z => ?_⟩ <;> omega)
    | (skip; (first | subst h2 | skip); (first | subst h3 | skip); (first | subst h7 | skip); (first | subst h8 | skip); (first | subst h11 | skip)
       first | rw [show x13 = x2 + 1 by omega] | rw [show x14 = x2 + 1 by omega] | rw [show x15 = x2 + 1 by omega]
       refine ens_step ‹ENS _ _ _ _ _ _ _ _› (by omega) (by omega) (fun _ _ _ => rfl) (fun i a b => ?_)
       constructor
       · exact Or.inl
       · rintro (z | z | z)
         · exact z
         · exfalso; omega
         · exfalso; omega)
set_option maxHeartbeats 4000000 in
theorem vc_Mo_bits_4_1 (x2 : Int) (x3 : Int) (x5 : Int) (x8 : Int) (x9 : Int) (x11 : Int) (x12 : Int) (x13 : Int) (drawnNode_0 : Int → Int) (ph_0 : Int → Int) (pt_0 : Int → Int) (drawnEdge_0 : Int → Int) (pm_0 : Int) (pieceOf_0 : Int → Int) (ends_0 : Int → Int) (k2 : 0 ≤ x2 ∧ x2 ≤ 79) (k3 : 1 ≤ x3 ∧ x3 ≤ 80) (k5 : 0 ≤ x5 ∧ x5 ≤ 0) (k8 : 0 ≤ x8 ∧ x8 ≤ 24) (k9 : 0 ≤ x9 ∧ x9 ≤ 0) (k11 : 0 ≤ x11 ∧ x11 ≤ 24) (k12 : 0 ≤ x12 ∧ x12 ≤ 0) (k13 : 1 ≤ x13 ∧ x13 ≤ 80) (d0 : x2 + 1 ≤ x13 ∧ x13 ≤ x2 + 1) (d1 : x3 + (-4294967296) ≤ x13 ∧ x13 ≤ x3 + 0) (d2 : x3 + (-4294967296) ≤ x2 ∧ x2 ≤ x3 + (-1)) (f0 : x13 = x2 + 1) (f1 : x12 = 0) (h2 : x12 = drawnNode_0 (x11)) (h3 : x11 = ph_0 (x2)) (f6 : x9 = 0) (h7 : x9 = drawnNode_0 (x8)) (h8 : x8 = pt_0 (x2)) (f10 : x5 = 0) (h11 : x5 = drawnEdge_0 (x2)) (f13 : x2 < x3) (g14 : x3 = pm_0) (f15 : PCS (pm_0) (pt_0) (ph_0) (drawnEdge_0) (drawnNode_0) (pieceOf_0)) (f16 : ENS (pm_0) (pt_0) (ph_0) (drawnEdge_0) (drawnNode_0) (pieceOf_0) (ends_0) (x2)) (f17 : 1 * x2 + ((-1) * pm_0 + 0) ≤ 0) (hK_0_33 : ∀ j : Int, 0 ≤ j → j < 80 → 0 ≤ pt_0 j ∧ pt_0 j ≤ 24) (hK_0_34 : ∀ j : Int, 0 ≤ j → j < 80 → 0 ≤ ph_0 j ∧ ph_0 j ≤ 24) (hK_0_42 : ∀ j : Int, 0 ≤ j → j < 26 → 0 ≤ drawnNode_0 j ∧ drawnNode_0 j ≤ 1) (hK_0_43 : ∀ j : Int, 0 ≤ j → j < 80 → 0 ≤ drawnEdge_0 j ∧ drawnEdge_0 j ≤ 1) (hK_0_44 : ∀ j : Int, 0 ≤ j → j < 80 → (-1) ≤ pieceOf_0 j ∧ pieceOf_0 j ≤ 79) (hK_0_50 : ∀ j : Int, 0 ≤ j → j < 80 → 0 ≤ ends_0 j ∧ ends_0 j ≤ 33554431) (kz_0_32 : 0 ≤ pm_0 ∧ pm_0 ≤ 80) : 1 * x13 + ((-1) * pm_0 + 0) ≤ 0 := by
  first | omega
def o_Mo_bits_4 : or_T := (25, 14, [(0, (2, 0, 0, [165])), (2, (0, 0, 79, [])), (3, (0, 1, 80, [])), (5, (0, 0, 0, [])), (8, (0, 0, 24, [])), (9, (0, 0, 0, [])), (11, (0, 0, 24, [])), (12, (0, 0, 0, [])), (13, (0, 1, 80, []))], [(6, [13, 2], [1]), (8, [12], [0]), (10, [12, 6, 11], []), (10, [11, 10, 2], []), (9, [10, 1], [34]), (9, [6, 1], [42]), (8, [9], [0]), (10, [9, 6, 8], []), (10, [8, 7, 2], []), (9, [7, 1], [33]), (8, [5], [0]), (10, [5, 4, 2], []), (9, [4, 1], [43]), (7, [2, 3], [2]), (9, [3, 1], [32]), (20, [1], [60, 1, 5, 106, 32, 33, 34, 43, 42, 44]), (20, [1, 2], [60, 1, 6, 108, 32, 33, 34, 43, 42, 44, 50]), (20, [2, 1], [30, 0, 1, 0, 0, -1, 1, 32]), (24, [0, 1], [])], [], [], [(20, [1, 13], [60, 1, 6, 108, 32, 33, 34, 43, 42, 44, 50]), (20, [13, 1], [30, 0, 1, 0, 0, -1, 1, 32])], [], [(13, 2, 1, 1), (13, 3, -4294967296, 0), (2, 3, -4294967296, -1)])
theorem oo_Mo_bits_4 {kA : Nat → ClassId} : or_ok PRD kA GG o_Mo_bits_4 := by
  refine or_mk fun A ta ws vs hD hth hl => ?_
  intro t0 r0 t2 k2 t3 k3 t5 k5 t8 k8 t9 k9 t11 k11 t12 k12 t13 k13 d0 d1 d2 f0 f1 f2 f3 f4 f5 f6 f7 f8 f9 f10 f11 f12 f13 f14 f15 f16 f17 f18
  replace f0 := shm_4 f0
  replace f1 := shm_192 f1
  replace f2 := shm_107 f2
  replace f3 := shm_107 f3
  replace f4 := shm_496 f4
  replace f5 := shm_531 f5
  replace f6 := shm_192 f6
  replace f7 := shm_107 f7
  replace f8 := shm_107 f8
  replace f9 := shm_494 f9
  replace f10 := shm_192 f10
  replace f11 := shm_107 f11
  replace f12 := shm_532 f12
  replace f13 := shm_6 f13
  replace f14 := shm_525 f14
  replace f15 := shm_523 f15
  replace f16 := shm_526 f16
  replace f17 := shm_527 f17
  replace f18 := shm_5 f18
  have q1 : n_v vs 1 = n_v vs 0 := f18.symm
  simp only [q1] at f4 f5 f9 f12 f14 f15 f16 f17
  have cr_0_33 := fdq_117 hD hth r0
  have cr_0_34 := fdq_118 hD hth r0
  have cr_0_42 := fdq_136 hD hth r0
  have cr_0_43 := fdq_137 hD hth r0
  have cr_0_44 := fdq_138 hD hth r0
  have cr_0_50 := fdq_139 hD hth r0
  have ad_10 : v_ad (n_v vs 10) = w_ar ws (n_v vs 0) 34 := congrArg v_ad f4
  have ad_6 : v_ad (n_v vs 6) = w_ar ws (n_v vs 0) 42 := congrArg v_ad f5
  have ad_7 : v_ad (n_v vs 7) = w_ar ws (n_v vs 0) 33 := congrArg v_ad f9
  have ad_4 : v_ad (n_v vs 4) = w_ar ws (n_v vs 0) 43 := congrArg v_ad f12
  simp only [ad_6] at f2
  have h2 : v_iv (n_v vs 12) = w_ei ws (w_ar ws (n_v vs 0) 42) (v_iv (n_v vs 11)) := f2
  simp only [ad_10] at f3
  have h3 : v_iv (n_v vs 11) = w_ei ws (w_ar ws (n_v vs 0) 34) (v_iv (n_v vs 2)) := f3
  simp only [ad_6] at f7
  have h7 : v_iv (n_v vs 9) = w_ei ws (w_ar ws (n_v vs 0) 42) (v_iv (n_v vs 8)) := f7
  simp only [ad_7] at f8
  have h8 : v_iv (n_v vs 8) = w_ei ws (w_ar ws (n_v vs 0) 33) (v_iv (n_v vs 2)) := f8
  simp only [ad_4] at f11
  have h11 : v_iv (n_v vs 5) = w_ei ws (w_ar ws (n_v vs 0) 43) (v_iv (n_v vs 2)) := f11
  have g14 : v_iv (n_v vs 3) = w_fi ws (n_v vs 0) 32 := congrArg v_iv f14
  have hK_0_33 := elq_60 hD hth cr_0_33
  have hK_0_34 := elq_61 hD hth cr_0_34
  have hK_0_42 := elq_75 hD hth cr_0_42
  have hK_0_43 := elq_76 hD hth cr_0_43
  have hK_0_44 := elq_77 hD hth cr_0_44
  have hK_0_50 := elq_78 hD hth cr_0_50
  have kz_0_32 := fdq_140 hD hth r0
  have nf0 : fc_1 PRD (20, [1, 13], [60, 1, 6, 108, 32, 33, 34, 43, 42, 44, 50]) ws (vs) := by
    refine ⟨nf_in hl rfl, sgq_526 ?_⟩
    · show ENS (w_fi ws (n_v vs 1) 32) (w_ei ws (w_ar ws (n_v vs 1) 33)) (w_ei ws (w_ar ws (n_v vs 1) 34)) (w_ei ws (w_ar ws (n_v vs 1) 43)) (w_ei ws (w_ar ws (n_v vs 1) 42)) (w_ei ws (w_ar ws (n_v vs 1) 44)) (w_ei ws (w_ar ws (n_v vs 1) 50)) (v_iv (n_v vs 13))
      rw [q1]
      exact vc_Mo_bits_4_0 (v_iv (n_v vs 2)) (v_iv (n_v vs 3)) (v_iv (n_v vs 5)) (v_iv (n_v vs 8)) (v_iv (n_v vs 9)) (v_iv (n_v vs 11)) (v_iv (n_v vs 12)) (v_iv (n_v vs 13)) (w_ei ws (w_ar ws (n_v vs 0) 42)) (w_ei ws (w_ar ws (n_v vs 0) 34)) (w_ei ws (w_ar ws (n_v vs 0) 33)) (w_ei ws (w_ar ws (n_v vs 0) 43)) (w_fi ws (n_v vs 0) 32) (w_ei ws (w_ar ws (n_v vs 0) 44)) (w_ei ws (w_ar ws (n_v vs 0) 50)) k2 k3 k5 k8 k9 k11 k12 k13 d0 d1 d2 f0 f1 h2 h3 f6 h7 h8 f10 h11 f13 g14 f15 f16 f17 hK_0_33 hK_0_34 hK_0_42 hK_0_43 hK_0_44 hK_0_50 kz_0_32
  have nf1 : fc_1 PRD (20, [13, 1], [30, 0, 1, 0, 0, -1, 1, 32]) ws (vs) := by
    refine ⟨nf_in hl rfl, sgq_527 ?_⟩
    · show 1 * v_iv (n_v vs 13) + ((-1) * w_fi ws (n_v vs 1) 32 + 0) ≤ 0
      rw [q1]
      exact vc_Mo_bits_4_1 (v_iv (n_v vs 2)) (v_iv (n_v vs 3)) (v_iv (n_v vs 5)) (v_iv (n_v vs 8)) (v_iv (n_v vs 9)) (v_iv (n_v vs 11)) (v_iv (n_v vs 12)) (v_iv (n_v vs 13)) (w_ei ws (w_ar ws (n_v vs 0) 42)) (w_ei ws (w_ar ws (n_v vs 0) 34)) (w_ei ws (w_ar ws (n_v vs 0) 33)) (w_ei ws (w_ar ws (n_v vs 0) 43)) (w_fi ws (n_v vs 0) 32) (w_ei ws (w_ar ws (n_v vs 0) 44)) (w_ei ws (w_ar ws (n_v vs 0) 50)) k2 k3 k5 k8 k9 k11 k12 k13 d0 d1 d2 f0 f1 h2 h3 f6 h7 h8 f10 h11 f13 g14 f15 f16 f17 hK_0_33 hK_0_34 hK_0_42 hK_0_43 hK_0_44 hK_0_50 kz_0_32
  refine ⟨(fun _ h => (by cases h)), [], trivial, ?_, (fun _ h => (by cases h))⟩
  rw [List.append_nil]
  exact List.forall_mem_cons.mpr ⟨⟨show (20 : Nat) < 100 from by decide, nf0⟩, List.forall_mem_cons.mpr ⟨⟨show (20 : Nat) < 100 from by decide, nf1⟩, (fun _ h => (by cases h))⟩⟩
def o_Mo_bits_5 : or_T := (106, 16, [(0, (2, 0, 0, [165])), (1, (2, 0, 0, [165])), (2, (0, 0, 79, [])), (3, (0, 1, 80, [])), (4, (2, 0, 0, [189])), (5, (0, 0, 0, [])), (6, (2, 0, 0, [188])), (7, (2, 0, 0, [180])), (8, (0, 0, 24, [])), (9, (0, 0, 0, [])), (10, (2, 0, 0, [181])), (11, (0, 0, 24, [])), (12, (0, 1, 1, [])), (13, (2, 0, 0, [193])), (14, (2, 0, 0, [190])), (15, (0, -1, 79, []))], [(10, [15, 14, 2], []), (9, [14, 1], [44]), (9, [13, 1], [50]), (8, [12], [1]), (10, [12, 6, 11], []), (10, [11, 10, 2], []), (9, [10, 1], [34]), (9, [6, 1], [42]), (8, [9], [0]), (10, [9, 6, 8], []), (10, [8, 7, 2], []), (9, [7, 1], [33]), (8, [5], [0]), (10, [5, 4, 2], []), (9, [4, 1], [43]), (7, [2, 3], [2]), (9, [3, 1], [32]), (20, [1], [60, 1, 5, 106, 32, 33, 34, 43, 42, 44]), (20, [1, 2], [60, 1, 6, 108, 32, 33, 34, 43, 42, 44, 50]), (20, [2, 1], [30, 0, 1, 0, 0, -1, 1, 32]), (24, [0, 1], [])], [(15, (0, 0, 79, []))], [], [], [], [(2, 3, -4294967296, -1)])
theorem oo_Mo_bits_5 {kA : Nat → ClassId} : or_ok PRD kA GG o_Mo_bits_5 := by
  refine or_mk fun A ta ws vs hD hth hl => ?_
  intro t0 r0 t1 r1 t2 k2 t3 k3 t4 r4 t5 k5 t6 r6 t7 r7 t8 k8 t9 k9 t10 r10 t11 k11 t12 k12 t13 r13 t14 r14 t15 k15 d0 f0 f1 f2 f3 f4 f5 f6 f7 f8 f9 f10 f11 f12 f13 f14 f15 f16 f17 f18 f19 f20
  replace f0 := shm_107 f0
  replace f1 := shm_533 f1
  replace f2 := shm_528 f2
  replace f3 := shm_142 f3
  replace f4 := shm_107 f4
  replace f5 := shm_107 f5
  replace f6 := shm_496 f6
  replace f7 := shm_531 f7
  replace f8 := shm_192 f8
  replace f9 := shm_107 f9
  replace f10 := shm_107 f10
  replace f11 := shm_494 f11
  replace f12 := shm_192 f12
  replace f13 := shm_107 f13
  replace f14 := shm_532 f14
  replace f15 := shm_6 f15
  replace f16 := shm_525 f16
  replace f17 := shm_523 f17
  replace f18 := shm_526 f18
  replace f19 := shm_527 f19
  replace f20 := shm_5 f20
  have q1 : n_v vs 1 = n_v vs 0 := f20.symm
  simp only [q1] at f1 f2 f6 f7 f11 f14 f16 f17 f18 f19
  have cr_0_33 := fdq_117 hD hth r0
  have cr_0_34 := fdq_118 hD hth r0
  have cr_0_42 := fdq_136 hD hth r0
  have cr_0_43 := fdq_137 hD hth r0
  have cr_0_44 := fdq_138 hD hth r0
  have cr_0_50 := fdq_139 hD hth r0
  have ad_14 : v_ad (n_v vs 14) = w_ar ws (n_v vs 0) 44 := congrArg v_ad f1
  have ad_13 : v_ad (n_v vs 13) = w_ar ws (n_v vs 0) 50 := congrArg v_ad f2
  have ad_10 : v_ad (n_v vs 10) = w_ar ws (n_v vs 0) 34 := congrArg v_ad f6
  have ad_6 : v_ad (n_v vs 6) = w_ar ws (n_v vs 0) 42 := congrArg v_ad f7
  have ad_7 : v_ad (n_v vs 7) = w_ar ws (n_v vs 0) 33 := congrArg v_ad f11
  have ad_4 : v_ad (n_v vs 4) = w_ar ws (n_v vs 0) 43 := congrArg v_ad f14
  simp only [ad_14] at f0
  have h0 : v_iv (n_v vs 15) = w_ei ws (w_ar ws (n_v vs 0) 44) (v_iv (n_v vs 2)) := f0
  simp only [ad_6] at f4
  have h4 : v_iv (n_v vs 12) = w_ei ws (w_ar ws (n_v vs 0) 42) (v_iv (n_v vs 11)) := f4
  simp only [ad_10] at f5
  have h5 : v_iv (n_v vs 11) = w_ei ws (w_ar ws (n_v vs 0) 34) (v_iv (n_v vs 2)) := f5
  simp only [ad_6] at f9
  have h9 : v_iv (n_v vs 9) = w_ei ws (w_ar ws (n_v vs 0) 42) (v_iv (n_v vs 8)) := f9
  simp only [ad_7] at f10
  have h10 : v_iv (n_v vs 8) = w_ei ws (w_ar ws (n_v vs 0) 33) (v_iv (n_v vs 2)) := f10
  simp only [ad_4] at f13
  have h13 : v_iv (n_v vs 5) = w_ei ws (w_ar ws (n_v vs 0) 43) (v_iv (n_v vs 2)) := f13
  have g16 : v_iv (n_v vs 3) = w_fi ws (n_v vs 0) 32 := congrArg v_iv f16
  have br_0_33_2_0 : w_ei ws (w_ar ws (n_v vs 0) 33) (v_iv (n_v vs 2)) = w_el ws (w_ar ws (n_v vs 0) 33) (v_iv (n_v vs 2)).toNat := rfl
  have br_0_34_2_0 : w_ei ws (w_ar ws (n_v vs 0) 34) (v_iv (n_v vs 2)) = w_el ws (w_ar ws (n_v vs 0) 34) (v_iv (n_v vs 2)).toNat := rfl
  have br_0_42_11_0 : w_ei ws (w_ar ws (n_v vs 0) 42) (v_iv (n_v vs 11)) = w_el ws (w_ar ws (n_v vs 0) 42) (v_iv (n_v vs 11)).toNat := rfl
  have br_0_42_8_0 : w_ei ws (w_ar ws (n_v vs 0) 42) (v_iv (n_v vs 8)) = w_el ws (w_ar ws (n_v vs 0) 42) (v_iv (n_v vs 8)).toNat := rfl
  have br_0_43_2_0 : w_ei ws (w_ar ws (n_v vs 0) 43) (v_iv (n_v vs 2)) = w_el ws (w_ar ws (n_v vs 0) 43) (v_iv (n_v vs 2)).toNat := rfl
  have br_0_44_2_0 : w_ei ws (w_ar ws (n_v vs 0) 44) (v_iv (n_v vs 2)) = w_el ws (w_ar ws (n_v vs 0) 44) (v_iv (n_v vs 2)).toNat := rfl
  have hK_0_33 := elq_60 hD hth cr_0_33
  have hK_0_34 := elq_61 hD hth cr_0_34
  have hK_0_42 := elq_75 hD hth cr_0_42
  have hK_0_43 := elq_76 hD hth cr_0_43
  have hK_0_44 := elq_77 hD hth cr_0_44
  have hK_0_50 := elq_78 hD hth cr_0_50
  have kz_0_32 := fdq_140 hD hth r0
  first | have hR := pcs_rng (e := v_iv (n_v vs 2)) ‹PCS _ _ _ _ _ _› (by omega) (by omega) (by omega) | skip
  have rf15 : tv_ok ta (0, 0, 79, []) (n_v vs 15) := tv_in t15 (by first | omega | grind) (by first | omega | grind)
  refine ⟨List.forall_mem_cons.mpr ⟨rf15, (fun _ h => (by cases h))⟩, [], trivial, ?_, (fun _ h => (by cases h))⟩
  rw [List.append_nil]
  exact (fun _ h => (by cases h))
set_option maxHeartbeats 4000000 in
theorem vc_Mo_bits_6_0 (x2 : Int) (x3 : Int) (x5 : Int) (x8 : Int) (x9 : Int) (x11 : Int) (x12 : Int) (x15 : Int) (x16 : Int) (x17 : Int) (x18 : Int) (x19 : Int) (x20 : Int) (x21 : Int) (pt_0 : Int → Int) (ph_0 : Int → Int) (drawnEdge_0 : Int → Int) (drawnNode_0 : Int → Int) (pieceOf_0 : Int → Int) (pm_0 : Int) (ph_1 : Int → Int) (ends_1 : Int → Int) (pieceOf_1 : Int → Int) (drawnNode_1 : Int → Int) (pt_1 : Int → Int) (drawnEdge_1 : Int → Int) (pm_1 : Int) (ends_0 : Int → Int) (k2 : 0 ≤ x2 ∧ x2 ≤ 79) (k3 : 1 ≤ x3 ∧ x3 ≤ 80) (k5 : 0 ≤ x5 ∧ x5 ≤ 0) (k8 : 0 ≤ x8 ∧ x8 ≤ 24) (k9 : 0 ≤ x9 ∧ x9 ≤ 0) (k11 : 0 ≤ x11 ∧ x11 ≤ 24) (k12 : 1 ≤ x12 ∧ x12 ≤ 1) (k15 : 0 ≤ x15 ∧ x15 ≤ 79) (k16 : 0 ≤ x16 ∧ x16 ≤ 33554431) (k17 : 1 ≤ x17 ∧ x17 ≤ 1) (k18 : 0 ≤ x18 ∧ x18 ≤ 24) (k19 : 1 ≤ x19 ∧ x19 ≤ 16777216) (k20 : 0 ≤ x20 ∧ x20 ≤ 33554431) (k21 : 1 ≤ x21 ∧ x21 ≤ 80) (d0 : x2 + 1 ≤ x21 ∧ x21 ≤ x2 + 1) (d1 : x3 + (-4294967296) ≤ x21 ∧ x21 ≤ x3 + 0) (d2 : x3 + (-4294967296) ≤ x2 ∧ x2 ≤ x3 + (-1)) (f0 : x21 = x2 + 1) (f1 : PCS (pm_0) (pt_0) (ph_0) (drawnEdge_0) (drawnNode_0) (pieceOf_0)) (f2 : 1 * x2 + ((-1) * pm_0 + 0) ≤ 0) (f5 : x20 ≤ x16 + x19 ∧ x16 ≤ x20 ∧ x19 ≤ x20) (f6 : bvp (x20) = bvp (x16) ||| bvp (x19)) (f7 : bvp (x19) = bvp (x17) <<< (x18).toNat) (h8 : x18 = ph_1 (x2)) (h10 : x16 = ends_1 (x15)) (h11 : x15 = pieceOf_1 (x2)) (f14 : x12 ≠ 0) (h15 : x12 = drawnNode_1 (x11)) (h16 : x11 = ph_1 (x2)) (f18 : x9 = 0) (h19 : x9 = drawnNode_1 (x8)) (h20 : x8 = pt_1 (x2)) (f22 : x5 = 0) (h23 : x5 = drawnEdge_1 (x2)) (f25 : x2 < x3) (g26 : x3 = pm_1) (f27 : PCS (pm_1) (pt_1) (ph_1) (drawnEdge_1) (drawnNode_1) (pieceOf_1)) (f28 : ENS (pm_1) (pt_1) (ph_1) (drawnEdge_1) (drawnNode_1) (pieceOf_1) (ends_1) (x2)) (f29 : 1 * x2 + ((-1) * pm_1 + 0) ≤ 0) (fe_0_32_1 : pm_0 = pm_1) (hE_0_33_1 : ∀ j : Int, pt_0 j = pt_1 j) (hK_0_33 : ∀ j : Int, 0 ≤ j → j < 80 → 0 ≤ pt_0 j ∧ pt_0 j ≤ 24) (hE_0_34_1 : ∀ j : Int, ph_0 j = ph_1 j) (hK_0_34 : ∀ j : Int, 0 ≤ j → j < 80 → 0 ≤ ph_0 j ∧ ph_0 j ≤ 24) (hE_0_42_1 : ∀ j : Int, drawnNode_0 j = drawnNode_1 j) (hK_0_42 : ∀ j : Int, 0 ≤ j → j < 26 → 0 ≤ drawnNode_0 j ∧ drawnNode_0 j ≤ 1) (hE_0_43_1 : ∀ j : Int, drawnEdge_0 j = drawnEdge_1 j) (hK_0_43 : ∀ j : Int, 0 ≤ j → j < 80 → 0 ≤ drawnEdge_0 j ∧ drawnEdge_0 j ≤ 1) (hE_0_44_1 : ∀ j : Int, pieceOf_0 j = pieceOf_1 j) (hK_0_44 : ∀ j : Int, 0 ≤ j → j < 80 → (-1) ≤ pieceOf_0 j ∧ pieceOf_0 j ≤ 79) (hE_0_50_1 : ∀ j : Int, 0 ≤ j → (j = x15 → ends_0 j = x20) ∧ (j ≠ x15 → ends_0 j = ends_1 j)) (hK_0_50 : ∀ j : Int, 0 ≤ j → j < 80 → 0 ≤ ends_0 j ∧ ends_0 j ≤ 33554431) (kz_0_32 : 0 ≤ pm_0 ∧ pm_0 ≤ 80) : ENS (pm_0) (pt_0) (ph_0) (drawnEdge_0) (drawnNode_0) (pieceOf_0) (ends_0) (x21) := by
  subst fe_0_32_1
  have e_hE_0_33_1 := funext hE_0_33_1; subst e_hE_0_33_1
  have e_hE_0_34_1 := funext hE_0_34_1; subst e_hE_0_34_1
  have e_hE_0_42_1 := funext hE_0_42_1; subst e_hE_0_42_1
  have e_hE_0_43_1 := funext hE_0_43_1; subst e_hE_0_43_1
  have e_hE_0_44_1 := funext hE_0_44_1; subst e_hE_0_44_1
  first
    | (have h := ‹EN0 _ _›
       intro p i p0 p1 i0 i1
       rw [h p p0 (by omega)]
       exact ⟨fun z => absurd z (bit_zero i), fun ⟨f, a, b, _⟩ => by exfalso; omega⟩)
    | (first | rw [show x6 = x2 + 1 by omega] | rw [show x7 = x2 + 1 by omega]
       exact ens_skip ‹ENS _ _ _ _ _ _ _ _› (by omega))
    | (have o1 := bit_or (n := x26) (a := x22) (b := x25) (by assumption)
       have s1 := fun i (h0 : 0 ≤ i) (h1 : i < 32) => bit_shl (n := x25) (a := x23) (b := x24) (i := i) (by assumption) (by omega) (by omega) h0 h1
       have o2 := bit_or (n := x17) (a := x13) (b := x16) (by assumption)
       have s2 := fun i (h0 : 0 ≤ i) (h1 : i < 32) => bit_shl (n := x16) (a := x14) (b := x15) (i := i) (by assumption) (by omega) (by omega) h0 h1
       rw [show x27 = x2 + 1 by omega]
       skip; (first | subst h8 | skip); (first | subst h10 | skip); (first | subst h11 | skip); (first | subst h15 | skip); (first | subst h16 | skip); (first | subst h19 | skip); (first | subst h20 | skip); (first | subst h23 | skip)
       have hr := pcs_rng (e := x2) ‹PCS _ _ _ _ _ _› (by omega) (by omega) (by omega)
       have v := (hE_0_50_1 (pieceOf_0 x2) (by omega)).1 rfl
       have w := (hE_0_50_2 (pieceOf_0 x2) (by omega)).1 rfl
       refine ens_step ‹ENS _ _ _ _ _ _ _ _› (by omega) (by omega) (fun p a b => by rw [(hE_0_50_1 p a).2 b, (hE_0_50_2 p a).2 b]) (fun i a b => ?_)
       rw [v, o1 i, s1 i a b, w, o2 i, s2 i a b]
       constructor
       · rintro ((z | z) | z)
         · exact Or.inl z
         · exact Or.inr (by omega)
         · exact Or.inr (by omega)
       · rintro (z | z | z)
         · exact Or.inl (Or.inl z)
         · exact Or.inl (Or.inr z.1)
         · exact Or.inr z.1)
    | (have o1 := bit_or (n := x20) (a := x16) (b := x19) (by assumption)
       have s1 := fun i (h0 : 0 ≤ i) (h1 : i < 32) => bit_shl (n := x19) (a := x17) (b := x18) (i := i) (by assumption) (by omega) (by omega) h0 h1
       rw [show x21 = x2 + 1 by omega]
       skip; (first | subst h8 | skip); (first | subst h10 | skip); (first | subst h11 | skip); (first | subst h15 | skip); (first | subst h16 | skip); (first | subst h19 | skip); (first | subst h20 | skip); (first | subst h23 | skip)
       have hr := pcs_rng (e := x2) ‹PCS _ _ _ _ _ _› (by omega) (by omega) (by omega)
       have v := (hE_0_50_1 (pieceOf_0 x2) (by omega)).1 rfl
       refine ens_step ‹ENS _ _ _ _ _ _ _ _› (by omega) (by omega) (fun p a b => (hE_0_50_1 p a).2 b) (fun i a b => ?_)
       rw [v, o1 i, s1 i a b]
       refine or_congr Iff.rfl ⟨fun z => ?_, fun z => ?_⟩ <;> omega)
    | (have o1 := bit_or (n := x17) (a := x13) (b := x16) (by assumption)
       have s1 := fun i (h0 : 0 ≤ i) (h1 : i < 32) => bit_shl (n := x16) (a := x14) (b := x15) (i := i) (by assumption) (by omega) (by omega) h0 h1
       rw [show x21 = x2 + 1 by omega]
       skip; (first | subst h8 | skip); (first | subst h10 | skip); (first | subst h11 | skip); (first | subst h15 | skip); (first | subst h16 | skip); (first | subst h19 | skip); (first | subst h20 | skip); (first | subst h23 | skip)
       have hr := pcs_rng (e := x2) ‹PCS _ _ _ _ _ _› (by omega) (by omega) (by omega)
       have v := (hE_0_50_1 (pieceOf_0 x2) (by omega)).1 rfl
       refine ens_step ‹ENS _ _ _ _ _ _ _ _› (by omega) (by omega) (fun p a b => (hE_0_50_1 p a).2 b) (fun i a b => ?_)
       rw [v, o1 i, s1 i a b]
       refine or_congr Iff.rfl ⟨fun z => ?_, fun z => ?_⟩ <;> omega)
    | (skip; (first | subst h8 | skip); (first | subst h10 | skip); (first | subst h11 | skip); (first | subst h15 | skip); (first | subst h16 | skip); (first | subst h19 | skip); (first | subst h20 | skip); (first | subst h23 | skip)
       first | rw [show x13 = x2 + 1 by omega] | rw [show x14 = x2 + 1 by omega] | rw [show x15 = x2 + 1 by omega]
       refine ens_step ‹ENS _ _ _ _ _ _ _ _› (by omega) (by omega) (fun _ _ _ => rfl) (fun i a b => ?_)
       constructor
       · exact Or.inl
       · rintro (z | z | z)
         · exact z
         · exfalso; omega
         · exfalso; omega)
set_option maxHeartbeats 4000000 in
theorem vc_Mo_bits_6_1 (x2 : Int) (x3 : Int) (x5 : Int) (x8 : Int) (x9 : Int) (x11 : Int) (x12 : Int) (x15 : Int) (x16 : Int) (x17 : Int) (x18 : Int) (x19 : Int) (x20 : Int) (x21 : Int) (pt_0 : Int → Int) (ph_0 : Int → Int) (drawnEdge_0 : Int → Int) (drawnNode_0 : Int → Int) (pieceOf_0 : Int → Int) (pm_0 : Int) (ph_1 : Int → Int) (ends_1 : Int → Int) (pieceOf_1 : Int → Int) (drawnNode_1 : Int → Int) (pt_1 : Int → Int) (drawnEdge_1 : Int → Int) (pm_1 : Int) (ends_0 : Int → Int) (k2 : 0 ≤ x2 ∧ x2 ≤ 79) (k3 : 1 ≤ x3 ∧ x3 ≤ 80) (k5 : 0 ≤ x5 ∧ x5 ≤ 0) (k8 : 0 ≤ x8 ∧ x8 ≤ 24) (k9 : 0 ≤ x9 ∧ x9 ≤ 0) (k11 : 0 ≤ x11 ∧ x11 ≤ 24) (k12 : 1 ≤ x12 ∧ x12 ≤ 1) (k15 : 0 ≤ x15 ∧ x15 ≤ 79) (k16 : 0 ≤ x16 ∧ x16 ≤ 33554431) (k17 : 1 ≤ x17 ∧ x17 ≤ 1) (k18 : 0 ≤ x18 ∧ x18 ≤ 24) (k19 : 1 ≤ x19 ∧ x19 ≤ 16777216) (k20 : 0 ≤ x20 ∧ x20 ≤ 33554431) (k21 : 1 ≤ x21 ∧ x21 ≤ 80) (d0 : x2 + 1 ≤ x21 ∧ x21 ≤ x2 + 1) (d1 : x3 + (-4294967296) ≤ x21 ∧ x21 ≤ x3 + 0) (d2 : x3 + (-4294967296) ≤ x2 ∧ x2 ≤ x3 + (-1)) (f0 : x21 = x2 + 1) (f1 : PCS (pm_0) (pt_0) (ph_0) (drawnEdge_0) (drawnNode_0) (pieceOf_0)) (f2 : 1 * x2 + ((-1) * pm_0 + 0) ≤ 0) (f5 : x20 ≤ x16 + x19 ∧ x16 ≤ x20 ∧ x19 ≤ x20) (f6 : bvp (x20) = bvp (x16) ||| bvp (x19)) (f7 : bvp (x19) = bvp (x17) <<< (x18).toNat) (h8 : x18 = ph_1 (x2)) (h10 : x16 = ends_1 (x15)) (h11 : x15 = pieceOf_1 (x2)) (f14 : x12 ≠ 0) (h15 : x12 = drawnNode_1 (x11)) (h16 : x11 = ph_1 (x2)) (f18 : x9 = 0) (h19 : x9 = drawnNode_1 (x8)) (h20 : x8 = pt_1 (x2)) (f22 : x5 = 0) (h23 : x5 = drawnEdge_1 (x2)) (f25 : x2 < x3) (g26 : x3 = pm_1) (f27 : PCS (pm_1) (pt_1) (ph_1) (drawnEdge_1) (drawnNode_1) (pieceOf_1)) (f28 : ENS (pm_1) (pt_1) (ph_1) (drawnEdge_1) (drawnNode_1) (pieceOf_1) (ends_1) (x2)) (f29 : 1 * x2 + ((-1) * pm_1 + 0) ≤ 0) (fe_0_32_1 : pm_0 = pm_1) (hE_0_33_1 : ∀ j : Int, pt_0 j = pt_1 j) (hK_0_33 : ∀ j : Int, 0 ≤ j → j < 80 → 0 ≤ pt_0 j ∧ pt_0 j ≤ 24) (hE_0_34_1 : ∀ j : Int, ph_0 j = ph_1 j) (hK_0_34 : ∀ j : Int, 0 ≤ j → j < 80 → 0 ≤ ph_0 j ∧ ph_0 j ≤ 24) (hE_0_42_1 : ∀ j : Int, drawnNode_0 j = drawnNode_1 j) (hK_0_42 : ∀ j : Int, 0 ≤ j → j < 26 → 0 ≤ drawnNode_0 j ∧ drawnNode_0 j ≤ 1) (hE_0_43_1 : ∀ j : Int, drawnEdge_0 j = drawnEdge_1 j) (hK_0_43 : ∀ j : Int, 0 ≤ j → j < 80 → 0 ≤ drawnEdge_0 j ∧ drawnEdge_0 j ≤ 1) (hE_0_44_1 : ∀ j : Int, pieceOf_0 j = pieceOf_1 j) (hK_0_44 : ∀ j : Int, 0 ≤ j → j < 80 → (-1) ≤ pieceOf_0 j ∧ pieceOf_0 j ≤ 79) (hE_0_50_1 : ∀ j : Int, 0 ≤ j → (j = x15 → ends_0 j = x20) ∧ (j ≠ x15 → ends_0 j = ends_1 j)) (hK_0_50 : ∀ j : Int, 0 ≤ j → j < 80 → 0 ≤ ends_0 j ∧ ends_0 j ≤ 33554431) (kz_0_32 : 0 ≤ pm_0 ∧ pm_0 ≤ 80) : 1 * x21 + ((-1) * pm_0 + 0) ≤ 0 := by
  subst fe_0_32_1
  have e_hE_0_33_1 := funext hE_0_33_1; subst e_hE_0_33_1
  have e_hE_0_34_1 := funext hE_0_34_1; subst e_hE_0_34_1
  have e_hE_0_42_1 := funext hE_0_42_1; subst e_hE_0_42_1
  have e_hE_0_43_1 := funext hE_0_43_1; subst e_hE_0_43_1
  have e_hE_0_44_1 := funext hE_0_44_1; subst e_hE_0_44_1
  first | omega
def o_Mo_bits_6 : or_T := (25, 22, [(0, (2, 0, 0, [165])), (1, (2, 0, 0, [165])), (2, (0, 0, 79, [])), (3, (0, 1, 80, [])), (4, (2, 0, 0, [189])), (5, (0, 0, 0, [])), (6, (2, 0, 0, [188])), (7, (2, 0, 0, [180])), (8, (0, 0, 24, [])), (9, (0, 0, 0, [])), (10, (2, 0, 0, [181])), (11, (0, 0, 24, [])), (12, (0, 1, 1, [])), (13, (2, 0, 0, [193])), (14, (2, 0, 0, [190])), (15, (0, 0, 79, [])), (16, (0, 0, 33554431, [])), (17, (0, 1, 1, [])), (18, (0, 0, 24, [])), (19, (0, 1, 16777216, [])), (20, (0, 0, 33554431, [])), (21, (0, 1, 80, []))], [(6, [21, 2], [1]), (20, [1], [60, 1, 5, 106, 32, 33, 34, 43, 42, 44]), (20, [2, 1], [30, 0, 1, 0, 0, -1, 1, 32]), (24, [0, 1], []), (100, [13, 15, 20], []), (13, [20, 16, 19], []), (16, [20, 16, 19], [1]), (16, [19, 17, 18], [3]), (10, [18, 10, 2], []), (9, [10, 1], [34]), (10, [16, 13, 15], []), (10, [15, 14, 2], []), (9, [14, 1], [44]), (9, [13, 1], [50]), (8, [12], [1]), (10, [12, 6, 11], []), (10, [11, 10, 2], []), (9, [6, 1], [42]), (8, [9], [0]), (10, [9, 6, 8], []), (10, [8, 7, 2], []), (9, [7, 1], [33]), (8, [5], [0]), (10, [5, 4, 2], []), (9, [4, 1], [43]), (7, [2, 3], [2]), (9, [3, 1], [32]), (20, [1], [60, 1, 5, 106, 32, 33, 34, 43, 42, 44]), (20, [1, 2], [60, 1, 6, 108, 32, 33, 34, 43, 42, 44, 50]), (20, [2, 1], [30, 0, 1, 0, 0, -1, 1, 32])], [], [], [(20, [1, 21], [60, 1, 6, 108, 32, 33, 34, 43, 42, 44, 50]), (20, [21, 1], [30, 0, 1, 0, 0, -1, 1, 32])], [], [(21, 2, 1, 1), (21, 3, -4294967296, 0), (2, 3, -4294967296, -1)])
theorem oo_Mo_bits_6 {kA : Nat → ClassId} : or_ok PRD kA GG o_Mo_bits_6 := by
  refine or_mk fun A ta ws vs hD hth hl => ?_
  intro t0 r0 t1 r1 t2 k2 t3 k3 t4 r4 t5 k5 t6 r6 t7 r7 t8 k8 t9 k9 t10 r10 t11 k11 t12 k12 t13 r13 t14 r14 t15 k15 t16 k16 t17 k17 t18 k18 t19 k19 t20 k20 t21 k21 d0 d1 d2 f0 f1 f2 f3 ta1 w1 le1 s1 f5 f6 f7 f8 f9 f10 f11 f12 f13 f14 f15 f16 f17 f18 f19 f20 f21 f22 f23 f24 f25 f26 f27 f28 f29
  replace f0 := shm_4 f0
  replace f1 := shm_523 f1
  replace f2 := shm_527 f2
  replace f3 := shm_5 f3
  have s1 : (∀ b j, w_el ws b j = if b = v_ad (n_v vs 13) ∧ j = (v_iv (n_v vs 15)).toNat then v_iv (n_v vs 20) else w_el w1 b j) ∧ ∀ b k, w_fd ws b k = w_fd w1 b k := s1.2
  have f5 : v_iv (n_v vs 20) ≤ v_iv (n_v vs 16) + v_iv (n_v vs 19) ∧ v_iv (n_v vs 16) ≤ v_iv (n_v vs 20) ∧ v_iv (n_v vs 19) ≤ v_iv (n_v vs 20) := (fun (h : v_iv (n_v vs 20) ≤ v_iv (n_v vs 16) + v_iv (n_v vs 19) ∧ v_iv (n_v vs 16) ≤ v_iv (n_v vs 20) ∧ v_iv (n_v vs 19) ≤ v_iv (n_v vs 20) ∧ (v_iv (n_v vs 20)).toNat = (v_iv (n_v vs 16)).toNat ||| (v_iv (n_v vs 19)).toNat) => ⟨h.1, h.2.1, h.2.2.1⟩) f5
  replace f6 := shm_354 f6
  replace f7 := shm_349 f7
  replace f8 := shm_107 f8
  replace f9 := shm_496 f9
  replace f10 := shm_107 f10
  replace f11 := shm_107 f11
  replace f12 := shm_533 f12
  replace f13 := shm_528 f13
  replace f14 := shm_142 f14
  replace f15 := shm_107 f15
  replace f16 := shm_107 f16
  replace f17 := shm_531 f17
  replace f18 := shm_192 f18
  replace f19 := shm_107 f19
  replace f20 := shm_107 f20
  replace f21 := shm_494 f21
  replace f22 := shm_192 f22
  replace f23 := shm_107 f23
  replace f24 := shm_532 f24
  replace f25 := shm_6 f25
  replace f26 := shm_525 f26
  replace f27 := shm_523 f27
  replace f28 := shm_526 f28
  replace f29 := shm_527 f29
  have q1 : n_v vs 1 = n_v vs 0 := f3.symm
  simp only [q1] at f1 f2 f9 f12 f13 f17 f21 f24 f26 f27 f28 f29
  have ar_0_33_1 : w_ar w1 (n_v vs 0) 33 = w_ar ws (n_v vs 0) 33 := congrArg v_ad (s1.2 _ _).symm
  have cr_0_33 := fdq_117 hD hth r0
  have ar_0_34_1 : w_ar w1 (n_v vs 0) 34 = w_ar ws (n_v vs 0) 34 := congrArg v_ad (s1.2 _ _).symm
  have cr_0_34 := fdq_118 hD hth r0
  have ar_0_42_1 : w_ar w1 (n_v vs 0) 42 = w_ar ws (n_v vs 0) 42 := congrArg v_ad (s1.2 _ _).symm
  have cr_0_42 := fdq_136 hD hth r0
  have ar_0_43_1 : w_ar w1 (n_v vs 0) 43 = w_ar ws (n_v vs 0) 43 := congrArg v_ad (s1.2 _ _).symm
  have cr_0_43 := fdq_137 hD hth r0
  have ar_0_44_1 : w_ar w1 (n_v vs 0) 44 = w_ar ws (n_v vs 0) 44 := congrArg v_ad (s1.2 _ _).symm
  have cr_0_44 := fdq_138 hD hth r0
  have ar_0_50_1 : w_ar w1 (n_v vs 0) 50 = w_ar ws (n_v vs 0) 50 := congrArg v_ad (s1.2 _ _).symm
  have cr_0_50 := fdq_139 hD hth r0
  have ad_10 : v_ad (n_v vs 10) = w_ar ws (n_v vs 0) 34 := (congrArg v_ad f9).trans ar_0_34_1
  have ad_14 : v_ad (n_v vs 14) = w_ar ws (n_v vs 0) 44 := (congrArg v_ad f12).trans ar_0_44_1
  have ad_13 : v_ad (n_v vs 13) = w_ar ws (n_v vs 0) 50 := (congrArg v_ad f13).trans ar_0_50_1
  have ad_6 : v_ad (n_v vs 6) = w_ar ws (n_v vs 0) 42 := (congrArg v_ad f17).trans ar_0_42_1
  have ad_7 : v_ad (n_v vs 7) = w_ar ws (n_v vs 0) 33 := (congrArg v_ad f21).trans ar_0_33_1
  have ad_4 : v_ad (n_v vs 4) = w_ar ws (n_v vs 0) 43 := (congrArg v_ad f24).trans ar_0_43_1
  simp only [ad_10] at f8
  have h8 : v_iv (n_v vs 18) = w_ei w1 (w_ar ws (n_v vs 0) 34) (v_iv (n_v vs 2)) := f8
  simp only [ad_13] at f10
  have h10 : v_iv (n_v vs 16) = w_ei w1 (w_ar ws (n_v vs 0) 50) (v_iv (n_v vs 15)) := f10
  simp only [ad_14] at f11
  have h11 : v_iv (n_v vs 15) = w_ei w1 (w_ar ws (n_v vs 0) 44) (v_iv (n_v vs 2)) := f11
  simp only [ad_6] at f15
  have h15 : v_iv (n_v vs 12) = w_ei w1 (w_ar ws (n_v vs 0) 42) (v_iv (n_v vs 11)) := f15
  simp only [ad_10] at f16
  have h16 : v_iv (n_v vs 11) = w_ei w1 (w_ar ws (n_v vs 0) 34) (v_iv (n_v vs 2)) := f16
  simp only [ad_6] at f19
  have h19 : v_iv (n_v vs 9) = w_ei w1 (w_ar ws (n_v vs 0) 42) (v_iv (n_v vs 8)) := f19
  simp only [ad_7] at f20
  have h20 : v_iv (n_v vs 8) = w_ei w1 (w_ar ws (n_v vs 0) 33) (v_iv (n_v vs 2)) := f20
  simp only [ad_4] at f23
  have h23 : v_iv (n_v vs 5) = w_ei w1 (w_ar ws (n_v vs 0) 43) (v_iv (n_v vs 2)) := f23
  have g26 : v_iv (n_v vs 3) = w_fi w1 (n_v vs 0) 32 := congrArg v_iv f26
  simp only [ar_0_33_1, ar_0_34_1, ar_0_42_1, ar_0_43_1, ar_0_44_1, ar_0_50_1] at f27 f28
  have fe_0_32_1 : w_fi ws (n_v vs 0) 32 = w_fi w1 (n_v vs 0) 32 := congrArg v_iv (s1.2 _ _)
  have hE_0_33_1 : ∀ j : Int, w_ei ws (w_ar ws (n_v vs 0) 33) j = w_ei w1 (w_ar ws (n_v vs 0) 33) j := el_kp s1.1 r13 cr_0_33 (by decide)
  have hK_0_33 := elq_60 hD hth cr_0_33
  have hE_0_34_1 : ∀ j : Int, w_ei ws (w_ar ws (n_v vs 0) 34) j = w_ei w1 (w_ar ws (n_v vs 0) 34) j := el_kp s1.1 r13 cr_0_34 (by decide)
  have hK_0_34 := elq_61 hD hth cr_0_34
  have hE_0_42_1 : ∀ j : Int, w_ei ws (w_ar ws (n_v vs 0) 42) j = w_ei w1 (w_ar ws (n_v vs 0) 42) j := el_kp s1.1 r13 cr_0_42 (by decide)
  have hK_0_42 := elq_75 hD hth cr_0_42
  have hE_0_43_1 : ∀ j : Int, w_ei ws (w_ar ws (n_v vs 0) 43) j = w_ei w1 (w_ar ws (n_v vs 0) 43) j := el_kp s1.1 r13 cr_0_43 (by decide)
  have hK_0_43 := elq_76 hD hth cr_0_43
  have hE_0_44_1 : ∀ j : Int, w_ei ws (w_ar ws (n_v vs 0) 44) j = w_ei w1 (w_ar ws (n_v vs 0) 44) j := el_kp s1.1 r13 cr_0_44 (by decide)
  have hK_0_44 := elq_77 hD hth cr_0_44
  have hE_0_50_1 : ∀ j : Int, 0 ≤ j → (j = v_iv (n_v vs 15) → w_ei ws (w_ar ws (n_v vs 0) 50) j = v_iv (n_v vs 20)) ∧ (j ≠ v_iv (n_v vs 15) → w_ei ws (w_ar ws (n_v vs 0) 50) j = w_ei w1 (w_ar ws (n_v vs 0) 50) j) := fun j hj => ⟨fun h => by unfold w_ei; rw [s1.1, if_pos ⟨ad_13.symm, by rw [h]⟩], fun h => by unfold w_ei; rw [s1.1, if_neg (fun e => h (by have := e.2; omega))]⟩
  have hK_0_50 := elq_78 hD hth cr_0_50
  have kz_0_32 := fdq_140 hD hth r0
  have nf0 : fc_1 PRD (20, [1, 21], [60, 1, 6, 108, 32, 33, 34, 43, 42, 44, 50]) ws (vs) := by
    refine ⟨nf_in hl rfl, sgq_526 ?_⟩
    · show ENS (w_fi ws (n_v vs 1) 32) (w_ei ws (w_ar ws (n_v vs 1) 33)) (w_ei ws (w_ar ws (n_v vs 1) 34)) (w_ei ws (w_ar ws (n_v vs 1) 43)) (w_ei ws (w_ar ws (n_v vs 1) 42)) (w_ei ws (w_ar ws (n_v vs 1) 44)) (w_ei ws (w_ar ws (n_v vs 1) 50)) (v_iv (n_v vs 21))
      rw [q1]
      exact vc_Mo_bits_6_0 (v_iv (n_v vs 2)) (v_iv (n_v vs 3)) (v_iv (n_v vs 5)) (v_iv (n_v vs 8)) (v_iv (n_v vs 9)) (v_iv (n_v vs 11)) (v_iv (n_v vs 12)) (v_iv (n_v vs 15)) (v_iv (n_v vs 16)) (v_iv (n_v vs 17)) (v_iv (n_v vs 18)) (v_iv (n_v vs 19)) (v_iv (n_v vs 20)) (v_iv (n_v vs 21)) (w_ei ws (w_ar ws (n_v vs 0) 33)) (w_ei ws (w_ar ws (n_v vs 0) 34)) (w_ei ws (w_ar ws (n_v vs 0) 43)) (w_ei ws (w_ar ws (n_v vs 0) 42)) (w_ei ws (w_ar ws (n_v vs 0) 44)) (w_fi ws (n_v vs 0) 32) (w_ei w1 (w_ar ws (n_v vs 0) 34)) (w_ei w1 (w_ar ws (n_v vs 0) 50)) (w_ei w1 (w_ar ws (n_v vs 0) 44)) (w_ei w1 (w_ar ws (n_v vs 0) 42)) (w_ei w1 (w_ar ws (n_v vs 0) 33)) (w_ei w1 (w_ar ws (n_v vs 0) 43)) (w_fi w1 (n_v vs 0) 32) (w_ei ws (w_ar ws (n_v vs 0) 50)) k2 k3 k5 k8 k9 k11 k12 k15 k16 k17 k18 k19 k20 k21 d0 d1 d2 f0 f1 f2 f5 f6 f7 h8 h10 h11 f14 h15 h16 f18 h19 h20 f22 h23 f25 g26 f27 f28 f29 fe_0_32_1 hE_0_33_1 hK_0_33 hE_0_34_1 hK_0_34 hE_0_42_1 hK_0_42 hE_0_43_1 hK_0_43 hE_0_44_1 hK_0_44 hE_0_50_1 hK_0_50 kz_0_32
  have nf1 : fc_1 PRD (20, [21, 1], [30, 0, 1, 0, 0, -1, 1, 32]) ws (vs) := by
    refine ⟨nf_in hl rfl, sgq_527 ?_⟩
    · show 1 * v_iv (n_v vs 21) + ((-1) * w_fi ws (n_v vs 1) 32 + 0) ≤ 0
      rw [q1]
      exact vc_Mo_bits_6_1 (v_iv (n_v vs 2)) (v_iv (n_v vs 3)) (v_iv (n_v vs 5)) (v_iv (n_v vs 8)) (v_iv (n_v vs 9)) (v_iv (n_v vs 11)) (v_iv (n_v vs 12)) (v_iv (n_v vs 15)) (v_iv (n_v vs 16)) (v_iv (n_v vs 17)) (v_iv (n_v vs 18)) (v_iv (n_v vs 19)) (v_iv (n_v vs 20)) (v_iv (n_v vs 21)) (w_ei ws (w_ar ws (n_v vs 0) 33)) (w_ei ws (w_ar ws (n_v vs 0) 34)) (w_ei ws (w_ar ws (n_v vs 0) 43)) (w_ei ws (w_ar ws (n_v vs 0) 42)) (w_ei ws (w_ar ws (n_v vs 0) 44)) (w_fi ws (n_v vs 0) 32) (w_ei w1 (w_ar ws (n_v vs 0) 34)) (w_ei w1 (w_ar ws (n_v vs 0) 50)) (w_ei w1 (w_ar ws (n_v vs 0) 44)) (w_ei w1 (w_ar ws (n_v vs 0) 42)) (w_ei w1 (w_ar ws (n_v vs 0) 33)) (w_ei w1 (w_ar ws (n_v vs 0) 43)) (w_fi w1 (n_v vs 0) 32) (w_ei ws (w_ar ws (n_v vs 0) 50)) k2 k3 k5 k8 k9 k11 k12 k15 k16 k17 k18 k19 k20 k21 d0 d1 d2 f0 f1 f2 f5 f6 f7 h8 h10 h11 f14 h15 h16 f18 h19 h20 f22 h23 f25 g26 f27 f28 f29 fe_0_32_1 hE_0_33_1 hK_0_33 hE_0_34_1 hK_0_34 hE_0_42_1 hK_0_42 hE_0_43_1 hK_0_43 hE_0_44_1 hK_0_44 hE_0_50_1 hK_0_50 kz_0_32
  refine ⟨(fun _ h => (by cases h)), [], trivial, ?_, (fun _ h => (by cases h))⟩
  rw [List.append_nil]
  exact List.forall_mem_cons.mpr ⟨⟨show (20 : Nat) < 100 from by decide, nf0⟩, List.forall_mem_cons.mpr ⟨⟨show (20 : Nat) < 100 from by decide, nf1⟩, (fun _ h => (by cases h))⟩⟩
def o_Mo_bits_7 : or_T := (70, 13, [(0, (2, 0, 0, [165])), (1, (2, 0, 0, [165])), (2, (0, 0, 79, [])), (3, (0, 1, 80, [])), (4, (2, 0, 0, [189])), (5, (0, 0, 0, [])), (6, (2, 0, 0, [188])), (7, (2, 0, 0, [180])), (8, (0, 0, 24, [])), (9, (0, 1, 1, [])), (10, (2, 0, 0, [193])), (11, (2, 0, 0, [190])), (12, (0, -1, 79, []))], [(10, [12, 11, 2], []), (9, [11, 1], [44]), (9, [10, 1], [50]), (8, [9], [1]), (10, [9, 6, 8], []), (10, [8, 7, 2], []), (9, [7, 1], [33]), (9, [6, 1], [42]), (8, [5], [0]), (10, [5, 4, 2], []), (9, [4, 1], [43]), (7, [2, 3], [2]), (9, [3, 1], [32]), (20, [1], [60, 1, 5, 106, 32, 33, 34, 43, 42, 44]), (20, [1, 2], [60, 1, 6, 108, 32, 33, 34, 43, 42, 44, 50]), (20, [2, 1], [30, 0, 1, 0, 0, -1, 1, 32]), (24, [0, 1], [])], [(12, (0, 0, 79, []))], [], [], [], [(2, 3, -4294967296, -1)])
theorem oo_Mo_bits_7 {kA : Nat → ClassId} : or_ok PRD kA GG o_Mo_bits_7 := by
  refine or_mk fun A ta ws vs hD hth hl => ?_
  intro t0 r0 t1 r1 t2 k2 t3 k3 t4 r4 t5 k5 t6 r6 t7 r7 t8 k8 t9 k9 t10 r10 t11 r11 t12 k12 d0 f0 f1 f2 f3 f4 f5 f6 f7 f8 f9 f10 f11 f12 f13 f14 f15 f16
  replace f0 := shm_107 f0
  replace f1 := shm_533 f1
  replace f2 := shm_528 f2
  replace f3 := shm_142 f3
  replace f4 := shm_107 f4
  replace f5 := shm_107 f5
  replace f6 := shm_494 f6
  replace f7 := shm_531 f7
  replace f8 := shm_192 f8
  replace f9 := shm_107 f9
  replace f10 := shm_532 f10
  replace f11 := shm_6 f11
  replace f12 := shm_525 f12
  replace f13 := shm_523 f13
  replace f14 := shm_526 f14
  replace f15 := shm_527 f15
  replace f16 := shm_5 f16
  have q1 : n_v vs 1 = n_v vs 0 := f16.symm
  simp only [q1] at f1 f2 f6 f7 f10 f12 f13 f14 f15
  have cr_0_33 := fdq_117 hD hth r0
  have cr_0_34 := fdq_118 hD hth r0
  have cr_0_42 := fdq_136 hD hth r0
  have cr_0_43 := fdq_137 hD hth r0
  have cr_0_44 := fdq_138 hD hth r0
  have cr_0_50 := fdq_139 hD hth r0
  have ad_11 : v_ad (n_v vs 11) = w_ar ws (n_v vs 0) 44 := congrArg v_ad f1
  have ad_10 : v_ad (n_v vs 10) = w_ar ws (n_v vs 0) 50 := congrArg v_ad f2
  have ad_7 : v_ad (n_v vs 7) = w_ar ws (n_v vs 0) 33 := congrArg v_ad f6
  have ad_6 : v_ad (n_v vs 6) = w_ar ws (n_v vs 0) 42 := congrArg v_ad f7
  have ad_4 : v_ad (n_v vs 4) = w_ar ws (n_v vs 0) 43 := congrArg v_ad f10
  simp only [ad_11] at f0
  have h0 : v_iv (n_v vs 12) = w_ei ws (w_ar ws (n_v vs 0) 44) (v_iv (n_v vs 2)) := f0
  simp only [ad_6] at f4
  have h4 : v_iv (n_v vs 9) = w_ei ws (w_ar ws (n_v vs 0) 42) (v_iv (n_v vs 8)) := f4
  simp only [ad_7] at f5
  have h5 : v_iv (n_v vs 8) = w_ei ws (w_ar ws (n_v vs 0) 33) (v_iv (n_v vs 2)) := f5
  simp only [ad_4] at f9
  have h9 : v_iv (n_v vs 5) = w_ei ws (w_ar ws (n_v vs 0) 43) (v_iv (n_v vs 2)) := f9
  have g12 : v_iv (n_v vs 3) = w_fi ws (n_v vs 0) 32 := congrArg v_iv f12
  have br_0_33_2_0 : w_ei ws (w_ar ws (n_v vs 0) 33) (v_iv (n_v vs 2)) = w_el ws (w_ar ws (n_v vs 0) 33) (v_iv (n_v vs 2)).toNat := rfl
  have br_0_42_8_0 : w_ei ws (w_ar ws (n_v vs 0) 42) (v_iv (n_v vs 8)) = w_el ws (w_ar ws (n_v vs 0) 42) (v_iv (n_v vs 8)).toNat := rfl
  have br_0_43_2_0 : w_ei ws (w_ar ws (n_v vs 0) 43) (v_iv (n_v vs 2)) = w_el ws (w_ar ws (n_v vs 0) 43) (v_iv (n_v vs 2)).toNat := rfl
  have br_0_44_2_0 : w_ei ws (w_ar ws (n_v vs 0) 44) (v_iv (n_v vs 2)) = w_el ws (w_ar ws (n_v vs 0) 44) (v_iv (n_v vs 2)).toNat := rfl
  have hK_0_33 := elq_60 hD hth cr_0_33
  have hK_0_34 := elq_61 hD hth cr_0_34
  have hK_0_42 := elq_75 hD hth cr_0_42
  have hK_0_43 := elq_76 hD hth cr_0_43
  have hK_0_44 := elq_77 hD hth cr_0_44
  have hK_0_50 := elq_78 hD hth cr_0_50
  have kz_0_32 := fdq_140 hD hth r0
  first | have hR := pcs_rng (e := v_iv (n_v vs 2)) ‹PCS _ _ _ _ _ _› (by omega) (by omega) (by omega) | skip
  have rf12 : tv_ok ta (0, 0, 79, []) (n_v vs 12) := tv_in t12 (by first | omega | grind) (by first | omega | grind)
  refine ⟨List.forall_mem_cons.mpr ⟨rf12, (fun _ h => (by cases h))⟩, [], trivial, ?_, (fun _ h => (by cases h))⟩
  rw [List.append_nil]
  exact (fun _ h => (by cases h))
set_option maxHeartbeats 4000000 in
theorem vc_Mo_bits_8_0 (x2 : Int) (x3 : Int) (x5 : Int) (x8 : Int) (x9 : Int) (x12 : Int) (x13 : Int) (x14 : Int) (x15 : Int) (x16 : Int) (x17 : Int) (x19 : Int) (x20 : Int) (x21 : Int) (drawnNode_0 : Int → Int) (ph_0 : Int → Int) (pt_0 : Int → Int) (drawnEdge_0 : Int → Int) (pieceOf_0 : Int → Int) (pm_0 : Int) (pt_1 : Int → Int) (ends_1 : Int → Int) (pieceOf_1 : Int → Int) (drawnNode_1 : Int → Int) (drawnEdge_1 : Int → Int) (pm_1 : Int) (ph_1 : Int → Int) (ends_0 : Int → Int) (k2 : 0 ≤ x2 ∧ x2 ≤ 79) (k3 : 1 ≤ x3 ∧ x3 ≤ 80) (k5 : 0 ≤ x5 ∧ x5 ≤ 0) (k8 : 0 ≤ x8 ∧ x8 ≤ 24) (k9 : 1 ≤ x9 ∧ x9 ≤ 1) (k12 : 0 ≤ x12 ∧ x12 ≤ 79) (k13 : 0 ≤ x13 ∧ x13 ≤ 33554431) (k14 : 1 ≤ x14 ∧ x14 ≤ 1) (k15 : 0 ≤ x15 ∧ x15 ≤ 24) (k16 : 1 ≤ x16 ∧ x16 ≤ 16777216) (k17 : 0 ≤ x17 ∧ x17 ≤ 33554431) (k19 : 0 ≤ x19 ∧ x19 ≤ 24) (k20 : 0 ≤ x20 ∧ x20 ≤ 0) (k21 : 1 ≤ x21 ∧ x21 ≤ 80) (d0 : x2 + 1 ≤ x21 ∧ x21 ≤ x2 + 1) (d1 : x3 + (-4294967296) ≤ x21 ∧ x21 ≤ x3 + 0) (d2 : x3 + (-4294967296) ≤ x2 ∧ x2 ≤ x3 + (-1)) (f0 : x21 = x2 + 1) (f1 : x20 = 0) (h2 : x20 = drawnNode_0 (x19)) (h3 : x19 = ph_0 (x2)) (f6 : PCS (pm_0) (pt_0) (ph_0) (drawnEdge_0) (drawnNode_0) (pieceOf_0)) (f7 : 1 * x2 + ((-1) * pm_0 + 0) ≤ 0) (f10 : x17 ≤ x13 + x16 ∧ x13 ≤ x17 ∧ x16 ≤ x17) (f11 : bvp (x17) = bvp (x13) ||| bvp (x16)) (f12 : bvp (x16) = bvp (x14) <<< (x15).toNat) (h13 : x15 = pt_1 (x2)) (h15 : x13 = ends_1 (x12)) (h16 : x12 = pieceOf_1 (x2)) (f19 : x9 ≠ 0) (h20 : x9 = drawnNode_1 (x8)) (h21 : x8 = pt_1 (x2)) (f22 : x5 = 0) (h23 : x5 = drawnEdge_1 (x2)) (f25 : x2 < x3) (g26 : x3 = pm_1) (f27 : PCS (pm_1) (pt_1) (ph_1) (drawnEdge_1) (drawnNode_1) (pieceOf_1)) (f28 : ENS (pm_1) (pt_1) (ph_1) (drawnEdge_1) (drawnNode_1) (pieceOf_1) (ends_1) (x2)) (f29 : 1 * x2 + ((-1) * pm_1 + 0) ≤ 0) (fe_0_32_1 : pm_0 = pm_1) (hE_0_33_1 : ∀ j : Int, pt_0 j = pt_1 j) (hK_0_33 : ∀ j : Int, 0 ≤ j → j < 80 → 0 ≤ pt_0 j ∧ pt_0 j ≤ 24) (hE_0_34_1 : ∀ j : Int, ph_0 j = ph_1 j) (hK_0_34 : ∀ j : Int, 0 ≤ j → j < 80 → 0 ≤ ph_0 j ∧ ph_0 j ≤ 24) (hE_0_42_1 : ∀ j : Int, drawnNode_0 j = drawnNode_1 j) (hK_0_42 : ∀ j : Int, 0 ≤ j → j < 26 → 0 ≤ drawnNode_0 j ∧ drawnNode_0 j ≤ 1) (hE_0_43_1 : ∀ j : Int, drawnEdge_0 j = drawnEdge_1 j) (hK_0_43 : ∀ j : Int, 0 ≤ j → j < 80 → 0 ≤ drawnEdge_0 j ∧ drawnEdge_0 j ≤ 1) (hE_0_44_1 : ∀ j : Int, pieceOf_0 j = pieceOf_1 j) (hK_0_44 : ∀ j : Int, 0 ≤ j → j < 80 → (-1) ≤ pieceOf_0 j ∧ pieceOf_0 j ≤ 79) (hE_0_50_1 : ∀ j : Int, 0 ≤ j → (j = x12 → ends_0 j = x17) ∧ (j ≠ x12 → ends_0 j = ends_1 j)) (hK_0_50 : ∀ j : Int, 0 ≤ j → j < 80 → 0 ≤ ends_0 j ∧ ends_0 j ≤ 33554431) (kz_0_32 : 0 ≤ pm_0 ∧ pm_0 ≤ 80) : ENS (pm_0) (pt_0) (ph_0) (drawnEdge_0) (drawnNode_0) (pieceOf_0) (ends_0) (x21) := by
  subst fe_0_32_1
  have e_hE_0_33_1 := funext hE_0_33_1; subst e_hE_0_33_1
  have e_hE_0_34_1 := funext hE_0_34_1; subst e_hE_0_34_1
  have e_hE_0_42_1 := funext hE_0_42_1; subst e_hE_0_42_1
  have e_hE_0_43_1 := funext hE_0_43_1; subst e_hE_0_43_1
  have e_hE_0_44_1 := funext hE_0_44_1; subst e_hE_0_44_1
  first
    | (have h := ‹EN0 _ _›
       intro p i p0 p1 i0 i1
       rw [h p p0 (by omega)]
       exact ⟨fun z => absurd z (bit_zero i), fun ⟨f, a, b, _⟩ => by exfalso; omega⟩)
    | (first | rw [show x6 = x2 + 1 by omega] | rw [show x7 = x2 + 1 by omega]
       exact ens_skip ‹ENS _ _ _ _ _ _ _ _› (by omega))
    | (have o1 := bit_or (n := x26) (a := x22) (b := x25) (by assumption)
       have s1 := fun i (h0 : 0 ≤ i) (h1 : i < 32) => bit_shl (n := x25) (a := x23) (b := x24) (i := i) (by assumption) (by omega) (by omega) h0 h1
       have o2 := bit_or (n := x17) (a := x13) (b := x16) (by assumption)
       have s2 := fun i (h0 : 0 ≤ i) (h1 : i < 32) => bit_shl (n := x16) (a := x14) (b := x15) (i := i) (by assumption) (by omega) (by omega) h0 h1
       rw [show x27 = x2 + 1 by omega]
       skip; (first | subst h2 | skip); (first | subst h3 | skip); (first | subst h13 | skip); (first | subst h15 | skip); (first | subst h16 | skip); (first | subst h20 | skip); (first | subst h21 | skip); (first | subst h23 | skip)
       have hr := pcs_rng (e := x2) ‹PCS _ _ _ _ _ _› (by omega) (by omega) (by omega)
       have v := (hE_0_50_1 (pieceOf_0 x2) (by omega)).1 rfl
       have w := (hE_0_50_2 (pieceOf_0 x2) (by omega)).1 rfl
       refine ens_step ‹ENS _ _ _ _ _ _ _ _› (by omega) (by omega) (fun p a b => by rw [(hE_0_50_1 p a).2 b, (hE_0_50_2 p a).2 b]) (fun i a b => ?_)
       rw [v, o1 i, s1 i a b, w, o2 i, s2 i a b]
       constructor
       · rintro ((z | z) | z)
         · exact Or.inl z
         · exact Or.inr (by omega)
         · exact Or.inr (by omega)
       · rintro (z | z | z)
         · exact Or.inl (Or.inl z)
         · exact Or.inl (Or.inr z.1)
         · exact Or.inr z.1)
    | (have o1 := bit_or (n := x20) (a := x16) (b := x19) (by assumption)
       have s1 := fun i (h0 : 0 ≤ i) (h1 : i < 32) => bit_shl (n := x19) (a := x17) (b := x18) (i := i) (by assumption) (by omega) (by omega) h0 h1
       rw [show x21 = x2 + 1 by omega]
       skip; (first | subst h2 | skip); (first | subst h3 | skip); (first | subst h13 | skip); (first | subst h15 | skip); (first | subst h16 | skip); (first | subst h20 | skip); (first | subst h21 | skip); (first | subst h23 | skip)
       have hr := pcs_rng (e := x2) ‹PCS _ _ _ _ _ _› (by omega) (by omega) (by omega)
       have v := (hE_0_50_1 (pieceOf_0 x2) (by omega)).1 rfl
       refine ens_step ‹ENS _ _ _ _ _ _ _ _› (by omega) (by omega) (fun p a b => (hE_0_50_1 p a).2 b) (fun i a b => ?_)
       rw [v, o1 i, s1 i a b]
       refine or_congr Iff.rfl ⟨fun z => ?_, fun z => ?_⟩ <;> omega)
    | (have o1 := bit_or (n := x17) (a := x13) (b := x16) (by assumption)
       have s1 := fun i (h0 : 0 ≤ i) (h1 : i < 32) => bit_shl (n := x16) (a := x14) (b := x15) (i := i) (by assumption) (by omega) (by omega) h0 h1
       rw [show x21 = x2 + 1 by omega]
       skip; (first | subst h2 | skip); (first | subst h3 | skip); (first | subst h13 | skip); (first | subst h15 | skip); (first | subst h16 | skip); (first | subst h20 | skip); (first | subst h21 | skip); (first | subst h23 | skip)
       have hr := pcs_rng (e := x2) ‹PCS _ _ _ _ _ _› (by omega) (by omega) (by omega)
       have v := (hE_0_50_1 (pieceOf_0 x2) (by omega)).1 rfl
       refine ens_step ‹ENS _ _ _ _ _ _ _ _› (by omega) (by omega) (fun p a b => (hE_0_50_1 p a).2 b) (fun i a b => ?_)
       rw [v, o1 i, s1 i a b]
       refine or_congr Iff.rfl ⟨fun z => ?_, fun z => ?_⟩ <;> omega)
    | (skip; (first | subst h2 | skip); (first | subst h3 | skip); (first | subst h13 | skip); (first | subst h15 | skip); (first | subst h16 | skip); (first | subst h20 | skip); (first | subst h21 | skip); (first | subst h23 | skip)
       first | rw [show x13 = x2 + 1 by omega] | rw [show x14 = x2 + 1 by omega] | rw [show x15 = x2 + 1 by omega]
       refine ens_step ‹ENS _ _ _ _ _ _ _ _› (by omega) (by omega) (fun _ _ _ => rfl) (fun i a b => ?_)
       constructor
       · exact Or.inl
       · rintro (z | z | z)
         · exact z
         · exfalso; omega
         · exfalso; omega)
set_option maxHeartbeats 4000000 in
theorem vc_Mo_bits_8_1 (x2 : Int) (x3 : Int) (x5 : Int) (x8 : Int) (x9 : Int) (x12 : Int) (x13 : Int) (x14 : Int) (x15 : Int) (x16 : Int) (x17 : Int) (x19 : Int) (x20 : Int) (x21 : Int) (drawnNode_0 : Int → Int) (ph_0 : Int → Int) (pt_0 : Int → Int) (drawnEdge_0 : Int → Int) (pieceOf_0 : Int → Int) (pm_0 : Int) (pt_1 : Int → Int) (ends_1 : Int → Int) (pieceOf_1 : Int → Int) (drawnNode_1 : Int → Int) (drawnEdge_1 : Int → Int) (pm_1 : Int) (ph_1 : Int → Int) (ends_0 : Int → Int) (k2 : 0 ≤ x2 ∧ x2 ≤ 79) (k3 : 1 ≤ x3 ∧ x3 ≤ 80) (k5 : 0 ≤ x5 ∧ x5 ≤ 0) (k8 : 0 ≤ x8 ∧ x8 ≤ 24) (k9 : 1 ≤ x9 ∧ x9 ≤ 1) (k12 : 0 ≤ x12 ∧ x12 ≤ 79) (k13 : 0 ≤ x13 ∧ x13 ≤ 33554431) (k14 : 1 ≤ x14 ∧ x14 ≤ 1) (k15 : 0 ≤ x15 ∧ x15 ≤ 24) (k16 : 1 ≤ x16 ∧ x16 ≤ 16777216) (k17 : 0 ≤ x17 ∧ x17 ≤ 33554431) (k19 : 0 ≤ x19 ∧ x19 ≤ 24) (k20 : 0 ≤ x20 ∧ x20 ≤ 0) (k21 : 1 ≤ x21 ∧ x21 ≤ 80) (d0 : x2 + 1 ≤ x21 ∧ x21 ≤ x2 + 1) (d1 : x3 + (-4294967296) ≤ x21 ∧ x21 ≤ x3 + 0) (d2 : x3 + (-4294967296) ≤ x2 ∧ x2 ≤ x3 + (-1)) (f0 : x21 = x2 + 1) (f1 : x20 = 0) (h2 : x20 = drawnNode_0 (x19)) (h3 : x19 = ph_0 (x2)) (f6 : PCS (pm_0) (pt_0) (ph_0) (drawnEdge_0) (drawnNode_0) (pieceOf_0)) (f7 : 1 * x2 + ((-1) * pm_0 + 0) ≤ 0) (f10 : x17 ≤ x13 + x16 ∧ x13 ≤ x17 ∧ x16 ≤ x17) (f11 : bvp (x17) = bvp (x13) ||| bvp (x16)) (f12 : bvp (x16) = bvp (x14) <<< (x15).toNat) (h13 : x15 = pt_1 (x2)) (h15 : x13 = ends_1 (x12)) (h16 : x12 = pieceOf_1 (x2)) (f19 : x9 ≠ 0) (h20 : x9 = drawnNode_1 (x8)) (h21 : x8 = pt_1 (x2)) (f22 : x5 = 0) (h23 : x5 = drawnEdge_1 (x2)) (f25 : x2 < x3) (g26 : x3 = pm_1) (f27 : PCS (pm_1) (pt_1) (ph_1) (drawnEdge_1) (drawnNode_1) (pieceOf_1)) (f28 : ENS (pm_1) (pt_1) (ph_1) (drawnEdge_1) (drawnNode_1) (pieceOf_1) (ends_1) (x2)) (f29 : 1 * x2 + ((-1) * pm_1 + 0) ≤ 0) (fe_0_32_1 : pm_0 = pm_1) (hE_0_33_1 : ∀ j : Int, pt_0 j = pt_1 j) (hK_0_33 : ∀ j : Int, 0 ≤ j → j < 80 → 0 ≤ pt_0 j ∧ pt_0 j ≤ 24) (hE_0_34_1 : ∀ j : Int, ph_0 j = ph_1 j) (hK_0_34 : ∀ j : Int, 0 ≤ j → j < 80 → 0 ≤ ph_0 j ∧ ph_0 j ≤ 24) (hE_0_42_1 : ∀ j : Int, drawnNode_0 j = drawnNode_1 j) (hK_0_42 : ∀ j : Int, 0 ≤ j → j < 26 → 0 ≤ drawnNode_0 j ∧ drawnNode_0 j ≤ 1) (hE_0_43_1 : ∀ j : Int, drawnEdge_0 j = drawnEdge_1 j) (hK_0_43 : ∀ j : Int, 0 ≤ j → j < 80 → 0 ≤ drawnEdge_0 j ∧ drawnEdge_0 j ≤ 1) (hE_0_44_1 : ∀ j : Int, pieceOf_0 j = pieceOf_1 j) (hK_0_44 : ∀ j : Int, 0 ≤ j → j < 80 → (-1) ≤ pieceOf_0 j ∧ pieceOf_0 j ≤ 79) (hE_0_50_1 : ∀ j : Int, 0 ≤ j → (j = x12 → ends_0 j = x17) ∧ (j ≠ x12 → ends_0 j = ends_1 j)) (hK_0_50 : ∀ j : Int, 0 ≤ j → j < 80 → 0 ≤ ends_0 j ∧ ends_0 j ≤ 33554431) (kz_0_32 : 0 ≤ pm_0 ∧ pm_0 ≤ 80) : 1 * x21 + ((-1) * pm_0 + 0) ≤ 0 := by
  subst fe_0_32_1
  have e_hE_0_33_1 := funext hE_0_33_1; subst e_hE_0_33_1
  have e_hE_0_34_1 := funext hE_0_34_1; subst e_hE_0_34_1
  have e_hE_0_42_1 := funext hE_0_42_1; subst e_hE_0_42_1
  have e_hE_0_43_1 := funext hE_0_43_1; subst e_hE_0_43_1
  have e_hE_0_44_1 := funext hE_0_44_1; subst e_hE_0_44_1
  first | omega
def o_Mo_bits_8 : or_T := (25, 22, [(0, (2, 0, 0, [165])), (1, (2, 0, 0, [165])), (2, (0, 0, 79, [])), (3, (0, 1, 80, [])), (4, (2, 0, 0, [189])), (5, (0, 0, 0, [])), (6, (2, 0, 0, [188])), (7, (2, 0, 0, [180])), (8, (0, 0, 24, [])), (9, (0, 1, 1, [])), (10, (2, 0, 0, [193])), (11, (2, 0, 0, [190])), (12, (0, 0, 79, [])), (13, (0, 0, 33554431, [])), (14, (0, 1, 1, [])), (15, (0, 0, 24, [])), (16, (0, 1, 16777216, [])), (17, (0, 0, 33554431, [])), (18, (2, 0, 0, [181])), (19, (0, 0, 24, [])), (20, (0, 0, 0, [])), (21, (0, 1, 80, []))], [(6, [21, 2], [1]), (8, [20], [0]), (10, [20, 6, 19], []), (10, [19, 18, 2], []), (9, [18, 1], [34]), (9, [6, 1], [42]), (20, [1], [60, 1, 5, 106, 32, 33, 34, 43, 42, 44]), (20, [2, 1], [30, 0, 1, 0, 0, -1, 1, 32]), (24, [0, 1], []), (100, [10, 12, 17], []), (13, [17, 13, 16], []), (16, [17, 13, 16], [1]), (16, [16, 14, 15], [3]), (10, [15, 7, 2], []), (9, [7, 1], [33]), (10, [13, 10, 12], []), (10, [12, 11, 2], []), (9, [11, 1], [44]), (9, [10, 1], [50]), (8, [9], [1]), (10, [9, 6, 8], []), (10, [8, 7, 2], []), (8, [5], [0]), (10, [5, 4, 2], []), (9, [4, 1], [43]), (7, [2, 3], [2]), (9, [3, 1], [32]), (20, [1], [60, 1, 5, 106, 32, 33, 34, 43, 42, 44]), (20, [1, 2], [60, 1, 6, 108, 32, 33, 34, 43, 42, 44, 50]), (20, [2, 1], [30, 0, 1, 0, 0, -1, 1, 32])], [], [], [(20, [1, 21], [60, 1, 6, 108, 32, 33, 34, 43, 42, 44, 50]), (20, [21, 1], [30, 0, 1, 0, 0, -1, 1, 32])], [], [(21, 2, 1, 1), (21, 3, -4294967296, 0), (2, 3, -4294967296, -1)])
theorem oo_Mo_bits_8 {kA : Nat → ClassId} : or_ok PRD kA GG o_Mo_bits_8 := by
  refine or_mk fun A ta ws vs hD hth hl => ?_
  intro t0 r0 t1 r1 t2 k2 t3 k3 t4 r4 t5 k5 t6 r6 t7 r7 t8 k8 t9 k9 t10 r10 t11 r11 t12 k12 t13 k13 t14 k14 t15 k15 t16 k16 t17 k17 t18 r18 t19 k19 t20 k20 t21 k21 d0 d1 d2 f0 f1 f2 f3 f4 f5 f6 f7 f8 ta1 w1 le1 s1 f10 f11 f12 f13 f14 f15 f16 f17 f18 f19 f20 f21 f22 f23 f24 f25 f26 f27 f28 f29
  replace f0 := shm_4 f0
  replace f1 := shm_192 f1
  replace f2 := shm_107 f2
  replace f3 := shm_107 f3
  replace f4 := shm_496 f4
  replace f5 := shm_531 f5
  replace f6 := shm_523 f6
  replace f7 := shm_527 f7
  replace f8 := shm_5 f8
  have s1 : (∀ b j, w_el ws b j = if b = v_ad (n_v vs 10) ∧ j = (v_iv (n_v vs 12)).toNat then v_iv (n_v vs 17) else w_el w1 b j) ∧ ∀ b k, w_fd ws b k = w_fd w1 b k := s1.2
  have f10 : v_iv (n_v vs 17) ≤ v_iv (n_v vs 13) + v_iv (n_v vs 16) ∧ v_iv (n_v vs 13) ≤ v_iv (n_v vs 17) ∧ v_iv (n_v vs 16) ≤ v_iv (n_v vs 17) := (fun (h : v_iv (n_v vs 17) ≤ v_iv (n_v vs 13) + v_iv (n_v vs 16) ∧ v_iv (n_v vs 13) ≤ v_iv (n_v vs 17) ∧ v_iv (n_v vs 16) ≤ v_iv (n_v vs 17) ∧ (v_iv (n_v vs 17)).toNat = (v_iv (n_v vs 13)).toNat ||| (v_iv (n_v vs 16)).toNat) => ⟨h.1, h.2.1, h.2.2.1⟩) f10
  replace f11 := shm_354 f11
  replace f12 := shm_349 f12
  replace f13 := shm_107 f13
  replace f14 := shm_494 f14
  replace f15 := shm_107 f15
  replace f16 := shm_107 f16
  replace f17 := shm_533 f17
  replace f18 := shm_528 f18
  replace f19 := shm_142 f19
  replace f20 := shm_107 f20
  replace f21 := shm_107 f21
  replace f22 := shm_192 f22
  replace f23 := shm_107 f23
  replace f24 := shm_532 f24
  replace f25 := shm_6 f25
  replace f26 := shm_525 f26
  replace f27 := shm_523 f27
  replace f28 := shm_526 f28
  replace f29 := shm_527 f29
  have q1 : n_v vs 1 = n_v vs 0 := f8.symm
  simp only [q1] at f4 f5 f6 f7 f14 f17 f18 f24 f26 f27 f28 f29
  have ar_0_33_1 : w_ar w1 (n_v vs 0) 33 = w_ar ws (n_v vs 0) 33 := congrArg v_ad (s1.2 _ _).symm
  have cr_0_33 := fdq_117 hD hth r0
  have ar_0_34_1 : w_ar w1 (n_v vs 0) 34 = w_ar ws (n_v vs 0) 34 := congrArg v_ad (s1.2 _ _).symm
  have cr_0_34 := fdq_118 hD hth r0
  have ar_0_42_1 : w_ar w1 (n_v vs 0) 42 = w_ar ws (n_v vs 0) 42 := congrArg v_ad (s1.2 _ _).symm
  have cr_0_42 := fdq_136 hD hth r0
  have ar_0_43_1 : w_ar w1 (n_v vs 0) 43 = w_ar ws (n_v vs 0) 43 := congrArg v_ad (s1.2 _ _).symm
  have cr_0_43 := fdq_137 hD hth r0
  have ar_0_44_1 : w_ar w1 (n_v vs 0) 44 = w_ar ws (n_v vs 0) 44 := congrArg v_ad (s1.2 _ _).symm
  have cr_0_44 := fdq_138 hD hth r0
  have ar_0_50_1 : w_ar w1 (n_v vs 0) 50 = w_ar ws (n_v vs 0) 50 := congrArg v_ad (s1.2 _ _).symm
  have cr_0_50 := fdq_139 hD hth r0
  have ad_18 : v_ad (n_v vs 18) = w_ar ws (n_v vs 0) 34 := congrArg v_ad f4
  have ad_6 : v_ad (n_v vs 6) = w_ar ws (n_v vs 0) 42 := congrArg v_ad f5
  have ad_7 : v_ad (n_v vs 7) = w_ar ws (n_v vs 0) 33 := (congrArg v_ad f14).trans ar_0_33_1
  have ad_11 : v_ad (n_v vs 11) = w_ar ws (n_v vs 0) 44 := (congrArg v_ad f17).trans ar_0_44_1
  have ad_10 : v_ad (n_v vs 10) = w_ar ws (n_v vs 0) 50 := (congrArg v_ad f18).trans ar_0_50_1
  have ad_4 : v_ad (n_v vs 4) = w_ar ws (n_v vs 0) 43 := (congrArg v_ad f24).trans ar_0_43_1
  simp only [ad_6] at f2
  have h2 : v_iv (n_v vs 20) = w_ei ws (w_ar ws (n_v vs 0) 42) (v_iv (n_v vs 19)) := f2
  simp only [ad_18] at f3
  have h3 : v_iv (n_v vs 19) = w_ei ws (w_ar ws (n_v vs 0) 34) (v_iv (n_v vs 2)) := f3
  simp only [ad_7] at f13
  have h13 : v_iv (n_v vs 15) = w_ei w1 (w_ar ws (n_v vs 0) 33) (v_iv (n_v vs 2)) := f13
  simp only [ad_10] at f15
  have h15 : v_iv (n_v vs 13) = w_ei w1 (w_ar ws (n_v vs 0) 50) (v_iv (n_v vs 12)) := f15
  simp only [ad_11] at f16
  have h16 : v_iv (n_v vs 12) = w_ei w1 (w_ar ws (n_v vs 0) 44) (v_iv (n_v vs 2)) := f16
  simp only [ad_6] at f20
  have h20 : v_iv (n_v vs 9) = w_ei w1 (w_ar ws (n_v vs 0) 42) (v_iv (n_v vs 8)) := f20
  simp only [ad_7] at f21
  have h21 : v_iv (n_v vs 8) = w_ei w1 (w_ar ws (n_v vs 0) 33) (v_iv (n_v vs 2)) := f21
  simp only [ad_4] at f23
  have h23 : v_iv (n_v vs 5) = w_ei w1 (w_ar ws (n_v vs 0) 43) (v_iv (n_v vs 2)) := f23
  have g26 : v_iv (n_v vs 3) = w_fi w1 (n_v vs 0) 32 := congrArg v_iv f26
  simp only [ar_0_33_1, ar_0_34_1, ar_0_42_1, ar_0_43_1, ar_0_44_1, ar_0_50_1] at f27 f28
  have fe_0_32_1 : w_fi ws (n_v vs 0) 32 = w_fi w1 (n_v vs 0) 32 := congrArg v_iv (s1.2 _ _)
  have hE_0_33_1 : ∀ j : Int, w_ei ws (w_ar ws (n_v vs 0) 33) j = w_ei w1 (w_ar ws (n_v vs 0) 33) j := el_kp s1.1 r10 cr_0_33 (by decide)
  have hK_0_33 := elq_60 hD hth cr_0_33
  have hE_0_34_1 : ∀ j : Int, w_ei ws (w_ar ws (n_v vs 0) 34) j = w_ei w1 (w_ar ws (n_v vs 0) 34) j := el_kp s1.1 r10 cr_0_34 (by decide)
  have hK_0_34 := elq_61 hD hth cr_0_34
  have hE_0_42_1 : ∀ j : Int, w_ei ws (w_ar ws (n_v vs 0) 42) j = w_ei w1 (w_ar ws (n_v vs 0) 42) j := el_kp s1.1 r10 cr_0_42 (by decide)
  have hK_0_42 := elq_75 hD hth cr_0_42
  have hE_0_43_1 : ∀ j : Int, w_ei ws (w_ar ws (n_v vs 0) 43) j = w_ei w1 (w_ar ws (n_v vs 0) 43) j := el_kp s1.1 r10 cr_0_43 (by decide)
  have hK_0_43 := elq_76 hD hth cr_0_43
  have hE_0_44_1 : ∀ j : Int, w_ei ws (w_ar ws (n_v vs 0) 44) j = w_ei w1 (w_ar ws (n_v vs 0) 44) j := el_kp s1.1 r10 cr_0_44 (by decide)
  have hK_0_44 := elq_77 hD hth cr_0_44
  have hE_0_50_1 : ∀ j : Int, 0 ≤ j → (j = v_iv (n_v vs 12) → w_ei ws (w_ar ws (n_v vs 0) 50) j = v_iv (n_v vs 17)) ∧ (j ≠ v_iv (n_v vs 12) → w_ei ws (w_ar ws (n_v vs 0) 50) j = w_ei w1 (w_ar ws (n_v vs 0) 50) j) := fun j hj => ⟨fun h => by unfold w_ei; rw [s1.1, if_pos ⟨ad_10.symm, by rw [h]⟩], fun h => by unfold w_ei; rw [s1.1, if_neg (fun e => h (by have := e.2; omega))]⟩
  have hK_0_50 := elq_78 hD hth cr_0_50
  have kz_0_32 := fdq_140 hD hth r0
  have nf0 : fc_1 PRD (20, [1, 21], [60, 1, 6, 108, 32, 33, 34, 43, 42, 44, 50]) ws (vs) := by
    refine ⟨nf_in hl rfl, sgq_526 ?_⟩
    · show ENS (w_fi ws (n_v vs 1) 32) (w_ei ws (w_ar ws (n_v vs 1) 33)) (w_ei ws (w_ar ws (n_v vs 1) 34)) (w_ei ws (w_ar ws (n_v vs 1) 43)) (w_ei ws (w_ar ws (n_v vs 1) 42)) (w_ei ws (w_ar ws (n_v vs 1) 44)) (w_ei ws (w_ar ws (n_v vs 1) 50)) (v_iv (n_v vs 21))
      rw [q1]
      exact vc_Mo_bits_8_0 (v_iv (n_v vs 2)) (v_iv (n_v vs 3)) (v_iv (n_v vs 5)) (v_iv (n_v vs 8)) (v_iv (n_v vs 9)) (v_iv (n_v vs 12)) (v_iv (n_v vs 13)) (v_iv (n_v vs 14)) (v_iv (n_v vs 15)) (v_iv (n_v vs 16)) (v_iv (n_v vs 17)) (v_iv (n_v vs 19)) (v_iv (n_v vs 20)) (v_iv (n_v vs 21)) (w_ei ws (w_ar ws (n_v vs 0) 42)) (w_ei ws (w_ar ws (n_v vs 0) 34)) (w_ei ws (w_ar ws (n_v vs 0) 33)) (w_ei ws (w_ar ws (n_v vs 0) 43)) (w_ei ws (w_ar ws (n_v vs 0) 44)) (w_fi ws (n_v vs 0) 32) (w_ei w1 (w_ar ws (n_v vs 0) 33)) (w_ei w1 (w_ar ws (n_v vs 0) 50)) (w_ei w1 (w_ar ws (n_v vs 0) 44)) (w_ei w1 (w_ar ws (n_v vs 0) 42)) (w_ei w1 (w_ar ws (n_v vs 0) 43)) (w_fi w1 (n_v vs 0) 32) (w_ei w1 (w_ar ws (n_v vs 0) 34)) (w_ei ws (w_ar ws (n_v vs 0) 50)) k2 k3 k5 k8 k9 k12 k13 k14 k15 k16 k17 k19 k20 k21 d0 d1 d2 f0 f1 h2 h3 f6 f7 f10 f11 f12 h13 h15 h16 f19 h20 h21 f22 h23 f25 g26 f27 f28 f29 fe_0_32_1 hE_0_33_1 hK_0_33 hE_0_34_1 hK_0_34 hE_0_42_1 hK_0_42 hE_0_43_1 hK_0_43 hE_0_44_1 hK_0_44 hE_0_50_1 hK_0_50 kz_0_32
  have nf1 : fc_1 PRD (20, [21, 1], [30, 0, 1, 0, 0, -1, 1, 32]) ws (vs) := by
    refine ⟨nf_in hl rfl, sgq_527 ?_⟩
    · show 1 * v_iv (n_v vs 21) + ((-1) * w_fi ws (n_v vs 1) 32 + 0) ≤ 0
      rw [q1]
      exact vc_Mo_bits_8_1 (v_iv (n_v vs 2)) (v_iv (n_v vs 3)) (v_iv (n_v vs 5)) (v_iv (n_v vs 8)) (v_iv (n_v vs 9)) (v_iv (n_v vs 12)) (v_iv (n_v vs 13)) (v_iv (n_v vs 14)) (v_iv (n_v vs 15)) (v_iv (n_v vs 16)) (v_iv (n_v vs 17)) (v_iv (n_v vs 19)) (v_iv (n_v vs 20)) (v_iv (n_v vs 21)) (w_ei ws (w_ar ws (n_v vs 0) 42)) (w_ei ws (w_ar ws (n_v vs 0) 34)) (w_ei ws (w_ar ws (n_v vs 0) 33)) (w_ei ws (w_ar ws (n_v vs 0) 43)) (w_ei ws (w_ar ws (n_v vs 0) 44)) (w_fi ws (n_v vs 0) 32) (w_ei w1 (w_ar ws (n_v vs 0) 33)) (w_ei w1 (w_ar ws (n_v vs 0) 50)) (w_ei w1 (w_ar ws (n_v vs 0) 44)) (w_ei w1 (w_ar ws (n_v vs 0) 42)) (w_ei w1 (w_ar ws (n_v vs 0) 43)) (w_fi w1 (n_v vs 0) 32) (w_ei w1 (w_ar ws (n_v vs 0) 34)) (w_ei ws (w_ar ws (n_v vs 0) 50)) k2 k3 k5 k8 k9 k12 k13 k14 k15 k16 k17 k19 k20 k21 d0 d1 d2 f0 f1 h2 h3 f6 f7 f10 f11 f12 h13 h15 h16 f19 h20 h21 f22 h23 f25 g26 f27 f28 f29 fe_0_32_1 hE_0_33_1 hK_0_33 hE_0_34_1 hK_0_34 hE_0_42_1 hK_0_42 hE_0_43_1 hK_0_43 hE_0_44_1 hK_0_44 hE_0_50_1 hK_0_50 kz_0_32
  refine ⟨(fun _ h => (by cases h)), [], trivial, ?_, (fun _ h => (by cases h))⟩
  rw [List.append_nil]
  exact List.forall_mem_cons.mpr ⟨⟨show (20 : Nat) < 100 from by decide, nf0⟩, List.forall_mem_cons.mpr ⟨⟨show (20 : Nat) < 100 from by decide, nf1⟩, (fun _ h => (by cases h))⟩⟩
def o_Mo_bits_9 : or_T := (106, 22, [(0, (2, 0, 0, [165])), (1, (2, 0, 0, [165])), (2, (0, 0, 79, [])), (3, (0, 1, 80, [])), (4, (2, 0, 0, [189])), (5, (0, 0, 0, [])), (6, (2, 0, 0, [188])), (7, (2, 0, 0, [180])), (8, (0, 0, 24, [])), (9, (0, 1, 1, [])), (10, (2, 0, 0, [193])), (11, (2, 0, 0, [190])), (12, (0, 0, 79, [])), (13, (0, 0, 33554431, [])), (14, (0, 1, 1, [])), (15, (0, 0, 24, [])), (16, (0, 1, 16777216, [])), (17, (0, 0, 33554431, [])), (18, (2, 0, 0, [181])), (19, (0, 0, 24, [])), (20, (0, 1, 1, [])), (21, (0, -1, 79, []))], [(10, [21, 11, 2], []), (9, [11, 1], [44]), (9, [10, 1], [50]), (8, [20], [1]), (10, [20, 6, 19], []), (10, [19, 18, 2], []), (9, [18, 1], [34]), (9, [6, 1], [42]), (20, [1], [60, 1, 5, 106, 32, 33, 34, 43, 42, 44]), (20, [2, 1], [30, 0, 1, 0, 0, -1, 1, 32]), (24, [0, 1], []), (100, [10, 12, 17], []), (13, [17, 13, 16], []), (16, [17, 13, 16], [1]), (16, [16, 14, 15], [3]), (10, [15, 7, 2], []), (9, [7, 1], [33]), (10, [13, 10, 12], []), (10, [12, 11, 2], []), (8, [9], [1]), (10, [9, 6, 8], []), (10, [8, 7, 2], []), (8, [5], [0]), (10, [5, 4, 2], []), (9, [4, 1], [43]), (7, [2, 3], [2]), (9, [3, 1], [32]), (20, [1], [60, 1, 5, 106, 32, 33, 34, 43, 42, 44]), (20, [1, 2], [60, 1, 6, 108, 32, 33, 34, 43, 42, 44, 50]), (20, [2, 1], [30, 0, 1, 0, 0, -1, 1, 32])], [(21, (0, 0, 79, []))], [], [], [], [(2, 3, -4294967296, -1)])
theorem oo_Mo_bits_9 {kA : Nat → ClassId} : or_ok PRD kA GG o_Mo_bits_9 := by
  refine or_mk fun A ta ws vs hD hth hl => ?_
  intro t0 r0 t1 r1 t2 k2 t3 k3 t4 r4 t5 k5 t6 r6 t7 r7 t8 k8 t9 k9 t10 r10 t11 r11 t12 k12 t13 k13 t14 k14 t15 k15 t16 k16 t17 k17 t18 r18 t19 k19 t20 k20 t21 k21 d0 f0 f1 f2 f3 f4 f5 f6 f7 f8 f9 f10 ta1 w1 le1 s1 f12 f13 f14 f15 f16 f17 f18 f19 f20 f21 f22 f23 f24 f25 f26 f27 f28 f29
  replace f0 := shm_107 f0
  replace f1 := shm_533 f1
  replace f2 := shm_528 f2
  replace f3 := shm_142 f3
  replace f4 := shm_107 f4
  replace f5 := shm_107 f5
  replace f6 := shm_496 f6
  replace f7 := shm_531 f7
  replace f8 := shm_523 f8
  replace f9 := shm_527 f9
  replace f10 := shm_5 f10
  have s1 : (∀ b j, w_el ws b j = if b = v_ad (n_v vs 10) ∧ j = (v_iv (n_v vs 12)).toNat then v_iv (n_v vs 17) else w_el w1 b j) ∧ ∀ b k, w_fd ws b k = w_fd w1 b k := s1.2
  have f12 : v_iv (n_v vs 17) ≤ v_iv (n_v vs 13) + v_iv (n_v vs 16) ∧ v_iv (n_v vs 13) ≤ v_iv (n_v vs 17) ∧ v_iv (n_v vs 16) ≤ v_iv (n_v vs 17) := (fun (h : v_iv (n_v vs 17) ≤ v_iv (n_v vs 13) + v_iv (n_v vs 16) ∧ v_iv (n_v vs 13) ≤ v_iv (n_v vs 17) ∧ v_iv (n_v vs 16) ≤ v_iv (n_v vs 17) ∧ (v_iv (n_v vs 17)).toNat = (v_iv (n_v vs 13)).toNat ||| (v_iv (n_v vs 16)).toNat) => ⟨h.1, h.2.1, h.2.2.1⟩) f12
  replace f13 := shm_354 f13
  replace f14 := shm_349 f14
  replace f15 := shm_107 f15
  replace f16 := shm_494 f16
  replace f17 := shm_107 f17
  replace f18 := shm_107 f18
  replace f19 := shm_142 f19
  replace f20 := shm_107 f20
  replace f21 := shm_107 f21
  replace f22 := shm_192 f22
  replace f23 := shm_107 f23
  replace f24 := shm_532 f24
  replace f25 := shm_6 f25
  replace f26 := shm_525 f26
  replace f27 := shm_523 f27
  replace f28 := shm_526 f28
  replace f29 := shm_527 f29
  have q1 : n_v vs 1 = n_v vs 0 := f10.symm
  simp only [q1] at f1 f2 f6 f7 f8 f9 f16 f24 f26 f27 f28 f29
  have ar_0_33_1 : w_ar w1 (n_v vs 0) 33 = w_ar ws (n_v vs 0) 33 := congrArg v_ad (s1.2 _ _).symm
  have cr_0_33 := fdq_117 hD hth r0
  have ar_0_34_1 : w_ar w1 (n_v vs 0) 34 = w_ar ws (n_v vs 0) 34 := congrArg v_ad (s1.2 _ _).symm
  have cr_0_34 := fdq_118 hD hth r0
  have ar_0_42_1 : w_ar w1 (n_v vs 0) 42 = w_ar ws (n_v vs 0) 42 := congrArg v_ad (s1.2 _ _).symm
  have cr_0_42 := fdq_136 hD hth r0
  have ar_0_43_1 : w_ar w1 (n_v vs 0) 43 = w_ar ws (n_v vs 0) 43 := congrArg v_ad (s1.2 _ _).symm
  have cr_0_43 := fdq_137 hD hth r0
  have ar_0_44_1 : w_ar w1 (n_v vs 0) 44 = w_ar ws (n_v vs 0) 44 := congrArg v_ad (s1.2 _ _).symm
  have cr_0_44 := fdq_138 hD hth r0
  have ar_0_50_1 : w_ar w1 (n_v vs 0) 50 = w_ar ws (n_v vs 0) 50 := congrArg v_ad (s1.2 _ _).symm
  have cr_0_50 := fdq_139 hD hth r0
  have ad_11 : v_ad (n_v vs 11) = w_ar ws (n_v vs 0) 44 := congrArg v_ad f1
  have ad_10 : v_ad (n_v vs 10) = w_ar ws (n_v vs 0) 50 := congrArg v_ad f2
  have ad_18 : v_ad (n_v vs 18) = w_ar ws (n_v vs 0) 34 := congrArg v_ad f6
  have ad_6 : v_ad (n_v vs 6) = w_ar ws (n_v vs 0) 42 := congrArg v_ad f7
  have ad_7 : v_ad (n_v vs 7) = w_ar ws (n_v vs 0) 33 := (congrArg v_ad f16).trans ar_0_33_1
  have ad_4 : v_ad (n_v vs 4) = w_ar ws (n_v vs 0) 43 := (congrArg v_ad f24).trans ar_0_43_1
  simp only [ad_11] at f0
  have h0 : v_iv (n_v vs 21) = w_ei ws (w_ar ws (n_v vs 0) 44) (v_iv (n_v vs 2)) := f0
  simp only [ad_6] at f4
  have h4 : v_iv (n_v vs 20) = w_ei ws (w_ar ws (n_v vs 0) 42) (v_iv (n_v vs 19)) := f4
  simp only [ad_18] at f5
  have h5 : v_iv (n_v vs 19) = w_ei ws (w_ar ws (n_v vs 0) 34) (v_iv (n_v vs 2)) := f5
  simp only [ad_7] at f15
  have h15 : v_iv (n_v vs 15) = w_ei w1 (w_ar ws (n_v vs 0) 33) (v_iv (n_v vs 2)) := f15
  simp only [ad_10] at f17
  have h17 : v_iv (n_v vs 13) = w_ei w1 (w_ar ws (n_v vs 0) 50) (v_iv (n_v vs 12)) := f17
  simp only [ad_11] at f18
  have h18 : v_iv (n_v vs 12) = w_ei w1 (w_ar ws (n_v vs 0) 44) (v_iv (n_v vs 2)) := f18
  simp only [ad_6] at f20
  have h20 : v_iv (n_v vs 9) = w_ei w1 (w_ar ws (n_v vs 0) 42) (v_iv (n_v vs 8)) := f20
  simp only [ad_7] at f21
  have h21 : v_iv (n_v vs 8) = w_ei w1 (w_ar ws (n_v vs 0) 33) (v_iv (n_v vs 2)) := f21
  simp only [ad_4] at f23
  have h23 : v_iv (n_v vs 5) = w_ei w1 (w_ar ws (n_v vs 0) 43) (v_iv (n_v vs 2)) := f23
  have g26 : v_iv (n_v vs 3) = w_fi w1 (n_v vs 0) 32 := congrArg v_iv f26
  simp only [ar_0_33_1, ar_0_34_1, ar_0_42_1, ar_0_43_1, ar_0_44_1, ar_0_50_1] at f27 f28
  have fe_0_32_1 : w_fi ws (n_v vs 0) 32 = w_fi w1 (n_v vs 0) 32 := congrArg v_iv (s1.2 _ _)
  have ee_0_33_2_1 : w_el ws (w_ar ws (n_v vs 0) 33) (v_iv (n_v vs 2)).toNat = w_el w1 (w_ar ws (n_v vs 0) 33) (v_iv (n_v vs 2)).toNat := by rw [s1.1, if_neg (fun e => by have e1 := e.1; rw [← e1] at r10; rw [cr_0_33] at r10; exact absurd (Option.some.inj r10) (by decide))]
  have ee_0_34_2_1 : w_el ws (w_ar ws (n_v vs 0) 34) (v_iv (n_v vs 2)).toNat = w_el w1 (w_ar ws (n_v vs 0) 34) (v_iv (n_v vs 2)).toNat := by rw [s1.1, if_neg (fun e => by have e1 := e.1; rw [← e1] at r10; rw [cr_0_34] at r10; exact absurd (Option.some.inj r10) (by decide))]
  have ee_0_42_19_1 : w_el ws (w_ar ws (n_v vs 0) 42) (v_iv (n_v vs 19)).toNat = w_el w1 (w_ar ws (n_v vs 0) 42) (v_iv (n_v vs 19)).toNat := by rw [s1.1, if_neg (fun e => by have e1 := e.1; rw [← e1] at r10; rw [cr_0_42] at r10; exact absurd (Option.some.inj r10) (by decide))]
  have ee_0_42_8_1 : w_el ws (w_ar ws (n_v vs 0) 42) (v_iv (n_v vs 8)).toNat = w_el w1 (w_ar ws (n_v vs 0) 42) (v_iv (n_v vs 8)).toNat := by rw [s1.1, if_neg (fun e => by have e1 := e.1; rw [← e1] at r10; rw [cr_0_42] at r10; exact absurd (Option.some.inj r10) (by decide))]
  have ee_0_43_2_1 : w_el ws (w_ar ws (n_v vs 0) 43) (v_iv (n_v vs 2)).toNat = w_el w1 (w_ar ws (n_v vs 0) 43) (v_iv (n_v vs 2)).toNat := by rw [s1.1, if_neg (fun e => by have e1 := e.1; rw [← e1] at r10; rw [cr_0_43] at r10; exact absurd (Option.some.inj r10) (by decide))]
  have ee_0_44_2_1 : w_el ws (w_ar ws (n_v vs 0) 44) (v_iv (n_v vs 2)).toNat = w_el w1 (w_ar ws (n_v vs 0) 44) (v_iv (n_v vs 2)).toNat := by rw [s1.1, if_neg (fun e => by have e1 := e.1; rw [← e1] at r10; rw [cr_0_44] at r10; exact absurd (Option.some.inj r10) (by decide))]
  have ee_0_50_12_1 : w_el ws (w_ar ws (n_v vs 0) 50) (v_iv (n_v vs 12)).toNat = v_iv (n_v vs 17) := by rw [s1.1, if_pos ⟨ad_10.symm, rfl⟩]
  have br_0_33_2_0 : w_ei ws (w_ar ws (n_v vs 0) 33) (v_iv (n_v vs 2)) = w_el ws (w_ar ws (n_v vs 0) 33) (v_iv (n_v vs 2)).toNat := rfl
  have br_0_33_2_1 : w_ei w1 (w_ar ws (n_v vs 0) 33) (v_iv (n_v vs 2)) = w_el w1 (w_ar ws (n_v vs 0) 33) (v_iv (n_v vs 2)).toNat := rfl
  have br_0_34_2_0 : w_ei ws (w_ar ws (n_v vs 0) 34) (v_iv (n_v vs 2)) = w_el ws (w_ar ws (n_v vs 0) 34) (v_iv (n_v vs 2)).toNat := rfl
  have br_0_34_2_1 : w_ei w1 (w_ar ws (n_v vs 0) 34) (v_iv (n_v vs 2)) = w_el w1 (w_ar ws (n_v vs 0) 34) (v_iv (n_v vs 2)).toNat := rfl
  have br_0_42_19_0 : w_ei ws (w_ar ws (n_v vs 0) 42) (v_iv (n_v vs 19)) = w_el ws (w_ar ws (n_v vs 0) 42) (v_iv (n_v vs 19)).toNat := rfl
  have br_0_42_19_1 : w_ei w1 (w_ar ws (n_v vs 0) 42) (v_iv (n_v vs 19)) = w_el w1 (w_ar ws (n_v vs 0) 42) (v_iv (n_v vs 19)).toNat := rfl
  have br_0_42_8_0 : w_ei ws (w_ar ws (n_v vs 0) 42) (v_iv (n_v vs 8)) = w_el ws (w_ar ws (n_v vs 0) 42) (v_iv (n_v vs 8)).toNat := rfl
  have br_0_42_8_1 : w_ei w1 (w_ar ws (n_v vs 0) 42) (v_iv (n_v vs 8)) = w_el w1 (w_ar ws (n_v vs 0) 42) (v_iv (n_v vs 8)).toNat := rfl
  have br_0_43_2_0 : w_ei ws (w_ar ws (n_v vs 0) 43) (v_iv (n_v vs 2)) = w_el ws (w_ar ws (n_v vs 0) 43) (v_iv (n_v vs 2)).toNat := rfl
  have br_0_43_2_1 : w_ei w1 (w_ar ws (n_v vs 0) 43) (v_iv (n_v vs 2)) = w_el w1 (w_ar ws (n_v vs 0) 43) (v_iv (n_v vs 2)).toNat := rfl
  have br_0_44_2_0 : w_ei ws (w_ar ws (n_v vs 0) 44) (v_iv (n_v vs 2)) = w_el ws (w_ar ws (n_v vs 0) 44) (v_iv (n_v vs 2)).toNat := rfl
  have br_0_44_2_1 : w_ei w1 (w_ar ws (n_v vs 0) 44) (v_iv (n_v vs 2)) = w_el w1 (w_ar ws (n_v vs 0) 44) (v_iv (n_v vs 2)).toNat := rfl
  have br_0_50_12_0 : w_ei ws (w_ar ws (n_v vs 0) 50) (v_iv (n_v vs 12)) = w_el ws (w_ar ws (n_v vs 0) 50) (v_iv (n_v vs 12)).toNat := rfl
  have br_0_50_12_1 : w_ei w1 (w_ar ws (n_v vs 0) 50) (v_iv (n_v vs 12)) = w_el w1 (w_ar ws (n_v vs 0) 50) (v_iv (n_v vs 12)).toNat := rfl
  have hE_0_33_1 : ∀ j : Int, w_ei ws (w_ar ws (n_v vs 0) 33) j = w_ei w1 (w_ar ws (n_v vs 0) 33) j := el_kp s1.1 r10 cr_0_33 (by decide)
  have hK_0_33 := elq_60 hD hth cr_0_33
  have hE_0_34_1 : ∀ j : Int, w_ei ws (w_ar ws (n_v vs 0) 34) j = w_ei w1 (w_ar ws (n_v vs 0) 34) j := el_kp s1.1 r10 cr_0_34 (by decide)
  have hK_0_34 := elq_61 hD hth cr_0_34
  have hE_0_42_1 : ∀ j : Int, w_ei ws (w_ar ws (n_v vs 0) 42) j = w_ei w1 (w_ar ws (n_v vs 0) 42) j := el_kp s1.1 r10 cr_0_42 (by decide)
  have hK_0_42 := elq_75 hD hth cr_0_42
  have hE_0_43_1 : ∀ j : Int, w_ei ws (w_ar ws (n_v vs 0) 43) j = w_ei w1 (w_ar ws (n_v vs 0) 43) j := el_kp s1.1 r10 cr_0_43 (by decide)
  have hK_0_43 := elq_76 hD hth cr_0_43
  have hE_0_44_1 : ∀ j : Int, w_ei ws (w_ar ws (n_v vs 0) 44) j = w_ei w1 (w_ar ws (n_v vs 0) 44) j := el_kp s1.1 r10 cr_0_44 (by decide)
  have hK_0_44 := elq_77 hD hth cr_0_44
  have hE_0_50_1 : ∀ j : Int, 0 ≤ j → (j = v_iv (n_v vs 12) → w_ei ws (w_ar ws (n_v vs 0) 50) j = v_iv (n_v vs 17)) ∧ (j ≠ v_iv (n_v vs 12) → w_ei ws (w_ar ws (n_v vs 0) 50) j = w_ei w1 (w_ar ws (n_v vs 0) 50) j) := fun j hj => ⟨fun h => by unfold w_ei; rw [s1.1, if_pos ⟨ad_10.symm, by rw [h]⟩], fun h => by unfold w_ei; rw [s1.1, if_neg (fun e => h (by have := e.2; omega))]⟩
  have hK_0_50 := elq_78 hD hth cr_0_50
  have kz_0_32 := fdq_140 hD hth r0
  first | have hR := pcs_rng (e := v_iv (n_v vs 2)) ‹PCS _ _ _ _ _ _› (by omega) (by omega) (by omega) | skip
  have rf21 : tv_ok ta (0, 0, 79, []) (n_v vs 21) := tv_in t21 (by first | omega | grind) (by first | omega | grind)
  refine ⟨List.forall_mem_cons.mpr ⟨rf21, (fun _ h => (by cases h))⟩, [], trivial, ?_, (fun _ h => (by cases h))⟩
  rw [List.append_nil]
  exact (fun _ h => (by cases h))
set_option maxHeartbeats 4000000 in
theorem vc_Mo_bits_10_0 (x2 : Int) (x3 : Int) (x5 : Int) (x8 : Int) (x9 : Int) (x12 : Int) (x13 : Int) (x14 : Int) (x15 : Int) (x16 : Int) (x17 : Int) (x19 : Int) (x20 : Int) (x21 : Int) (x22 : Int) (x23 : Int) (x24 : Int) (x25 : Int) (x26 : Int) (x27 : Int) (pt_0 : Int → Int) (ph_0 : Int → Int) (drawnEdge_0 : Int → Int) (drawnNode_0 : Int → Int) (pieceOf_0 : Int → Int) (pm_0 : Int) (ph_1 : Int → Int) (ends_1 : Int → Int) (pieceOf_1 : Int → Int) (drawnNode_1 : Int → Int) (pt_1 : Int → Int) (drawnEdge_1 : Int → Int) (pm_1 : Int) (pt_2 : Int → Int) (ends_2 : Int → Int) (pieceOf_2 : Int → Int) (drawnNode_2 : Int → Int) (drawnEdge_2 : Int → Int) (pm_2 : Int) (ph_2 : Int → Int) (ends_0 : Int → Int) (k2 : 0 ≤ x2 ∧ x2 ≤ 79) (k3 : 1 ≤ x3 ∧ x3 ≤ 80) (k5 : 0 ≤ x5 ∧ x5 ≤ 0) (k8 : 0 ≤ x8 ∧ x8 ≤ 24) (k9 : 1 ≤ x9 ∧ x9 ≤ 1) (k12 : 0 ≤ x12 ∧ x12 ≤ 79) (k13 : 0 ≤ x13 ∧ x13 ≤ 33554431) (k14 : 1 ≤ x14 ∧ x14 ≤ 1) (k15 : 0 ≤ x15 ∧ x15 ≤ 24) (k16 : 1 ≤ x16 ∧ x16 ≤ 16777216) (k17 : 0 ≤ x17 ∧ x17 ≤ 33554431) (k19 : 0 ≤ x19 ∧ x19 ≤ 24) (k20 : 1 ≤ x20 ∧ x20 ≤ 1) (k21 : 0 ≤ x21 ∧ x21 ≤ 79) (k22 : 0 ≤ x22 ∧ x22 ≤ 33554431) (k23 : 1 ≤ x23 ∧ x23 ≤ 1) (k24 : 0 ≤ x24 ∧ x24 ≤ 24) (k25 : 1 ≤ x25 ∧ x25 ≤ 16777216) (k26 : 0 ≤ x26 ∧ x26 ≤ 33554431) (k27 : 1 ≤ x27 ∧ x27 ≤ 80) (d0 : x2 + 1 ≤ x27 ∧ x27 ≤ x2 + 1) (d1 : x3 + (-4294967296) ≤ x27 ∧ x27 ≤ x3 + 0) (d2 : x3 + (-4294967296) ≤ x2 ∧ x2 ≤ x3 + (-1)) (f0 : x27 = x2 + 1) (f1 : PCS (pm_0) (pt_0) (ph_0) (drawnEdge_0) (drawnNode_0) (pieceOf_0)) (f2 : 1 * x2 + ((-1) * pm_0 + 0) ≤ 0) (f5 : x26 ≤ x22 + x25 ∧ x22 ≤ x26 ∧ x25 ≤ x26) (f6 : bvp (x26) = bvp (x22) ||| bvp (x25)) (f7 : bvp (x25) = bvp (x23) <<< (x24).toNat) (h8 : x24 = ph_1 (x2)) (h10 : x22 = ends_1 (x21)) (h11 : x21 = pieceOf_1 (x2)) (f14 : x20 ≠ 0) (h15 : x20 = drawnNode_1 (x19)) (h16 : x19 = ph_1 (x2)) (f18 : PCS (pm_1) (pt_1) (ph_1) (drawnEdge_1) (drawnNode_1) (pieceOf_1)) (f19 : 1 * x2 + ((-1) * pm_1 + 0) ≤ 0) (f21 : x17 ≤ x13 + x16 ∧ x13 ≤ x17 ∧ x16 ≤ x17) (f22 : bvp (x17) = bvp (x13) ||| bvp (x16)) (f23 : bvp (x16) = bvp (x14) <<< (x15).toNat) (h24 : x15 = pt_2 (x2)) (h26 : x13 = ends_2 (x12)) (h27 : x12 = pieceOf_2 (x2)) (f28 : x9 ≠ 0) (h29 : x9 = drawnNode_2 (x8)) (h30 : x8 = pt_2 (x2)) (f31 : x5 = 0) (h32 : x5 = drawnEdge_2 (x2)) (f34 : x2 < x3) (g35 : x3 = pm_2) (f36 : PCS (pm_2) (pt_2) (ph_2) (drawnEdge_2) (drawnNode_2) (pieceOf_2)) (f37 : ENS (pm_2) (pt_2) (ph_2) (drawnEdge_2) (drawnNode_2) (pieceOf_2) (ends_2) (x2)) (f38 : 1 * x2 + ((-1) * pm_2 + 0) ≤ 0) (fe_0_32_1 : pm_0 = pm_1) (fe_0_32_2 : pm_1 = pm_2) (hE_0_33_1 : ∀ j : Int, pt_0 j = pt_1 j) (hE_0_33_2 : ∀ j : Int, pt_1 j = pt_2 j) (hK_0_33 : ∀ j : Int, 0 ≤ j → j < 80 → 0 ≤ pt_0 j ∧ pt_0 j ≤ 24) (hE_0_34_1 : ∀ j : Int, ph_0 j = ph_1 j) (hE_0_34_2 : ∀ j : Int, ph_1 j = ph_2 j) (hK_0_34 : ∀ j : Int, 0 ≤ j → j < 80 → 0 ≤ ph_0 j ∧ ph_0 j ≤ 24) (hE_0_42_1 : ∀ j : Int, drawnNode_0 j = drawnNode_1 j) (hE_0_42_2 : ∀ j : Int, drawnNode_1 j = drawnNode_2 j) (hK_0_42 : ∀ j : Int, 0 ≤ j → j < 26 → 0 ≤ drawnNode_0 j ∧ drawnNode_0 j ≤ 1) (hE_0_43_1 : ∀ j : Int, drawnEdge_0 j = drawnEdge_1 j) (hE_0_43_2 : ∀ j : Int, drawnEdge_1 j = drawnEdge_2 j) (hK_0_43 : ∀ j : Int, 0 ≤ j → j < 80 → 0 ≤ drawnEdge_0 j ∧ drawnEdge_0 j ≤ 1) (hE_0_44_1 : ∀ j : Int, pieceOf_0 j = pieceOf_1 j) (hE_0_44_2 : ∀ j : Int, pieceOf_1 j = pieceOf_2 j) (hK_0_44 : ∀ j : Int, 0 ≤ j → j < 80 → (-1) ≤ pieceOf_0 j ∧ pieceOf_0 j ≤ 79) (hE_0_50_1 : ∀ j : Int, 0 ≤ j → (j = x21 → ends_0 j = x26) ∧ (j ≠ x21 → ends_0 j = ends_1 j)) (hE_0_50_2 : ∀ j : Int, 0 ≤ j → (j = x12 → ends_1 j = x17) ∧ (j ≠ x12 → ends_1 j = ends_2 j)) (hK_0_50 : ∀ j : Int, 0 ≤ j → j < 80 → 0 ≤ ends_0 j ∧ ends_0 j ≤ 33554431) (kz_0_32 : 0 ≤ pm_0 ∧ pm_0 ≤ 80) : ENS (pm_0) (pt_0) (ph_0) (drawnEdge_0) (drawnNode_0) (pieceOf_0) (ends_0) (x27) := by
  subst fe_0_32_1
  subst fe_0_32_2
  have e_hE_0_33_1 := funext hE_0_33_1; subst e_hE_0_33_1
  have e_hE_0_33_2 := funext hE_0_33_2; subst e_hE_0_33_2
  have e_hE_0_34_1 := funext hE_0_34_1; subst e_hE_0_34_1
  have e_hE_0_34_2 := funext hE_0_34_2; subst e_hE_0_34_2
  have e_hE_0_42_1 := funext hE_0_42_1; subst e_hE_0_42_1
  have e_hE_0_42_2 := funext hE_0_42_2; subst e_hE_0_42_2
  have e_hE_0_43_1 := funext hE_0_43_1; subst e_hE_0_43_1
  have e_hE_0_43_2 := funext hE_0_43_2; subst e_hE_0_43_2
  have e_hE_0_44_1 := funext hE_0_44_1; subst e_hE_0_44_1
  have e_hE_0_44_2 := funext hE_0_44_2; subst e_hE_0_44_2
  first
    | (have h := ‹EN0 _ _›
       intro p i p0 p1 i0 i1
       rw [h p p0 (by omega)]
       exact ⟨fun z => absurd z (bit_zero i), fun ⟨f, a, b, _⟩ => by exfalso; omega⟩)
    | (first | rw [show x6 = x2 + 1 by omega] | rw [show x7 = x2 + 1 by omega]
       exact ens_skip ‹ENS _ _ _ _ _ _ _ _› (by omega))
    | (have o1 := bit_or (n := x26) (a := x22) (b := x25) (by assumption)
       have s1 := fun i (h0 : 0 ≤ i) (h1 : i < 32) => bit_shl (n := x25) (a := x23) (b := x24) (i := i) (by assumption) (by omega) (by omega) h0 h1
       have o2 := bit_or (n := x17) (a := x13) (b := x16) (by assumption)
       have s2 := fun i (h0 : 0 ≤ i) (h1 : i < 32) => bit_shl (n := x16) (a := x14) (b := x15) (i := i) (by assumption) (by omega) (by omega) h0 h1
       rw [show x27 = x2 + 1 by omega]
       skip; (first | subst h8 | skip); (first | subst h10 | skip); (first | subst h11 | skip); (first | subst h15 | skip); (first | subst h16 | skip); (first | subst h24 | skip); (first | subst h26 | skip); (first | subst h27 | skip); (first | subst h29 | skip); (first | subst h30 | skip); (first | subst h32 | skip)
       have hr := pcs_rng (e := x2) ‹PCS _ _ _ _ _ _› (by omega) (by omega) (by omega)
       have v := (hE_0_50_1 (pieceOf_0 x2) (by omega)).1 rfl
       have w := (hE_0_50_2 (pieceOf_0 x2) (by omega)).1 rfl
       refine ens_step ‹ENS _ _ _ _ _ _ _ _› (by omega) (by omega) (fun p a b => by rw [(hE_0_50_1 p a).2 b, (hE_0_50_2 p a).2 b]) (fun i a b => ?_)
       rw [v, o1 i, s1 i a b, w, o2 i, s2 i a b]
       constructor
       · rintro ((z | z) | z)
         · exact Or.inl z
         · exact Or.inr (by omega)
         · exact Or.inr (by omega)
       · rintro (z | z | z)
         · exact Or.inl (Or.inl z)
         · exact Or.inl (Or.inr z.1)
         · exact Or.inr z.1)
    | (have o1 := bit_or (n := x20) (a := x16) (b := x19) (by assumption)
       have s1 := fun i (h0 : 0 ≤ i) (h1 : i < 32) => bit_shl (n := x19) (a := x17) (b := x18) (i := i) (by assumption) (by omega) (by omega) h0 h1
       rw [show x21 = x2 + 1 by omega]
       skip; (first | subst h8 | skip); (first | subst h10 | skip); (first | subst h11 | skip); (first | subst h15 | skip); (first | subst h16 | skip); (first | subst h24 | skip); (first | subst h26 | skip); (first | subst h27 | skip); (first | subst h29 | skip); (first | subst h30 | skip); (first | subst h32 | skip)
       have hr := pcs_rng (e := x2) ‹PCS _ _ _ _ _ _› (by omega) (by omega) (by omega)
       have v := (hE_0_50_1 (pieceOf_0 x2) (by omega)).1 rfl
       refine ens_step ‹ENS _ _ _ _ _ _ _ _› (by omega) (by omega) (fun p a b => (hE_0_50_1 p a).2 b) (fun i a b => ?_)
       rw [v, o1 i, s1 i a b]
       refine or_congr Iff.rfl ⟨fun z => ?_, fun z => ?_⟩ <;> omega)
    | (have o1 := bit_or (n := x17) (a := x13) (b := x16) (by assumption)
       have s1 := fun i (h0 : 0 ≤ i) (h1 : i < 32) => bit_shl (n := x16) (a := x14) (b := x15) (i := i) (by assumption) (by omega) (by omega) h0 h1
       rw [show x21 = x2 + 1 by omega]
       skip; (first | subst h8 | skip); (first | subst h10 | skip); (first | subst h11 | skip); (first | subst h15 | skip); (first | subst h16 | skip); (first | subst h24 | skip); (first | subst h26 | skip); (first | subst h27 | skip); (first | subst h29 | skip); (first | subst h30 | skip); (first | subst h32 | skip)
       have hr := pcs_rng (e := x2) ‹PCS _ _ _ _ _ _› (by omega) (by omega) (by omega)
       have v := (hE_0_50_1 (pieceOf_0 x2) (by omega)).1 rfl
       refine ens_step ‹ENS _ _ _ _ _ _ _ _› (by omega) (by omega) (fun p a b => (hE_0_50_1 p a).2 b) (fun i a b => ?_)
       rw [v, o1 i, s1 i a b]
       refine or_congr Iff.rfl ⟨fun z => ?_, fun z => ?_⟩ <;> omega)
    | (skip; (first | subst h8 | skip); (first | subst h10 | skip); (first | subst h11 | skip); (first | subst h15 | skip); (first | subst h16 | skip); (first | subst h24 | skip); (first | subst h26 | skip); (first | subst h27 | skip); (first | subst h29 | skip); (first | subst h30 | skip); (first | subst h32 | skip)
       first | rw [show x13 = x2 + 1 by omega] | rw [show x14 = x2 + 1 by omega] | rw [show x15 = x2 + 1 by omega]
       refine ens_step ‹ENS _ _ _ _ _ _ _ _› (by omega) (by omega) (fun _ _ _ => rfl) (fun i a b => ?_)
       constructor
       · exact Or.inl
       · rintro (z | z | z)
         · exact z
         · exfalso; omega
         · exfalso; omega)
set_option maxHeartbeats 4000000 in
theorem vc_Mo_bits_10_1 (x2 : Int) (x3 : Int) (x5 : Int) (x8 : Int) (x9 : Int) (x12 : Int) (x13 : Int) (x14 : Int) (x15 : Int) (x16 : Int) (x17 : Int) (x19 : Int) (x20 : Int) (x21 : Int) (x22 : Int) (x23 : Int) (x24 : Int) (x25 : Int) (x26 : Int) (x27 : Int) (pt_0 : Int → Int) (ph_0 : Int → Int) (drawnEdge_0 : Int → Int) (drawnNode_0 : Int → Int) (pieceOf_0 : Int → Int) (pm_0 : Int) (ph_1 : Int → Int) (ends_1 : Int → Int) (pieceOf_1 : Int → Int) (drawnNode_1 : Int → Int) (pt_1 : Int → Int) (drawnEdge_1 : Int → Int) (pm_1 : Int) (pt_2 : Int → Int) (ends_2 : Int → Int) (pieceOf_2 : Int → Int) (drawnNode_2 : Int → Int) (drawnEdge_2 : Int → Int) (pm_2 : Int) (ph_2 : Int → Int) (ends_0 : Int → Int) (k2 : 0 ≤ x2 ∧ x2 ≤ 79) (k3 : 1 ≤ x3 ∧ x3 ≤ 80) (k5 : 0 ≤ x5 ∧ x5 ≤ 0) (k8 : 0 ≤ x8 ∧ x8 ≤ 24) (k9 : 1 ≤ x9 ∧ x9 ≤ 1) (k12 : 0 ≤ x12 ∧ x12 ≤ 79) (k13 : 0 ≤ x13 ∧ x13 ≤ 33554431) (k14 : 1 ≤ x14 ∧ x14 ≤ 1) (k15 : 0 ≤ x15 ∧ x15 ≤ 24) (k16 : 1 ≤ x16 ∧ x16 ≤ 16777216) (k17 : 0 ≤ x17 ∧ x17 ≤ 33554431) (k19 : 0 ≤ x19 ∧ x19 ≤ 24) (k20 : 1 ≤ x20 ∧ x20 ≤ 1) (k21 : 0 ≤ x21 ∧ x21 ≤ 79) (k22 : 0 ≤ x22 ∧ x22 ≤ 33554431) (k23 : 1 ≤ x23 ∧ x23 ≤ 1) (k24 : 0 ≤ x24 ∧ x24 ≤ 24) (k25 : 1 ≤ x25 ∧ x25 ≤ 16777216) (k26 : 0 ≤ x26 ∧ x26 ≤ 33554431) (k27 : 1 ≤ x27 ∧ x27 ≤ 80) (d0 : x2 + 1 ≤ x27 ∧ x27 ≤ x2 + 1) (d1 : x3 + (-4294967296) ≤ x27 ∧ x27 ≤ x3 + 0) (d2 : x3 + (-4294967296) ≤ x2 ∧ x2 ≤ x3 + (-1)) (f0 : x27 = x2 + 1) (f1 : PCS (pm_0) (pt_0) (ph_0) (drawnEdge_0) (drawnNode_0) (pieceOf_0)) (f2 : 1 * x2 + ((-1) * pm_0 + 0) ≤ 0) (f5 : x26 ≤ x22 + x25 ∧ x22 ≤ x26 ∧ x25 ≤ x26) (f6 : bvp (x26) = bvp (x22) ||| bvp (x25)) (f7 : bvp (x25) = bvp (x23) <<< (x24).toNat) (h8 : x24 = ph_1 (x2)) (h10 : x22 = ends_1 (x21)) (h11 : x21 = pieceOf_1 (x2)) (f14 : x20 ≠ 0) (h15 : x20 = drawnNode_1 (x19)) (h16 : x19 = ph_1 (x2)) (f18 : PCS (pm_1) (pt_1) (ph_1) (drawnEdge_1) (drawnNode_1) (pieceOf_1)) (f19 : 1 * x2 + ((-1) * pm_1 + 0) ≤ 0) (f21 : x17 ≤ x13 + x16 ∧ x13 ≤ x17 ∧ x16 ≤ x17) (f22 : bvp (x17) = bvp (x13) ||| bvp (x16)) (f23 : bvp (x16) = bvp (x14) <<< (x15).toNat) (h24 : x15 = pt_2 (x2)) (h26 : x13 = ends_2 (x12)) (h27 : x12 = pieceOf_2 (x2)) (f28 : x9 ≠ 0) (h29 : x9 = drawnNode_2 (x8)) (h30 : x8 = pt_2 (x2)) (f31 : x5 = 0) (h32 : x5 = drawnEdge_2 (x2)) (f34 : x2 < x3) (g35 : x3 = pm_2) (f36 : PCS (pm_2) (pt_2) (ph_2) (drawnEdge_2) (drawnNode_2) (pieceOf_2)) (f37 : ENS (pm_2) (pt_2) (ph_2) (drawnEdge_2) (drawnNode_2) (pieceOf_2) (ends_2) (x2)) (f38 : 1 * x2 + ((-1) * pm_2 + 0) ≤ 0) (fe_0_32_1 : pm_0 = pm_1) (fe_0_32_2 : pm_1 = pm_2) (hE_0_33_1 : ∀ j : Int, pt_0 j = pt_1 j) (hE_0_33_2 : ∀ j : Int, pt_1 j = pt_2 j) (hK_0_33 : ∀ j : Int, 0 ≤ j → j < 80 → 0 ≤ pt_0 j ∧ pt_0 j ≤ 24) (hE_0_34_1 : ∀ j : Int, ph_0 j = ph_1 j) (hE_0_34_2 : ∀ j : Int, ph_1 j = ph_2 j) (hK_0_34 : ∀ j : Int, 0 ≤ j → j < 80 → 0 ≤ ph_0 j ∧ ph_0 j ≤ 24) (hE_0_42_1 : ∀ j : Int, drawnNode_0 j = drawnNode_1 j) (hE_0_42_2 : ∀ j : Int, drawnNode_1 j = drawnNode_2 j) (hK_0_42 : ∀ j : Int, 0 ≤ j → j < 26 → 0 ≤ drawnNode_0 j ∧ drawnNode_0 j ≤ 1) (hE_0_43_1 : ∀ j : Int, drawnEdge_0 j = drawnEdge_1 j) (hE_0_43_2 : ∀ j : Int, drawnEdge_1 j = drawnEdge_2 j) (hK_0_43 : ∀ j : Int, 0 ≤ j → j < 80 → 0 ≤ drawnEdge_0 j ∧ drawnEdge_0 j ≤ 1) (hE_0_44_1 : ∀ j : Int, pieceOf_0 j = pieceOf_1 j) (hE_0_44_2 : ∀ j : Int, pieceOf_1 j = pieceOf_2 j) (hK_0_44 : ∀ j : Int, 0 ≤ j → j < 80 → (-1) ≤ pieceOf_0 j ∧ pieceOf_0 j ≤ 79) (hE_0_50_1 : ∀ j : Int, 0 ≤ j → (j = x21 → ends_0 j = x26) ∧ (j ≠ x21 → ends_0 j = ends_1 j)) (hE_0_50_2 : ∀ j : Int, 0 ≤ j → (j = x12 → ends_1 j = x17) ∧ (j ≠ x12 → ends_1 j = ends_2 j)) (hK_0_50 : ∀ j : Int, 0 ≤ j → j < 80 → 0 ≤ ends_0 j ∧ ends_0 j ≤ 33554431) (kz_0_32 : 0 ≤ pm_0 ∧ pm_0 ≤ 80) : 1 * x27 + ((-1) * pm_0 + 0) ≤ 0 := by
  subst fe_0_32_1
  subst fe_0_32_2
  have e_hE_0_33_1 := funext hE_0_33_1; subst e_hE_0_33_1
  have e_hE_0_33_2 := funext hE_0_33_2; subst e_hE_0_33_2
  have e_hE_0_34_1 := funext hE_0_34_1; subst e_hE_0_34_1
  have e_hE_0_34_2 := funext hE_0_34_2; subst e_hE_0_34_2
  have e_hE_0_42_1 := funext hE_0_42_1; subst e_hE_0_42_1
  have e_hE_0_42_2 := funext hE_0_42_2; subst e_hE_0_42_2
  have e_hE_0_43_1 := funext hE_0_43_1; subst e_hE_0_43_1
  have e_hE_0_43_2 := funext hE_0_43_2; subst e_hE_0_43_2
  have e_hE_0_44_1 := funext hE_0_44_1; subst e_hE_0_44_1
  have e_hE_0_44_2 := funext hE_0_44_2; subst e_hE_0_44_2
  first | omega
def o_Mo_bits_10 : or_T := (25, 28, [(0, (2, 0, 0, [165])), (2, (0, 0, 79, [])), (3, (0, 1, 80, [])), (5, (0, 0, 0, [])), (8, (0, 0, 24, [])), (9, (0, 1, 1, [])), (10, (2, 0, 0, [193])), (12, (0, 0, 79, [])), (13, (0, 0, 33554431, [])), (14, (0, 1, 1, [])), (15, (0, 0, 24, [])), (16, (0, 1, 16777216, [])), (17, (0, 0, 33554431, [])), (19, (0, 0, 24, [])), (20, (0, 1, 1, [])), (21, (0, 0, 79, [])), (22, (0, 0, 33554431, [])), (23, (0, 1, 1, [])), (24, (0, 0, 24, [])), (25, (0, 1, 16777216, [])), (26, (0, 0, 33554431, [])), (27, (0, 1, 80, []))], [(6, [27, 2], [1]), (20, [1], [60, 1, 5, 106, 32, 33, 34, 43, 42, 44]), (20, [2, 1], [30, 0, 1, 0, 0, -1, 1, 32]), (24, [0, 1], []), (100, [10, 21, 26], []), (13, [26, 22, 25], []), (16, [26, 22, 25], [1]), (16, [25, 23, 24], [3]), (10, [24, 18, 2], []), (9, [18, 1], [34]), (10, [22, 10, 21], []), (10, [21, 11, 2], []), (9, [11, 1], [44]), (9, [10, 1], [50]), (8, [20], [1]), (10, [20, 6, 19], []), (10, [19, 18, 2], []), (9, [6, 1], [42]), (20, [1], [60, 1, 5, 106, 32, 33, 34, 43, 42, 44]), (20, [2, 1], [30, 0, 1, 0, 0, -1, 1, 32]), (100, [10, 12, 17], []), (13, [17, 13, 16], []), (16, [17, 13, 16], [1]), (16, [16, 14, 15], [3]), (10, [15, 7, 2], []), (9, [7, 1], [33]), (10, [13, 10, 12], []), (10, [12, 11, 2], []), (8, [9], [1]), (10, [9, 6, 8], []), (10, [8, 7, 2], []), (8, [5], [0]), (10, [5, 4, 2], []), (9, [4, 1], [43]), (7, [2, 3], [2]), (9, [3, 1], [32]), (20, [1], [60, 1, 5, 106, 32, 33, 34, 43, 42, 44]), (20, [1, 2], [60, 1, 6, 108, 32, 33, 34, 43, 42, 44, 50]), (20, [2, 1], [30, 0, 1, 0, 0, -1, 1, 32])], [], [], [(20, [1, 27], [60, 1, 6, 108, 32, 33, 34, 43, 42, 44, 50]), (20, [27, 1], [30, 0, 1, 0, 0, -1, 1, 32])], [], [(27, 2, 1, 1), (27, 3, -4294967296, 0), (2, 3, -4294967296, -1)])
theorem oo_Mo_bits_10 {kA : Nat → ClassId} : or_ok PRD kA GG o_Mo_bits_10 := by
  refine or_mk fun A ta ws vs hD hth hl => ?_
  intro t0 r0 t2 k2 t3 k3 t5 k5 t8 k8 t9 k9 t10 r10 t12 k12 t13 k13 t14 k14 t15 k15 t16 k16 t17 k17 t19 k19 t20 k20 t21 k21 t22 k22 t23 k23 t24 k24 t25 k25 t26 k26 t27 k27 d0 d1 d2 f0 f1 f2 f3 ta1 w1 le1 s1 f5 f6 f7 f8 f9 f10 f11 f12 f13 f14 f15 f16 f17 f18 f19 ta2 w2 le2 s2 f21 f22 f23 f24 f25 f26 f27 f28 f29 f30 f31 f32 f33 f34 f35 f36 f37 f38
  replace f0 := shm_4 f0
  replace f1 := shm_523 f1
  replace f2 := shm_527 f2
  replace f3 := shm_5 f3
  have s1 : (∀ b j, w_el ws b j = if b = v_ad (n_v vs 10) ∧ j = (v_iv (n_v vs 21)).toNat then v_iv (n_v vs 26) else w_el w1 b j) ∧ ∀ b k, w_fd ws b k = w_fd w1 b k := s1.2
  have f5 : v_iv (n_v vs 26) ≤ v_iv (n_v vs 22) + v_iv (n_v vs 25) ∧ v_iv (n_v vs 22) ≤ v_iv (n_v vs 26) ∧ v_iv (n_v vs 25) ≤ v_iv (n_v vs 26) := (fun (h : v_iv (n_v vs 26) ≤ v_iv (n_v vs 22) + v_iv (n_v vs 25) ∧ v_iv (n_v vs 22) ≤ v_iv (n_v vs 26) ∧ v_iv (n_v vs 25) ≤ v_iv (n_v vs 26) ∧ (v_iv (n_v vs 26)).toNat = (v_iv (n_v vs 22)).toNat ||| (v_iv (n_v vs 25)).toNat) => ⟨h.1, h.2.1, h.2.2.1⟩) f5
  replace f6 := shm_354 f6
  replace f7 := shm_349 f7
  replace f8 := shm_107 f8
  replace f9 := shm_496 f9
  replace f10 := shm_107 f10
  replace f11 := shm_107 f11
  replace f12 := shm_533 f12
  replace f13 := shm_528 f13
  replace f14 := shm_142 f14
  replace f15 := shm_107 f15
  replace f16 := shm_107 f16
  replace f17 := shm_531 f17
  replace f18 := shm_523 f18
  replace f19 := shm_527 f19
  have s2 : (∀ b j, w_el w1 b j = if b = v_ad (n_v vs 10) ∧ j = (v_iv (n_v vs 12)).toNat then v_iv (n_v vs 17) else w_el w2 b j) ∧ ∀ b k, w_fd w1 b k = w_fd w2 b k := s2.2
  have f21 : v_iv (n_v vs 17) ≤ v_iv (n_v vs 13) + v_iv (n_v vs 16) ∧ v_iv (n_v vs 13) ≤ v_iv (n_v vs 17) ∧ v_iv (n_v vs 16) ≤ v_iv (n_v vs 17) := (fun (h : v_iv (n_v vs 17) ≤ v_iv (n_v vs 13) + v_iv (n_v vs 16) ∧ v_iv (n_v vs 13) ≤ v_iv (n_v vs 17) ∧ v_iv (n_v vs 16) ≤ v_iv (n_v vs 17) ∧ (v_iv (n_v vs 17)).toNat = (v_iv (n_v vs 13)).toNat ||| (v_iv (n_v vs 16)).toNat) => ⟨h.1, h.2.1, h.2.2.1⟩) f21
  replace f22 := shm_354 f22
  replace f23 := shm_349 f23
  replace f24 := shm_107 f24
  replace f25 := shm_494 f25
  replace f26 := shm_107 f26
  replace f27 := shm_107 f27
  replace f28 := shm_142 f28
  replace f29 := shm_107 f29
  replace f30 := shm_107 f30
  replace f31 := shm_192 f31
  replace f32 := shm_107 f32
  replace f33 := shm_532 f33
  replace f34 := shm_6 f34
  replace f35 := shm_525 f35
  replace f36 := shm_523 f36
  replace f37 := shm_526 f37
  replace f38 := shm_527 f38
  have q1 : n_v vs 1 = n_v vs 0 := f3.symm
  simp only [q1] at f1 f2 f9 f12 f13 f17 f18 f19 f25 f33 f35 f36 f37 f38
  have ar_0_33_1 : w_ar w1 (n_v vs 0) 33 = w_ar ws (n_v vs 0) 33 := congrArg v_ad (s1.2 _ _).symm
  have ar_0_33_2 : w_ar w2 (n_v vs 0) 33 = w_ar ws (n_v vs 0) 33 := by rw [← ar_0_33_1]; show v_ad (w_fd w2 _ _) = v_ad (w_fd w1 _ _); rw [s2.2]
  have cr_0_33 := fdq_117 hD hth r0
  have ar_0_34_1 : w_ar w1 (n_v vs 0) 34 = w_ar ws (n_v vs 0) 34 := congrArg v_ad (s1.2 _ _).symm
  have ar_0_34_2 : w_ar w2 (n_v vs 0) 34 = w_ar ws (n_v vs 0) 34 := by rw [← ar_0_34_1]; show v_ad (w_fd w2 _ _) = v_ad (w_fd w1 _ _); rw [s2.2]
  have cr_0_34 := fdq_118 hD hth r0
  have ar_0_42_1 : w_ar w1 (n_v vs 0) 42 = w_ar ws (n_v vs 0) 42 := congrArg v_ad (s1.2 _ _).symm
  have ar_0_42_2 : w_ar w2 (n_v vs 0) 42 = w_ar ws (n_v vs 0) 42 := by rw [← ar_0_42_1]; show v_ad (w_fd w2 _ _) = v_ad (w_fd w1 _ _); rw [s2.2]
  have cr_0_42 := fdq_136 hD hth r0
  have ar_0_43_1 : w_ar w1 (n_v vs 0) 43 = w_ar ws (n_v vs 0) 43 := congrArg v_ad (s1.2 _ _).symm
  have ar_0_43_2 : w_ar w2 (n_v vs 0) 43 = w_ar ws (n_v vs 0) 43 := by rw [← ar_0_43_1]; show v_ad (w_fd w2 _ _) = v_ad (w_fd w1 _ _); rw [s2.2]
  have cr_0_43 := fdq_137 hD hth r0
  have ar_0_44_1 : w_ar w1 (n_v vs 0) 44 = w_ar ws (n_v vs 0) 44 := congrArg v_ad (s1.2 _ _).symm
  have ar_0_44_2 : w_ar w2 (n_v vs 0) 44 = w_ar ws (n_v vs 0) 44 := by rw [← ar_0_44_1]; show v_ad (w_fd w2 _ _) = v_ad (w_fd w1 _ _); rw [s2.2]
  have cr_0_44 := fdq_138 hD hth r0
  have ar_0_50_1 : w_ar w1 (n_v vs 0) 50 = w_ar ws (n_v vs 0) 50 := congrArg v_ad (s1.2 _ _).symm
  have ar_0_50_2 : w_ar w2 (n_v vs 0) 50 = w_ar ws (n_v vs 0) 50 := by rw [← ar_0_50_1]; show v_ad (w_fd w2 _ _) = v_ad (w_fd w1 _ _); rw [s2.2]
  have cr_0_50 := fdq_139 hD hth r0
  have ad_18 : v_ad (n_v vs 18) = w_ar ws (n_v vs 0) 34 := (congrArg v_ad f9).trans ar_0_34_1
  have ad_11 : v_ad (n_v vs 11) = w_ar ws (n_v vs 0) 44 := (congrArg v_ad f12).trans ar_0_44_1
  have ad_10 : v_ad (n_v vs 10) = w_ar ws (n_v vs 0) 50 := (congrArg v_ad f13).trans ar_0_50_1
  have ad_6 : v_ad (n_v vs 6) = w_ar ws (n_v vs 0) 42 := (congrArg v_ad f17).trans ar_0_42_1
  have ad_7 : v_ad (n_v vs 7) = w_ar ws (n_v vs 0) 33 := (congrArg v_ad f25).trans ar_0_33_2
  have ad_4 : v_ad (n_v vs 4) = w_ar ws (n_v vs 0) 43 := (congrArg v_ad f33).trans ar_0_43_2
  simp only [ad_18] at f8
  have h8 : v_iv (n_v vs 24) = w_ei w1 (w_ar ws (n_v vs 0) 34) (v_iv (n_v vs 2)) := f8
  simp only [ad_10] at f10
  have h10 : v_iv (n_v vs 22) = w_ei w1 (w_ar ws (n_v vs 0) 50) (v_iv (n_v vs 21)) := f10
  simp only [ad_11] at f11
  have h11 : v_iv (n_v vs 21) = w_ei w1 (w_ar ws (n_v vs 0) 44) (v_iv (n_v vs 2)) := f11
  simp only [ad_6] at f15
  have h15 : v_iv (n_v vs 20) = w_ei w1 (w_ar ws (n_v vs 0) 42) (v_iv (n_v vs 19)) := f15
  simp only [ad_18] at f16
  have h16 : v_iv (n_v vs 19) = w_ei w1 (w_ar ws (n_v vs 0) 34) (v_iv (n_v vs 2)) := f16
  simp only [ar_0_33_1, ar_0_34_1, ar_0_42_1, ar_0_43_1, ar_0_44_1, ad_7] at f18 f24
  have h24 : v_iv (n_v vs 15) = w_ei w2 (w_ar ws (n_v vs 0) 33) (v_iv (n_v vs 2)) := f24
  simp only [ad_10] at f26
  have h26 : v_iv (n_v vs 13) = w_ei w2 (w_ar ws (n_v vs 0) 50) (v_iv (n_v vs 12)) := f26
  simp only [ad_11] at f27
  have h27 : v_iv (n_v vs 12) = w_ei w2 (w_ar ws (n_v vs 0) 44) (v_iv (n_v vs 2)) := f27
  simp only [ad_6] at f29
  have h29 : v_iv (n_v vs 9) = w_ei w2 (w_ar ws (n_v vs 0) 42) (v_iv (n_v vs 8)) := f29
  simp only [ad_7] at f30
  have h30 : v_iv (n_v vs 8) = w_ei w2 (w_ar ws (n_v vs 0) 33) (v_iv (n_v vs 2)) := f30
  simp only [ad_4] at f32
  have h32 : v_iv (n_v vs 5) = w_ei w2 (w_ar ws (n_v vs 0) 43) (v_iv (n_v vs 2)) := f32
  have g35 : v_iv (n_v vs 3) = w_fi w2 (n_v vs 0) 32 := congrArg v_iv f35
  simp only [ar_0_33_2, ar_0_34_2, ar_0_42_2, ar_0_43_2, ar_0_44_2, ar_0_50_2] at f36 f37
  have fe_0_32_1 : w_fi ws (n_v vs 0) 32 = w_fi w1 (n_v vs 0) 32 := congrArg v_iv (s1.2 _ _)
  have fe_0_32_2 : w_fi w1 (n_v vs 0) 32 = w_fi w2 (n_v vs 0) 32 := congrArg v_iv (s2.2 _ _)
  have hE_0_33_1 : ∀ j : Int, w_ei ws (w_ar ws (n_v vs 0) 33) j = w_ei w1 (w_ar ws (n_v vs 0) 33) j := el_kp s1.1 r10 cr_0_33 (by decide)
  have hE_0_33_2 : ∀ j : Int, w_ei w1 (w_ar ws (n_v vs 0) 33) j = w_ei w2 (w_ar ws (n_v vs 0) 33) j := el_kp s2.1 r10 cr_0_33 (by decide)
  have hK_0_33 := elq_60 hD hth cr_0_33
  have hE_0_34_1 : ∀ j : Int, w_ei ws (w_ar ws (n_v vs 0) 34) j = w_ei w1 (w_ar ws (n_v vs 0) 34) j := el_kp s1.1 r10 cr_0_34 (by decide)
  have hE_0_34_2 : ∀ j : Int, w_ei w1 (w_ar ws (n_v vs 0) 34) j = w_ei w2 (w_ar ws (n_v vs 0) 34) j := el_kp s2.1 r10 cr_0_34 (by decide)
  have hK_0_34 := elq_61 hD hth cr_0_34
  have hE_0_42_1 : ∀ j : Int, w_ei ws (w_ar ws (n_v vs 0) 42) j = w_ei w1 (w_ar ws (n_v vs 0) 42) j := el_kp s1.1 r10 cr_0_42 (by decide)
  have hE_0_42_2 : ∀ j : Int, w_ei w1 (w_ar ws (n_v vs 0) 42) j = w_ei w2 (w_ar ws (n_v vs 0) 42) j := el_kp s2.1 r10 cr_0_42 (by decide)
  have hK_0_42 := elq_75 hD hth cr_0_42
  have hE_0_43_1 : ∀ j : Int, w_ei ws (w_ar ws (n_v vs 0) 43) j = w_ei w1 (w_ar ws (n_v vs 0) 43) j := el_kp s1.1 r10 cr_0_43 (by decide)
  have hE_0_43_2 : ∀ j : Int, w_ei w1 (w_ar ws (n_v vs 0) 43) j = w_ei w2 (w_ar ws (n_v vs 0) 43) j := el_kp s2.1 r10 cr_0_43 (by decide)
  have hK_0_43 := elq_76 hD hth cr_0_43
  have hE_0_44_1 : ∀ j : Int, w_ei ws (w_ar ws (n_v vs 0) 44) j = w_ei w1 (w_ar ws (n_v vs 0) 44) j := el_kp s1.1 r10 cr_0_44 (by decide)
  have hE_0_44_2 : ∀ j : Int, w_ei w1 (w_ar ws (n_v vs 0) 44) j = w_ei w2 (w_ar ws (n_v vs 0) 44) j := el_kp s2.1 r10 cr_0_44 (by decide)
  have hK_0_44 := elq_77 hD hth cr_0_44
  have hE_0_50_1 : ∀ j : Int, 0 ≤ j → (j = v_iv (n_v vs 21) → w_ei ws (w_ar ws (n_v vs 0) 50) j = v_iv (n_v vs 26)) ∧ (j ≠ v_iv (n_v vs 21) → w_ei ws (w_ar ws (n_v vs 0) 50) j = w_ei w1 (w_ar ws (n_v vs 0) 50) j) := fun j hj => ⟨fun h => by unfold w_ei; rw [s1.1, if_pos ⟨ad_10.symm, by rw [h]⟩], fun h => by unfold w_ei; rw [s1.1, if_neg (fun e => h (by have := e.2; omega))]⟩
  have hE_0_50_2 : ∀ j : Int, 0 ≤ j → (j = v_iv (n_v vs 12) → w_ei w1 (w_ar ws (n_v vs 0) 50) j = v_iv (n_v vs 17)) ∧ (j ≠ v_iv (n_v vs 12) → w_ei w1 (w_ar ws (n_v vs 0) 50) j = w_ei w2 (w_ar ws (n_v vs 0) 50) j) := fun j hj => ⟨fun h => by unfold w_ei; rw [s2.1, if_pos ⟨ad_10.symm, by rw [h]⟩], fun h => by unfold w_ei; rw [s2.1, if_neg (fun e => h (by have := e.2; omega))]⟩
  have hK_0_50 := elq_78 hD hth cr_0_50
  have kz_0_32 := fdq_140 hD hth r0
  have nf0 : fc_1 PRD (20, [1, 27], [60, 1, 6, 108, 32, 33, 34, 43, 42, 44, 50]) ws (vs) := by
    refine ⟨nf_in hl rfl, sgq_526 ?_⟩
    · show ENS (w_fi ws (n_v vs 1) 32) (w_ei ws (w_ar ws (n_v vs 1) 33)) (w_ei ws (w_ar ws (n_v vs 1) 34)) (w_ei ws (w_ar ws (n_v vs 1) 43)) (w_ei ws (w_ar ws (n_v vs 1) 42)) (w_ei ws (w_ar ws (n_v vs 1) 44)) (w_ei ws (w_ar ws (n_v vs 1) 50)) (v_iv (n_v vs 27))
      rw [q1]
      exact vc_Mo_bits_10_0 (v_iv (n_v vs 2)) (v_iv (n_v vs 3)) (v_iv (n_v vs 5)) (v_iv (n_v vs 8)) (v_iv (n_v vs 9)) (v_iv (n_v vs 12)) (v_iv (n_v vs 13)) (v_iv (n_v vs 14)) (v_iv (n_v vs 15)) (v_iv (n_v vs 16)) (v_iv (n_v vs 17)) (v_iv (n_v vs 19)) (v_iv (n_v vs 20)) (v_iv (n_v vs 21)) (v_iv (n_v vs 22)) (v_iv (n_v vs 23)) (v_iv (n_v vs 24)) (v_iv (n_v vs 25)) (v_iv (n_v vs 26)) (v_iv (n_v vs 27)) (w_ei ws (w_ar ws (n_v vs 0) 33)) (w_ei ws (w_ar ws (n_v vs 0) 34)) (w_ei ws (w_ar ws (n_v vs 0) 43)) (w_ei ws (w_ar ws (n_v vs 0) 42)) (w_ei ws (w_ar ws (n_v vs 0) 44)) (w_fi ws (n_v vs 0) 32) (w_ei w1 (w_ar ws (n_v vs 0) 34)) (w_ei w1 (w_ar ws (n_v vs 0) 50)) (w_ei w1 (w_ar ws (n_v vs 0) 44)) (w_ei w1 (w_ar ws (n_v vs 0) 42)) (w_ei w1 (w_ar ws (n_v vs 0) 33)) (w_ei w1 (w_ar ws (n_v vs 0) 43)) (w_fi w1 (n_v vs 0) 32) (w_ei w2 (w_ar ws (n_v vs 0) 33)) (w_ei w2 (w_ar ws (n_v vs 0) 50)) (w_ei w2 (w_ar ws (n_v vs 0) 44)) (w_ei w2 (w_ar ws (n_v vs 0) 42)) (w_ei w2 (w_ar ws (n_v vs 0) 43)) (w_fi w2 (n_v vs 0) 32) (w_ei w2 (w_ar ws (n_v vs 0) 34)) (w_ei ws (w_ar ws (n_v vs 0) 50)) k2 k3 k5 k8 k9 k12 k13 k14 k15 k16 k17 k19 k20 k21 k22 k23 k24 k25 k26 k27 d0 d1 d2 f0 f1 f2 f5 f6 f7 h8 h10 h11 f14 h15 h16 f18 f19 f21 f22 f23 h24 h26 h27 f28 h29 h30 f31 h32 f34 g35 f36 f37 f38 fe_0_32_1 fe_0_32_2 hE_0_33_1 hE_0_33_2 hK_0_33 hE_0_34_1 hE_0_34_2 hK_0_34 hE_0_42_1 hE_0_42_2 hK_0_42 hE_0_43_1 hE_0_43_2 hK_0_43 hE_0_44_1 hE_0_44_2 hK_0_44 hE_0_50_1 hE_0_50_2 hK_0_50 kz_0_32
  have nf1 : fc_1 PRD (20, [27, 1], [30, 0, 1, 0, 0, -1, 1, 32]) ws (vs) := by
    refine ⟨nf_in hl rfl, sgq_527 ?_⟩
    · show 1 * v_iv (n_v vs 27) + ((-1) * w_fi ws (n_v vs 1) 32 + 0) ≤ 0
      rw [q1]
      exact vc_Mo_bits_10_1 (v_iv (n_v vs 2)) (v_iv (n_v vs 3)) (v_iv (n_v vs 5)) (v_iv (n_v vs 8)) (v_iv (n_v vs 9)) (v_iv (n_v vs 12)) (v_iv (n_v vs 13)) (v_iv (n_v vs 14)) (v_iv (n_v vs 15)) (v_iv (n_v vs 16)) (v_iv (n_v vs 17)) (v_iv (n_v vs 19)) (v_iv (n_v vs 20)) (v_iv (n_v vs 21)) (v_iv (n_v vs 22)) (v_iv (n_v vs 23)) (v_iv (n_v vs 24)) (v_iv (n_v vs 25)) (v_iv (n_v vs 26)) (v_iv (n_v vs 27)) (w_ei ws (w_ar ws (n_v vs 0) 33)) (w_ei ws (w_ar ws (n_v vs 0) 34)) (w_ei ws (w_ar ws (n_v vs 0) 43)) (w_ei ws (w_ar ws (n_v vs 0) 42)) (w_ei ws (w_ar ws (n_v vs 0) 44)) (w_fi ws (n_v vs 0) 32) (w_ei w1 (w_ar ws (n_v vs 0) 34)) (w_ei w1 (w_ar ws (n_v vs 0) 50)) (w_ei w1 (w_ar ws (n_v vs 0) 44)) (w_ei w1 (w_ar ws (n_v vs 0) 42)) (w_ei w1 (w_ar ws (n_v vs 0) 33)) (w_ei w1 (w_ar ws (n_v vs 0) 43)) (w_fi w1 (n_v vs 0) 32) (w_ei w2 (w_ar ws (n_v vs 0) 33)) (w_ei w2 (w_ar ws (n_v vs 0) 50)) (w_ei w2 (w_ar ws (n_v vs 0) 44)) (w_ei w2 (w_ar ws (n_v vs 0) 42)) (w_ei w2 (w_ar ws (n_v vs 0) 43)) (w_fi w2 (n_v vs 0) 32) (w_ei w2 (w_ar ws (n_v vs 0) 34)) (w_ei ws (w_ar ws (n_v vs 0) 50)) k2 k3 k5 k8 k9 k12 k13 k14 k15 k16 k17 k19 k20 k21 k22 k23 k24 k25 k26 k27 d0 d1 d2 f0 f1 f2 f5 f6 f7 h8 h10 h11 f14 h15 h16 f18 f19 f21 f22 f23 h24 h26 h27 f28 h29 h30 f31 h32 f34 g35 f36 f37 f38 fe_0_32_1 fe_0_32_2 hE_0_33_1 hE_0_33_2 hK_0_33 hE_0_34_1 hE_0_34_2 hK_0_34 hE_0_42_1 hE_0_42_2 hK_0_42 hE_0_43_1 hE_0_43_2 hK_0_43 hE_0_44_1 hE_0_44_2 hK_0_44 hE_0_50_1 hE_0_50_2 hK_0_50 kz_0_32
  refine ⟨(fun _ h => (by cases h)), [], trivial, ?_, (fun _ h => (by cases h))⟩
  rw [List.append_nil]
  exact List.forall_mem_cons.mpr ⟨⟨show (20 : Nat) < 100 from by decide, nf0⟩, List.forall_mem_cons.mpr ⟨⟨show (20 : Nat) < 100 from by decide, nf1⟩, (fun _ h => (by cases h))⟩⟩
set_option maxHeartbeats 4000000 in
theorem vc_Mo_bits_11_0 (x2 : Int) (x3 : Int) (x5 : Int) (x6 : Int) (drawnEdge_0 : Int → Int) (pm_0 : Int) (pt_0 : Int → Int) (ph_0 : Int → Int) (drawnNode_0 : Int → Int) (pieceOf_0 : Int → Int) (ends_0 : Int → Int) (k2 : 0 ≤ x2 ∧ x2 ≤ 79) (k3 : 1 ≤ x3 ∧ x3 ≤ 80) (k5 : 1 ≤ x5 ∧ x5 ≤ 1) (k6 : 1 ≤ x6 ∧ x6 ≤ 80) (d0 : x2 + 1 ≤ x6 ∧ x6 ≤ x2 + 1) (d1 : x3 + (-4294967296) ≤ x6 ∧ x6 ≤ x3 + 0) (d2 : x3 + (-4294967296) ≤ x2 ∧ x2 ≤ x3 + (-1)) (f0 : x6 = x2 + 1) (f1 : x5 ≠ 0) (h2 : x5 = drawnEdge_0 (x2)) (f4 : x2 < x3) (g5 : x3 = pm_0) (f6 : PCS (pm_0) (pt_0) (ph_0) (drawnEdge_0) (drawnNode_0) (pieceOf_0)) (f7 : ENS (pm_0) (pt_0) (ph_0) (drawnEdge_0) (drawnNode_0) (pieceOf_0) (ends_0) (x2)) (f8 : 1 * x2 + ((-1) * pm_0 + 0) ≤ 0) (hK_0_33 : ∀ j : Int, 0 ≤ j → j < 80 → 0 ≤ pt_0 j ∧ pt_0 j ≤ 24) (hK_0_34 : ∀ j : Int, 0 ≤ j → j < 80 → 0 ≤ ph_0 j ∧ ph_0 j ≤ 24) (hK_0_42 : ∀ j : Int, 0 ≤ j → j < 26 → 0 ≤ drawnNode_0 j ∧ drawnNode_0 j ≤ 1) (hK_0_43 : ∀ j : Int, 0 ≤ j → j < 80 → 0 ≤ drawnEdge_0 j ∧ drawnEdge_0 j ≤ 1) (hK_0_44 : ∀ j : Int, 0 ≤ j → j < 80 → (-1) ≤ pieceOf_0 j ∧ pieceOf_0 j ≤ 79) (hK_0_50 : ∀ j : Int, 0 ≤ j → j < 80 → 0 ≤ ends_0 j ∧ ends_0 j ≤ 33554431) (kz_0_32 : 0 ≤ pm_0 ∧ pm_0 ≤ 80) : ENS (pm_0) (pt_0) (ph_0) (drawnEdge_0) (drawnNode_0) (pieceOf_0) (ends_0) (x6) := by
  first
    | (have h := ‹EN0 _ _›
       intro p i p0 p1 i0 i1
       rw [h p p0 (by omega)]
       exact ⟨fun z => absurd z (bit_zero i), fun ⟨f, a, b, _⟩ => by exfalso; omega⟩)
    | (first | rw [show x6 = x2 + 1 by omega] | rw [show x7 = x2 + 1 by omega]
       exact ens_skip ‹ENS _ _ _ _ _ _ _ _› (by omega))
    | (have o1 := bit_or (n := x26) (a := x22) (b := x25) (by assumption)
       have s1 := fun i (h0 : 0 ≤ i) (h1 : i < 32) => bit_shl (n := x25) (a := x23) (b := x24) (i := i) (by assumption) (by omega) (by omega) h0 h1
       have o2 := bit_or (n := x17) (a := x13) (b := x16) (by assumption)
       have s2 := fun i (h0 : 0 ≤ i) (h1 : i < 32) => bit_shl (n := x16) (a := x14) (b := x15) (i := i) (by assumption) (by omega) (by omega) h0 h1
       rw [show x27 = x2 + 1 by omega]
       skip; (first | subst h2 | skip)
       have hr := pcs_rng (e := x2) ‹PCS _ _ _ _ _ _› (by omega) (by omega) (by omega)
       have v := (hE_0_50_1 (pieceOf_0 x2) (by omega)).1 rfl
       have w := (hE_0_50_2 (pieceOf_0 x2) (by omega)).1 rfl
       refine ens_step ‹ENS _ _ _ _ _ _ _ _› (by omega) (by omega) (fun p a b => by rw [(hE_0_50_1 p a).2 b, (hE_0_50_2 p a).2 b]) (fun i a b => ?_)
       rw [v, o1 i, s1 i a b, w, o2 i, s2 i a b]
       constructor
       · rintro ((z | z) | z)
         · exact Or.inl z
         · exact Or.inr (by omega)
         · exact Or.inr (by omega)
       · rintro (z | z | z)
         · exact Or.inl (Or.inl z)
         · exact Or.inl (Or.inr z.1)
         · exact Or.inr z.1)
    | (have o1 := bit_or (n := x20) (a := x16) (b := x19) (by assumption)
       have s1 := fun i (h0 : 0 ≤ i) (h1 : i < 32) => bit_shl (n := x19) (a := x17) (b := x18) (i := i) (by assumption) (by omega) (by omega) h0 h1
       rw [show x21 = x2 + 1 by omega]
       skip; (first | subst h2 | skip)
       have hr := pcs_rng (e := x2) ‹PCS _ _ _ _ _ _› (by omega) (by omega) (by omega)
       have v := (hE_0_50_1 (pieceOf_0 x2) (by omega)).1 rfl
       refine ens_step ‹ENS _ _ _ _ _ _ _ _› (by omega) (by omega) (fun p a b => (hE_0_50_1 p a).2 b) (fun i a b => ?_)
       rw [v, o1 i, s1 i a b]
       refine or_congr Iff.rfl ⟨fun z => ?_, fun z => ?_⟩ <;> omega)
    | (have o1 := bit_or (n := x17) (a := x13) (b := x16) (by assumption)
       have s1 := fun i (h0 : 0 ≤ i) (h1 : i < 32) => bit_shl (n := x16) (a := x14) (b := x15) (i := i) (by assumption) (by omega) (by omega) h0 h1
       rw [show x21 = x2 + 1 by omega]
       skip; (first | subst h2 | skip)
       have hr := pcs_rng (e := x2) ‹PCS _ _ _ _ _ _› (by omega) (by omega) (by omega)
       have v := (hE_0_50_1 (pieceOf_0 x2) (by omega)).1 rfl
       refine ens_step ‹ENS _ _ _ _ _ _ _ _› (by omega) (by omega) (fun p a b => (hE_0_50_1 p a).2 b) (fun i a b => ?_)
       rw [v, o1 i, s1 i a b]
       refine or_congr Iff.rfl ⟨fun z => ?_, fun z => ?_⟩ <;> omega)
    | (skip; (first | subst h2 | skip)
       first | rw [show x13 = x2 + 1 by omega] | rw [show x14 = x2 + 1 by omega] | rw [show x15 = x2 + 1 by omega]
       refine ens_step ‹ENS _ _ _ _ _ _ _ _› (by omega) (by omega) (fun _ _ _ => rfl) (fun i a b => ?_)
       constructor
       · exact Or.inl
       · rintro (z | z | z)
         · exact z
         · exfalso; omega
         · exfalso; omega)
set_option maxHeartbeats 4000000 in
theorem vc_Mo_bits_11_1 (x2 : Int) (x3 : Int) (x5 : Int) (x6 : Int) (drawnEdge_0 : Int → Int) (pm_0 : Int) (pt_0 : Int → Int) (ph_0 : Int → Int) (drawnNode_0 : Int → Int) (pieceOf_0 : Int → Int) (ends_0 : Int → Int) (k2 : 0 ≤ x2 ∧ x2 ≤ 79) (k3 : 1 ≤ x3 ∧ x3 ≤ 80) (k5 : 1 ≤ x5 ∧ x5 ≤ 1) (k6 : 1 ≤ x6 ∧ x6 ≤ 80) (d0 : x2 + 1 ≤ x6 ∧ x6 ≤ x2 + 1) (d1 : x3 + (-4294967296) ≤ x6 ∧ x6 ≤ x3 + 0) (d2 : x3 + (-4294967296) ≤ x2 ∧ x2 ≤ x3 + (-1)) (f0 : x6 = x2 + 1) (f1 : x5 ≠ 0) (h2 : x5 = drawnEdge_0 (x2)) (f4 : x2 < x3) (g5 : x3 = pm_0) (f6 : PCS (pm_0) (pt_0) (ph_0) (drawnEdge_0) (drawnNode_0) (pieceOf_0)) (f7 : ENS (pm_0) (pt_0) (ph_0) (drawnEdge_0) (drawnNode_0) (pieceOf_0) (ends_0) (x2)) (f8 : 1 * x2 + ((-1) * pm_0 + 0) ≤ 0) (hK_0_33 : ∀ j : Int, 0 ≤ j → j < 80 → 0 ≤ pt_0 j ∧ pt_0 j ≤ 24) (hK_0_34 : ∀ j : Int, 0 ≤ j → j < 80 → 0 ≤ ph_0 j ∧ ph_0 j ≤ 24) (hK_0_42 : ∀ j : Int, 0 ≤ j → j < 26 → 0 ≤ drawnNode_0 j ∧ drawnNode_0 j ≤ 1) (hK_0_43 : ∀ j : Int, 0 ≤ j → j < 80 → 0 ≤ drawnEdge_0 j ∧ drawnEdge_0 j ≤ 1) (hK_0_44 : ∀ j : Int, 0 ≤ j → j < 80 → (-1) ≤ pieceOf_0 j ∧ pieceOf_0 j ≤ 79) (hK_0_50 : ∀ j : Int, 0 ≤ j → j < 80 → 0 ≤ ends_0 j ∧ ends_0 j ≤ 33554431) (kz_0_32 : 0 ≤ pm_0 ∧ pm_0 ≤ 80) : 1 * x6 + ((-1) * pm_0 + 0) ≤ 0 := by
  first | omega
def o_Mo_bits_11 : or_T := (25, 7, [(0, (2, 0, 0, [165])), (2, (0, 0, 79, [])), (3, (0, 1, 80, [])), (5, (0, 1, 1, [])), (6, (0, 1, 80, []))], [(6, [6, 2], [1]), (8, [5], [1]), (10, [5, 4, 2], []), (9, [4, 1], [43]), (7, [2, 3], [2]), (9, [3, 1], [32]), (20, [1], [60, 1, 5, 106, 32, 33, 34, 43, 42, 44]), (20, [1, 2], [60, 1, 6, 108, 32, 33, 34, 43, 42, 44, 50]), (20, [2, 1], [30, 0, 1, 0, 0, -1, 1, 32]), (24, [0, 1], [])], [], [], [(20, [1, 6], [60, 1, 6, 108, 32, 33, 34, 43, 42, 44, 50]), (20, [6, 1], [30, 0, 1, 0, 0, -1, 1, 32])], [], [(6, 2, 1, 1), (6, 3, -4294967296, 0), (2, 3, -4294967296, -1)])
theorem oo_Mo_bits_11 {kA : Nat → ClassId} : or_ok PRD kA GG o_Mo_bits_11 := by
  refine or_mk fun A ta ws vs hD hth hl => ?_
  intro t0 r0 t2 k2 t3 k3 t5 k5 t6 k6 d0 d1 d2 f0 f1 f2 f3 f4 f5 f6 f7 f8 f9
  replace f0 := shm_4 f0
  replace f1 := shm_142 f1
  replace f2 := shm_107 f2
  replace f3 := shm_532 f3
  replace f4 := shm_6 f4
  replace f5 := shm_525 f5
  replace f6 := shm_523 f6
  replace f7 := shm_526 f7
  replace f8 := shm_527 f8
  replace f9 := shm_5 f9
  have q1 : n_v vs 1 = n_v vs 0 := f9.symm
  simp only [q1] at f3 f5 f6 f7 f8
  have cr_0_33 := fdq_117 hD hth r0
  have cr_0_34 := fdq_118 hD hth r0
  have cr_0_42 := fdq_136 hD hth r0
  have cr_0_43 := fdq_137 hD hth r0
  have cr_0_44 := fdq_138 hD hth r0
  have cr_0_50 := fdq_139 hD hth r0
  have ad_4 : v_ad (n_v vs 4) = w_ar ws (n_v vs 0) 43 := congrArg v_ad f3
  simp only [ad_4] at f2
  have h2 : v_iv (n_v vs 5) = w_ei ws (w_ar ws (n_v vs 0) 43) (v_iv (n_v vs 2)) := f2
  have g5 : v_iv (n_v vs 3) = w_fi ws (n_v vs 0) 32 := congrArg v_iv f5
  have hK_0_33 := elq_60 hD hth cr_0_33
  have hK_0_34 := elq_61 hD hth cr_0_34
  have hK_0_42 := elq_75 hD hth cr_0_42
  have hK_0_43 := elq_76 hD hth cr_0_43
  have hK_0_44 := elq_77 hD hth cr_0_44
  have hK_0_50 := elq_78 hD hth cr_0_50
  have kz_0_32 := fdq_140 hD hth r0
  have nf0 : fc_1 PRD (20, [1, 6], [60, 1, 6, 108, 32, 33, 34, 43, 42, 44, 50]) ws (vs) := by
    refine ⟨nf_in hl rfl, sgq_526 ?_⟩
    · show ENS (w_fi ws (n_v vs 1) 32) (w_ei ws (w_ar ws (n_v vs 1) 33)) (w_ei ws (w_ar ws (n_v vs 1) 34)) (w_ei ws (w_ar ws (n_v vs 1) 43)) (w_ei ws (w_ar ws (n_v vs 1) 42)) (w_ei ws (w_ar ws (n_v vs 1) 44)) (w_ei ws (w_ar ws (n_v vs 1) 50)) (v_iv (n_v vs 6))
      rw [q1]
      exact vc_Mo_bits_11_0 (v_iv (n_v vs 2)) (v_iv (n_v vs 3)) (v_iv (n_v vs 5)) (v_iv (n_v vs 6)) (w_ei ws (w_ar ws (n_v vs 0) 43)) (w_fi ws (n_v vs 0) 32) (w_ei ws (w_ar ws (n_v vs 0) 33)) (w_ei ws (w_ar ws (n_v vs 0) 34)) (w_ei ws (w_ar ws (n_v vs 0) 42)) (w_ei ws (w_ar ws (n_v vs 0) 44)) (w_ei ws (w_ar ws (n_v vs 0) 50)) k2 k3 k5 k6 d0 d1 d2 f0 f1 h2 f4 g5 f6 f7 f8 hK_0_33 hK_0_34 hK_0_42 hK_0_43 hK_0_44 hK_0_50 kz_0_32
  have nf1 : fc_1 PRD (20, [6, 1], [30, 0, 1, 0, 0, -1, 1, 32]) ws (vs) := by
    refine ⟨nf_in hl rfl, sgq_527 ?_⟩
    · show 1 * v_iv (n_v vs 6) + ((-1) * w_fi ws (n_v vs 1) 32 + 0) ≤ 0
      rw [q1]
      exact vc_Mo_bits_11_1 (v_iv (n_v vs 2)) (v_iv (n_v vs 3)) (v_iv (n_v vs 5)) (v_iv (n_v vs 6)) (w_ei ws (w_ar ws (n_v vs 0) 43)) (w_fi ws (n_v vs 0) 32) (w_ei ws (w_ar ws (n_v vs 0) 33)) (w_ei ws (w_ar ws (n_v vs 0) 34)) (w_ei ws (w_ar ws (n_v vs 0) 42)) (w_ei ws (w_ar ws (n_v vs 0) 44)) (w_ei ws (w_ar ws (n_v vs 0) 50)) k2 k3 k5 k6 d0 d1 d2 f0 f1 h2 f4 g5 f6 f7 f8 hK_0_33 hK_0_34 hK_0_42 hK_0_43 hK_0_44 hK_0_50 kz_0_32
  refine ⟨(fun _ h => (by cases h)), [], trivial, ?_, (fun _ h => (by cases h))⟩
  rw [List.append_nil]
  exact List.forall_mem_cons.mpr ⟨⟨show (20 : Nat) < 100 from by decide, nf0⟩, List.forall_mem_cons.mpr ⟨⟨show (20 : Nat) < 100 from by decide, nf1⟩, (fun _ h => (by cases h))⟩⟩
set_option maxHeartbeats 4000000 in
theorem vc_Mo_bits_12_0 (x2 : Int) (x3 : Int) (faces_0 : Int) (pt_0 : Int → Int) (ph_0 : Int → Int) (drawnEdge_0 : Int → Int) (drawnNode_0 : Int → Int) (pieceOf_0 : Int → Int) (ends_0 : Int → Int) (pm_0 : Int) (faceMany_0 : Int → Int) (face_0 : Int → Int) (faceNodes_0 : Int → Int) (k2 : 0 ≤ x2 ∧ x2 ≤ 120) (k3 : 0 ≤ x3 ∧ x3 ≤ 120) (d0 : x3 + 0 ≤ x2 ∧ x2 ≤ x3 + 4294967296) (f0 : x3 ≤ x2) (g1 : x3 = faces_0) (f2 : END (pm_0) (pt_0) (ph_0) (drawnEdge_0) (drawnNode_0) (pieceOf_0) (ends_0)) (f3 : FCN (faceMany_0) (face_0) (faceNodes_0) (x2)) (hK_0_33 : ∀ j : Int, 0 ≤ j → j < 80 → 0 ≤ pt_0 j ∧ pt_0 j ≤ 24) (hK_0_34 : ∀ j : Int, 0 ≤ j → j < 80 → 0 ≤ ph_0 j ∧ ph_0 j ≤ 24) (hK_0_40 : ∀ j : Int, 0 ≤ j → j < 120 → 0 ≤ faceMany_0 j ∧ faceMany_0 j ≤ 60) (hK_0_41 : ∀ j : Int, 0 ≤ j → j < 7200 → 0 ≤ face_0 j ∧ face_0 j ≤ 24) (hK_0_42 : ∀ j : Int, 0 ≤ j → j < 26 → 0 ≤ drawnNode_0 j ∧ drawnNode_0 j ≤ 1) (hK_0_43 : ∀ j : Int, 0 ≤ j → j < 80 → 0 ≤ drawnEdge_0 j ∧ drawnEdge_0 j ≤ 1) (hK_0_44 : ∀ j : Int, 0 ≤ j → j < 80 → (-1) ≤ pieceOf_0 j ∧ pieceOf_0 j ≤ 79) (hK_0_50 : ∀ j : Int, 0 ≤ j → j < 80 → 0 ≤ ends_0 j ∧ ends_0 j ≤ 33554431) (hK_0_51 : ∀ j : Int, 0 ≤ j → j < 120 → 0 ≤ faceNodes_0 j ∧ faceNodes_0 j ≤ 33554431) (kz_0_32 : 0 ≤ pm_0 ∧ pm_0 ≤ 80) (kz_0_39 : 0 ≤ faces_0 ∧ faces_0 ≤ 120) : END (pm_0) (pt_0) (ph_0) (drawnEdge_0) (drawnNode_0) (pieceOf_0) (ends_0) := by
  first | assumption
set_option maxHeartbeats 4000000 in
theorem vc_Mo_bits_12_1 (x2 : Int) (x3 : Int) (faces_0 : Int) (pt_0 : Int → Int) (ph_0 : Int → Int) (drawnEdge_0 : Int → Int) (drawnNode_0 : Int → Int) (pieceOf_0 : Int → Int) (ends_0 : Int → Int) (pm_0 : Int) (faceMany_0 : Int → Int) (face_0 : Int → Int) (faceNodes_0 : Int → Int) (k2 : 0 ≤ x2 ∧ x2 ≤ 120) (k3 : 0 ≤ x3 ∧ x3 ≤ 120) (d0 : x3 + 0 ≤ x2 ∧ x2 ≤ x3 + 4294967296) (f0 : x3 ≤ x2) (g1 : x3 = faces_0) (f2 : END (pm_0) (pt_0) (ph_0) (drawnEdge_0) (drawnNode_0) (pieceOf_0) (ends_0)) (f3 : FCN (faceMany_0) (face_0) (faceNodes_0) (x2)) (hK_0_33 : ∀ j : Int, 0 ≤ j → j < 80 → 0 ≤ pt_0 j ∧ pt_0 j ≤ 24) (hK_0_34 : ∀ j : Int, 0 ≤ j → j < 80 → 0 ≤ ph_0 j ∧ ph_0 j ≤ 24) (hK_0_40 : ∀ j : Int, 0 ≤ j → j < 120 → 0 ≤ faceMany_0 j ∧ faceMany_0 j ≤ 60) (hK_0_41 : ∀ j : Int, 0 ≤ j → j < 7200 → 0 ≤ face_0 j ∧ face_0 j ≤ 24) (hK_0_42 : ∀ j : Int, 0 ≤ j → j < 26 → 0 ≤ drawnNode_0 j ∧ drawnNode_0 j ≤ 1) (hK_0_43 : ∀ j : Int, 0 ≤ j → j < 80 → 0 ≤ drawnEdge_0 j ∧ drawnEdge_0 j ≤ 1) (hK_0_44 : ∀ j : Int, 0 ≤ j → j < 80 → (-1) ≤ pieceOf_0 j ∧ pieceOf_0 j ≤ 79) (hK_0_50 : ∀ j : Int, 0 ≤ j → j < 80 → 0 ≤ ends_0 j ∧ ends_0 j ≤ 33554431) (hK_0_51 : ∀ j : Int, 0 ≤ j → j < 120 → 0 ≤ faceNodes_0 j ∧ faceNodes_0 j ≤ 33554431) (kz_0_32 : 0 ≤ pm_0 ∧ pm_0 ≤ 80) (kz_0_39 : 0 ≤ faces_0 ∧ faces_0 ≤ 120) : FCF (faces_0) (faceMany_0) (face_0) (faceNodes_0) := by
  have h := ‹FCN _ _ _ _›
  intro g i a b c d
  exact h g i a (by omega) c d
def o_Mo_bits_12 : or_T := (186, 4, [(0, (2, 0, 0, [165])), (2, (0, 0, 120, [])), (3, (0, 0, 120, []))], [(7, [2, 3], [3]), (9, [3, 1], [39]), (20, [1], [60, 1, 6, 109, 32, 33, 34, 43, 42, 44, 50]), (20, [1, 2], [60, 0, 3, 110, 40, 41, 51]), (24, [0, 1], [])], [], [], [(20, [0], [60, 1, 6, 109, 32, 33, 34, 43, 42, 44, 50]), (20, [0], [60, 1, 3, 113, 39, 40, 41, 51])], [], [(2, 3, 0, 4294967296)])
theorem oo_Mo_bits_12 {kA : Nat → ClassId} : or_ok PRD kA GG o_Mo_bits_12 := by
  refine or_mk fun A ta ws vs hD hth hl => ?_
  intro t0 r0 t2 k2 t3 k3 d0 f0 f1 f2 f3 f4
  replace f1 := shm_516 f1
  replace f2 := shm_529 f2
  replace f3 := shm_530 f3
  replace f4 := shm_5 f4
  have q1 : n_v vs 1 = n_v vs 0 := f4.symm
  simp only [q1] at f1 f2 f3
  have cr_0_33 := fdq_117 hD hth r0
  have cr_0_34 := fdq_118 hD hth r0
  have cr_0_40 := fdq_133 hD hth r0
  have cr_0_41 := fdq_134 hD hth r0
  have cr_0_42 := fdq_136 hD hth r0
  have cr_0_43 := fdq_137 hD hth r0
  have cr_0_44 := fdq_138 hD hth r0
  have cr_0_50 := fdq_139 hD hth r0
  have cr_0_51 := fdq_141 hD hth r0
  have g1 : v_iv (n_v vs 3) = w_fi ws (n_v vs 0) 39 := congrArg v_iv f1
  have hK_0_33 := elq_60 hD hth cr_0_33
  have hK_0_34 := elq_61 hD hth cr_0_34
  have hK_0_40 := elq_73 hD hth cr_0_40
  have hK_0_41 := elq_74 hD hth cr_0_41
  have hK_0_42 := elq_75 hD hth cr_0_42
  have hK_0_43 := elq_76 hD hth cr_0_43
  have hK_0_44 := elq_77 hD hth cr_0_44
  have hK_0_50 := elq_78 hD hth cr_0_50
  have hK_0_51 := elq_79 hD hth cr_0_51
  have kz_0_32 := fdq_140 hD hth r0
  have kz_0_39 := fdq_135 hD hth r0
  have nf0 : fc_1 PRD (20, [0], [60, 1, 6, 109, 32, 33, 34, 43, 42, 44, 50]) ws (vs) := ⟨nf_in hl rfl, sgq_529 (vc_Mo_bits_12_0 (v_iv (n_v vs 2)) (v_iv (n_v vs 3)) (w_fi ws (n_v vs 0) 39) (w_ei ws (w_ar ws (n_v vs 0) 33)) (w_ei ws (w_ar ws (n_v vs 0) 34)) (w_ei ws (w_ar ws (n_v vs 0) 43)) (w_ei ws (w_ar ws (n_v vs 0) 42)) (w_ei ws (w_ar ws (n_v vs 0) 44)) (w_ei ws (w_ar ws (n_v vs 0) 50)) (w_fi ws (n_v vs 0) 32) (w_ei ws (w_ar ws (n_v vs 0) 40)) (w_ei ws (w_ar ws (n_v vs 0) 41)) (w_ei ws (w_ar ws (n_v vs 0) 51)) k2 k3 d0 (shm_2 f0) g1 f2 f3 hK_0_33 hK_0_34 hK_0_40 hK_0_41 hK_0_42 hK_0_43 hK_0_44 hK_0_50 hK_0_51 kz_0_32 kz_0_39)⟩
  have nf1 : fc_1 PRD (20, [0], [60, 1, 3, 113, 39, 40, 41, 51]) ws (vs) := ⟨nf_in hl rfl, sgq_534 (vc_Mo_bits_12_1 (v_iv (n_v vs 2)) (v_iv (n_v vs 3)) (w_fi ws (n_v vs 0) 39) (w_ei ws (w_ar ws (n_v vs 0) 33)) (w_ei ws (w_ar ws (n_v vs 0) 34)) (w_ei ws (w_ar ws (n_v vs 0) 43)) (w_ei ws (w_ar ws (n_v vs 0) 42)) (w_ei ws (w_ar ws (n_v vs 0) 44)) (w_ei ws (w_ar ws (n_v vs 0) 50)) (w_fi ws (n_v vs 0) 32) (w_ei ws (w_ar ws (n_v vs 0) 40)) (w_ei ws (w_ar ws (n_v vs 0) 41)) (w_ei ws (w_ar ws (n_v vs 0) 51)) k2 k3 d0 (shm_2 f0) g1 f2 f3 hK_0_33 hK_0_34 hK_0_40 hK_0_41 hK_0_42 hK_0_43 hK_0_44 hK_0_50 hK_0_51 kz_0_32 kz_0_39)⟩
  refine ⟨(fun _ h => (by cases h)), [], trivial, ?_, (fun _ h => (by cases h))⟩
  rw [List.append_nil]
  exact List.forall_mem_cons.mpr ⟨⟨show (20 : Nat) < 100 from by decide, nf0⟩, List.forall_mem_cons.mpr ⟨⟨show (20 : Nat) < 100 from by decide, nf1⟩, (fun _ h => (by cases h))⟩⟩
set_option maxHeartbeats 4000000 in
theorem vc_Mo_bits_13_0 (x2 : Int) (x3 : Int) (x5 : Int) (x6 : Int) (pt_0 : Int → Int) (ph_0 : Int → Int) (drawnEdge_0 : Int → Int) (drawnNode_0 : Int → Int) (pieceOf_0 : Int → Int) (ends_0 : Int → Int) (pm_0 : Int) (faces_1 : Int) (pt_1 : Int → Int) (ph_1 : Int → Int) (drawnEdge_1 : Int → Int) (drawnNode_1 : Int → Int) (pieceOf_1 : Int → Int) (ends_1 : Int → Int) (pm_1 : Int) (faceMany_1 : Int → Int) (face_1 : Int → Int) (faceNodes_1 : Int → Int) (faces_0 : Int) (faceMany_0 : Int → Int) (face_0 : Int → Int) (faceNodes_0 : Int → Int) (k2 : 0 ≤ x2 ∧ x2 ≤ 119) (k3 : 1 ≤ x3 ∧ x3 ≤ 120) (k5 : 0 ≤ x5 ∧ x5 ≤ 0) (k6 : 0 ≤ x6 ∧ x6 ≤ 0) (d0 : x3 + (-4294967296) ≤ x2 ∧ x2 ≤ x3 + (-1)) (f0 : END (pm_0) (pt_0) (ph_0) (drawnEdge_0) (drawnNode_0) (pieceOf_0) (ends_0)) (f4 : x2 < x3) (g5 : x3 = faces_1) (f6 : END (pm_1) (pt_1) (ph_1) (drawnEdge_1) (drawnNode_1) (pieceOf_1) (ends_1)) (f7 : FCN (faceMany_1) (face_1) (faceNodes_1) (x2)) (fe_0_32_1 : pm_0 = pm_1) (fe_0_39_1 : faces_0 = faces_1) (hE_0_33_1 : ∀ j : Int, pt_0 j = pt_1 j) (hK_0_33 : ∀ j : Int, 0 ≤ j → j < 80 → 0 ≤ pt_0 j ∧ pt_0 j ≤ 24) (hE_0_34_1 : ∀ j : Int, ph_0 j = ph_1 j) (hK_0_34 : ∀ j : Int, 0 ≤ j → j < 80 → 0 ≤ ph_0 j ∧ ph_0 j ≤ 24) (hE_0_40_1 : ∀ j : Int, faceMany_0 j = faceMany_1 j) (hK_0_40 : ∀ j : Int, 0 ≤ j → j < 120 → 0 ≤ faceMany_0 j ∧ faceMany_0 j ≤ 60) (hE_0_41_1 : ∀ j : Int, face_0 j = face_1 j) (hK_0_41 : ∀ j : Int, 0 ≤ j → j < 7200 → 0 ≤ face_0 j ∧ face_0 j ≤ 24) (hE_0_42_1 : ∀ j : Int, drawnNode_0 j = drawnNode_1 j) (hK_0_42 : ∀ j : Int, 0 ≤ j → j < 26 → 0 ≤ drawnNode_0 j ∧ drawnNode_0 j ≤ 1) (hE_0_43_1 : ∀ j : Int, drawnEdge_0 j = drawnEdge_1 j) (hK_0_43 : ∀ j : Int, 0 ≤ j → j < 80 → 0 ≤ drawnEdge_0 j ∧ drawnEdge_0 j ≤ 1) (hE_0_44_1 : ∀ j : Int, pieceOf_0 j = pieceOf_1 j) (hK_0_44 : ∀ j : Int, 0 ≤ j → j < 80 → (-1) ≤ pieceOf_0 j ∧ pieceOf_0 j ≤ 79) (hE_0_50_1 : ∀ j : Int, ends_0 j = ends_1 j) (hK_0_50 : ∀ j : Int, 0 ≤ j → j < 80 → 0 ≤ ends_0 j ∧ ends_0 j ≤ 33554431) (hE_0_51_1 : ∀ j : Int, 0 ≤ j → (j = x2 → faceNodes_0 j = x5) ∧ (j ≠ x2 → faceNodes_0 j = faceNodes_1 j)) (hK_0_51 : ∀ j : Int, 0 ≤ j → j < 120 → 0 ≤ faceNodes_0 j ∧ faceNodes_0 j ≤ 33554431) (kz_0_32 : 0 ≤ pm_0 ∧ pm_0 ≤ 80) (kz_0_39 : 0 ≤ faces_0 ∧ faces_0 ≤ 120) : FCN (faceMany_0) (face_0) (faceNodes_0) (x2) := by
  subst fe_0_32_1
  subst fe_0_39_1
  have e_hE_0_33_1 := funext hE_0_33_1; subst e_hE_0_33_1
  have e_hE_0_34_1 := funext hE_0_34_1; subst e_hE_0_34_1
  have e_hE_0_40_1 := funext hE_0_40_1; subst e_hE_0_40_1
  have e_hE_0_41_1 := funext hE_0_41_1; subst e_hE_0_41_1
  have e_hE_0_42_1 := funext hE_0_42_1; subst e_hE_0_42_1
  have e_hE_0_43_1 := funext hE_0_43_1; subst e_hE_0_43_1
  have e_hE_0_44_1 := funext hE_0_44_1; subst e_hE_0_44_1
  have e_hE_0_50_1 := funext hE_0_50_1; subst e_hE_0_50_1
  first
    | assumption
    | (have h := ‹FCN _ _ _ _›
       intro g i a b c d
       rw [(hE_0_51_1 g a).2 (by omega)]
       exact h g i a b c d)
set_option maxHeartbeats 4000000 in
theorem vc_Mo_bits_13_1 (x2 : Int) (x3 : Int) (x5 : Int) (x6 : Int) (pt_0 : Int → Int) (ph_0 : Int → Int) (drawnEdge_0 : Int → Int) (drawnNode_0 : Int → Int) (pieceOf_0 : Int → Int) (ends_0 : Int → Int) (pm_0 : Int) (faces_1 : Int) (pt_1 : Int → Int) (ph_1 : Int → Int) (drawnEdge_1 : Int → Int) (drawnNode_1 : Int → Int) (pieceOf_1 : Int → Int) (ends_1 : Int → Int) (pm_1 : Int) (faceMany_1 : Int → Int) (face_1 : Int → Int) (faceNodes_1 : Int → Int) (faces_0 : Int) (faceMany_0 : Int → Int) (face_0 : Int → Int) (faceNodes_0 : Int → Int) (k2 : 0 ≤ x2 ∧ x2 ≤ 119) (k3 : 1 ≤ x3 ∧ x3 ≤ 120) (k5 : 0 ≤ x5 ∧ x5 ≤ 0) (k6 : 0 ≤ x6 ∧ x6 ≤ 0) (d0 : x3 + (-4294967296) ≤ x2 ∧ x2 ≤ x3 + (-1)) (f0 : END (pm_0) (pt_0) (ph_0) (drawnEdge_0) (drawnNode_0) (pieceOf_0) (ends_0)) (f4 : x2 < x3) (g5 : x3 = faces_1) (f6 : END (pm_1) (pt_1) (ph_1) (drawnEdge_1) (drawnNode_1) (pieceOf_1) (ends_1)) (f7 : FCN (faceMany_1) (face_1) (faceNodes_1) (x2)) (fe_0_32_1 : pm_0 = pm_1) (fe_0_39_1 : faces_0 = faces_1) (hE_0_33_1 : ∀ j : Int, pt_0 j = pt_1 j) (hK_0_33 : ∀ j : Int, 0 ≤ j → j < 80 → 0 ≤ pt_0 j ∧ pt_0 j ≤ 24) (hE_0_34_1 : ∀ j : Int, ph_0 j = ph_1 j) (hK_0_34 : ∀ j : Int, 0 ≤ j → j < 80 → 0 ≤ ph_0 j ∧ ph_0 j ≤ 24) (hE_0_40_1 : ∀ j : Int, faceMany_0 j = faceMany_1 j) (hK_0_40 : ∀ j : Int, 0 ≤ j → j < 120 → 0 ≤ faceMany_0 j ∧ faceMany_0 j ≤ 60) (hE_0_41_1 : ∀ j : Int, face_0 j = face_1 j) (hK_0_41 : ∀ j : Int, 0 ≤ j → j < 7200 → 0 ≤ face_0 j ∧ face_0 j ≤ 24) (hE_0_42_1 : ∀ j : Int, drawnNode_0 j = drawnNode_1 j) (hK_0_42 : ∀ j : Int, 0 ≤ j → j < 26 → 0 ≤ drawnNode_0 j ∧ drawnNode_0 j ≤ 1) (hE_0_43_1 : ∀ j : Int, drawnEdge_0 j = drawnEdge_1 j) (hK_0_43 : ∀ j : Int, 0 ≤ j → j < 80 → 0 ≤ drawnEdge_0 j ∧ drawnEdge_0 j ≤ 1) (hE_0_44_1 : ∀ j : Int, pieceOf_0 j = pieceOf_1 j) (hK_0_44 : ∀ j : Int, 0 ≤ j → j < 80 → (-1) ≤ pieceOf_0 j ∧ pieceOf_0 j ≤ 79) (hE_0_50_1 : ∀ j : Int, ends_0 j = ends_1 j) (hK_0_50 : ∀ j : Int, 0 ≤ j → j < 80 → 0 ≤ ends_0 j ∧ ends_0 j ≤ 33554431) (hE_0_51_1 : ∀ j : Int, 0 ≤ j → (j = x2 → faceNodes_0 j = x5) ∧ (j ≠ x2 → faceNodes_0 j = faceNodes_1 j)) (hK_0_51 : ∀ j : Int, 0 ≤ j → j < 120 → 0 ≤ faceNodes_0 j ∧ faceNodes_0 j ≤ 33554431) (kz_0_32 : 0 ≤ pm_0 ∧ pm_0 ≤ 80) (kz_0_39 : 0 ≤ faces_0 ∧ faces_0 ≤ 120) : FCK (face_0) (faceNodes_0) (x2) (x6) := by
  subst fe_0_32_1
  subst fe_0_39_1
  have e_hE_0_33_1 := funext hE_0_33_1; subst e_hE_0_33_1
  have e_hE_0_34_1 := funext hE_0_34_1; subst e_hE_0_34_1
  have e_hE_0_40_1 := funext hE_0_40_1; subst e_hE_0_40_1
  have e_hE_0_41_1 := funext hE_0_41_1; subst e_hE_0_41_1
  have e_hE_0_42_1 := funext hE_0_42_1; subst e_hE_0_42_1
  have e_hE_0_43_1 := funext hE_0_43_1; subst e_hE_0_43_1
  have e_hE_0_44_1 := funext hE_0_44_1; subst e_hE_0_44_1
  have e_hE_0_50_1 := funext hE_0_50_1; subst e_hE_0_50_1
  first
    | (intro i a b
       rw [(hE_0_51_1 x2 (by omega)).1 rfl, show x5 = 0 by omega]
       exact ⟨fun z => absurd z (bit_zero i), fun ⟨j, j0, j1, _⟩ => by exfalso; omega⟩)
    | (have e11 : x11 = 60 * x2 := by omega
       have o1 := bit_or (n := x15) (a := x7) (b := x14) (by assumption)
       have s1 := fun i (h0 : 0 ≤ i) (h1 : i < 32) => bit_shl (n := x14) (a := x8) (b := x13) (i := i) (by assumption) (by omega) (by omega) h0 h1
       rw [show x16 = x3 + 1 by omega]
       refine fck_step ‹FCK _ _ _ _› (by omega) (fun i a b => ?_)
       rw [(hE_0_51_1 x2 (by omega)).1 rfl, o1 i, s1 i a b, show 60 * x2 + x3 = x12 by omega, ← ‹x7 = faceNodes_1 x2›, ← ‹x13 = face_0 x12›])
set_option maxHeartbeats 4000000 in
theorem vc_Mo_bits_13_2 (x2 : Int) (x3 : Int) (x5 : Int) (x6 : Int) (pt_0 : Int → Int) (ph_0 : Int → Int) (drawnEdge_0 : Int → Int) (drawnNode_0 : Int → Int) (pieceOf_0 : Int → Int) (ends_0 : Int → Int) (pm_0 : Int) (faces_1 : Int) (pt_1 : Int → Int) (ph_1 : Int → Int) (drawnEdge_1 : Int → Int) (drawnNode_1 : Int → Int) (pieceOf_1 : Int → Int) (ends_1 : Int → Int) (pm_1 : Int) (faceMany_1 : Int → Int) (face_1 : Int → Int) (faceNodes_1 : Int → Int) (faces_0 : Int) (faceMany_0 : Int → Int) (face_0 : Int → Int) (faceNodes_0 : Int → Int) (k2 : 0 ≤ x2 ∧ x2 ≤ 119) (k3 : 1 ≤ x3 ∧ x3 ≤ 120) (k5 : 0 ≤ x5 ∧ x5 ≤ 0) (k6 : 0 ≤ x6 ∧ x6 ≤ 0) (d0 : x3 + (-4294967296) ≤ x2 ∧ x2 ≤ x3 + (-1)) (f0 : END (pm_0) (pt_0) (ph_0) (drawnEdge_0) (drawnNode_0) (pieceOf_0) (ends_0)) (f4 : x2 < x3) (g5 : x3 = faces_1) (f6 : END (pm_1) (pt_1) (ph_1) (drawnEdge_1) (drawnNode_1) (pieceOf_1) (ends_1)) (f7 : FCN (faceMany_1) (face_1) (faceNodes_1) (x2)) (fe_0_32_1 : pm_0 = pm_1) (fe_0_39_1 : faces_0 = faces_1) (hE_0_33_1 : ∀ j : Int, pt_0 j = pt_1 j) (hK_0_33 : ∀ j : Int, 0 ≤ j → j < 80 → 0 ≤ pt_0 j ∧ pt_0 j ≤ 24) (hE_0_34_1 : ∀ j : Int, ph_0 j = ph_1 j) (hK_0_34 : ∀ j : Int, 0 ≤ j → j < 80 → 0 ≤ ph_0 j ∧ ph_0 j ≤ 24) (hE_0_40_1 : ∀ j : Int, faceMany_0 j = faceMany_1 j) (hK_0_40 : ∀ j : Int, 0 ≤ j → j < 120 → 0 ≤ faceMany_0 j ∧ faceMany_0 j ≤ 60) (hE_0_41_1 : ∀ j : Int, face_0 j = face_1 j) (hK_0_41 : ∀ j : Int, 0 ≤ j → j < 7200 → 0 ≤ face_0 j ∧ face_0 j ≤ 24) (hE_0_42_1 : ∀ j : Int, drawnNode_0 j = drawnNode_1 j) (hK_0_42 : ∀ j : Int, 0 ≤ j → j < 26 → 0 ≤ drawnNode_0 j ∧ drawnNode_0 j ≤ 1) (hE_0_43_1 : ∀ j : Int, drawnEdge_0 j = drawnEdge_1 j) (hK_0_43 : ∀ j : Int, 0 ≤ j → j < 80 → 0 ≤ drawnEdge_0 j ∧ drawnEdge_0 j ≤ 1) (hE_0_44_1 : ∀ j : Int, pieceOf_0 j = pieceOf_1 j) (hK_0_44 : ∀ j : Int, 0 ≤ j → j < 80 → (-1) ≤ pieceOf_0 j ∧ pieceOf_0 j ≤ 79) (hE_0_50_1 : ∀ j : Int, ends_0 j = ends_1 j) (hK_0_50 : ∀ j : Int, 0 ≤ j → j < 80 → 0 ≤ ends_0 j ∧ ends_0 j ≤ 33554431) (hE_0_51_1 : ∀ j : Int, 0 ≤ j → (j = x2 → faceNodes_0 j = x5) ∧ (j ≠ x2 → faceNodes_0 j = faceNodes_1 j)) (hK_0_51 : ∀ j : Int, 0 ≤ j → j < 120 → 0 ≤ faceNodes_0 j ∧ faceNodes_0 j ≤ 33554431) (kz_0_32 : 0 ≤ pm_0 ∧ pm_0 ≤ 80) (kz_0_39 : 0 ≤ faces_0 ∧ faces_0 ≤ 120) : 1 * x2 + ((-1) * faces_0 + 0) ≤ (-1) := by
  subst fe_0_32_1
  subst fe_0_39_1
  have e_hE_0_33_1 := funext hE_0_33_1; subst e_hE_0_33_1
  have e_hE_0_34_1 := funext hE_0_34_1; subst e_hE_0_34_1
  have e_hE_0_40_1 := funext hE_0_40_1; subst e_hE_0_40_1
  have e_hE_0_41_1 := funext hE_0_41_1; subst e_hE_0_41_1
  have e_hE_0_42_1 := funext hE_0_42_1; subst e_hE_0_42_1
  have e_hE_0_43_1 := funext hE_0_43_1; subst e_hE_0_43_1
  have e_hE_0_44_1 := funext hE_0_44_1; subst e_hE_0_44_1
  have e_hE_0_50_1 := funext hE_0_50_1; subst e_hE_0_50_1
  first | omega
set_option maxHeartbeats 4000000 in
theorem vc_Mo_bits_13_3 (x2 : Int) (x3 : Int) (x5 : Int) (x6 : Int) (pt_0 : Int → Int) (ph_0 : Int → Int) (drawnEdge_0 : Int → Int) (drawnNode_0 : Int → Int) (pieceOf_0 : Int → Int) (ends_0 : Int → Int) (pm_0 : Int) (faces_1 : Int) (pt_1 : Int → Int) (ph_1 : Int → Int) (drawnEdge_1 : Int → Int) (drawnNode_1 : Int → Int) (pieceOf_1 : Int → Int) (ends_1 : Int → Int) (pm_1 : Int) (faceMany_1 : Int → Int) (face_1 : Int → Int) (faceNodes_1 : Int → Int) (faces_0 : Int) (faceMany_0 : Int → Int) (face_0 : Int → Int) (faceNodes_0 : Int → Int) (k2 : 0 ≤ x2 ∧ x2 ≤ 119) (k3 : 1 ≤ x3 ∧ x3 ≤ 120) (k5 : 0 ≤ x5 ∧ x5 ≤ 0) (k6 : 0 ≤ x6 ∧ x6 ≤ 0) (d0 : x3 + (-4294967296) ≤ x2 ∧ x2 ≤ x3 + (-1)) (f0 : END (pm_0) (pt_0) (ph_0) (drawnEdge_0) (drawnNode_0) (pieceOf_0) (ends_0)) (f4 : x2 < x3) (g5 : x3 = faces_1) (f6 : END (pm_1) (pt_1) (ph_1) (drawnEdge_1) (drawnNode_1) (pieceOf_1) (ends_1)) (f7 : FCN (faceMany_1) (face_1) (faceNodes_1) (x2)) (fe_0_32_1 : pm_0 = pm_1) (fe_0_39_1 : faces_0 = faces_1) (hE_0_33_1 : ∀ j : Int, pt_0 j = pt_1 j) (hK_0_33 : ∀ j : Int, 0 ≤ j → j < 80 → 0 ≤ pt_0 j ∧ pt_0 j ≤ 24) (hE_0_34_1 : ∀ j : Int, ph_0 j = ph_1 j) (hK_0_34 : ∀ j : Int, 0 ≤ j → j < 80 → 0 ≤ ph_0 j ∧ ph_0 j ≤ 24) (hE_0_40_1 : ∀ j : Int, faceMany_0 j = faceMany_1 j) (hK_0_40 : ∀ j : Int, 0 ≤ j → j < 120 → 0 ≤ faceMany_0 j ∧ faceMany_0 j ≤ 60) (hE_0_41_1 : ∀ j : Int, face_0 j = face_1 j) (hK_0_41 : ∀ j : Int, 0 ≤ j → j < 7200 → 0 ≤ face_0 j ∧ face_0 j ≤ 24) (hE_0_42_1 : ∀ j : Int, drawnNode_0 j = drawnNode_1 j) (hK_0_42 : ∀ j : Int, 0 ≤ j → j < 26 → 0 ≤ drawnNode_0 j ∧ drawnNode_0 j ≤ 1) (hE_0_43_1 : ∀ j : Int, drawnEdge_0 j = drawnEdge_1 j) (hK_0_43 : ∀ j : Int, 0 ≤ j → j < 80 → 0 ≤ drawnEdge_0 j ∧ drawnEdge_0 j ≤ 1) (hE_0_44_1 : ∀ j : Int, pieceOf_0 j = pieceOf_1 j) (hK_0_44 : ∀ j : Int, 0 ≤ j → j < 80 → (-1) ≤ pieceOf_0 j ∧ pieceOf_0 j ≤ 79) (hE_0_50_1 : ∀ j : Int, ends_0 j = ends_1 j) (hK_0_50 : ∀ j : Int, 0 ≤ j → j < 80 → 0 ≤ ends_0 j ∧ ends_0 j ≤ 33554431) (hE_0_51_1 : ∀ j : Int, 0 ≤ j → (j = x2 → faceNodes_0 j = x5) ∧ (j ≠ x2 → faceNodes_0 j = faceNodes_1 j)) (hK_0_51 : ∀ j : Int, 0 ≤ j → j < 120 → 0 ≤ faceNodes_0 j ∧ faceNodes_0 j ≤ 33554431) (kz_0_32 : 0 ≤ pm_0 ∧ pm_0 ≤ 80) (kz_0_39 : 0 ≤ faces_0 ∧ faces_0 ≤ 120) : FCB (faceMany_0) (x2) (x6) := by
  subst fe_0_32_1
  subst fe_0_39_1
  have e_hE_0_33_1 := funext hE_0_33_1; subst e_hE_0_33_1
  have e_hE_0_34_1 := funext hE_0_34_1; subst e_hE_0_34_1
  have e_hE_0_40_1 := funext hE_0_40_1; subst e_hE_0_40_1
  have e_hE_0_41_1 := funext hE_0_41_1; subst e_hE_0_41_1
  have e_hE_0_42_1 := funext hE_0_42_1; subst e_hE_0_42_1
  have e_hE_0_43_1 := funext hE_0_43_1; subst e_hE_0_43_1
  have e_hE_0_44_1 := funext hE_0_44_1; subst e_hE_0_44_1
  have e_hE_0_50_1 := funext hE_0_50_1; subst e_hE_0_50_1
  unfold FCB
  first
    | exact Or.inr (by omega)
    | exact Or.inl (by omega)
def o_Mo_bits_13 : or_T := (142, 7, [(0, (2, 0, 0, [165])), (2, (0, 0, 119, [])), (3, (0, 1, 120, [])), (4, (2, 0, 0, [194])), (5, (0, 0, 0, [])), (6, (0, 0, 0, []))], [(20, [1], [60, 1, 6, 109, 32, 33, 34, 43, 42, 44, 50]), (24, [0, 1], []), (100, [4, 2, 5], []), (9, [4, 1], [51]), (7, [2, 3], [2]), (9, [3, 1], [39]), (20, [1], [60, 1, 6, 109, 32, 33, 34, 43, 42, 44, 50]), (20, [1, 2], [60, 0, 3, 110, 40, 41, 51])], [], [], [(20, [1, 2], [60, 0, 3, 110, 40, 41, 51]), (20, [1, 2, 6], [60, 0, 2, 111, 41, 51]), (20, [2, 1], [30, -1, 1, 0, 0, -1, 1, 39]), (20, [1, 2, 6], [60, 0, 1, 112, 40])], [], [(2, 3, -4294967296, -1)])
theorem oo_Mo_bits_13 {kA : Nat → ClassId} : or_ok PRD kA GG o_Mo_bits_13 := by
  refine or_mk fun A ta ws vs hD hth hl => ?_
  intro t0 r0 t2 k2 t3 k3 t4 r4 t5 k5 t6 k6 d0 f0 f1 ta1 w1 le1 s1 f3 f4 f5 f6 f7
  replace f0 := shm_529 f0
  replace f1 := shm_5 f1
  have s1 : (∀ b j, w_el ws b j = if b = v_ad (n_v vs 4) ∧ j = (v_iv (n_v vs 2)).toNat then v_iv (n_v vs 5) else w_el w1 b j) ∧ ∀ b k, w_fd ws b k = w_fd w1 b k := s1.2
  replace f3 := shm_535 f3
  replace f4 := shm_6 f4
  replace f5 := shm_516 f5
  replace f6 := shm_529 f6
  replace f7 := shm_530 f7
  have q1 : n_v vs 1 = n_v vs 0 := f1.symm
  simp only [q1] at f0 f3 f5 f6 f7
  have ar_0_33_1 : w_ar w1 (n_v vs 0) 33 = w_ar ws (n_v vs 0) 33 := congrArg v_ad (s1.2 _ _).symm
  have cr_0_33 := fdq_117 hD hth r0
  have ar_0_34_1 : w_ar w1 (n_v vs 0) 34 = w_ar ws (n_v vs 0) 34 := congrArg v_ad (s1.2 _ _).symm
  have cr_0_34 := fdq_118 hD hth r0
  have ar_0_40_1 : w_ar w1 (n_v vs 0) 40 = w_ar ws (n_v vs 0) 40 := congrArg v_ad (s1.2 _ _).symm
  have cr_0_40 := fdq_133 hD hth r0
  have ar_0_41_1 : w_ar w1 (n_v vs 0) 41 = w_ar ws (n_v vs 0) 41 := congrArg v_ad (s1.2 _ _).symm
  have cr_0_41 := fdq_134 hD hth r0
  have ar_0_42_1 : w_ar w1 (n_v vs 0) 42 = w_ar ws (n_v vs 0) 42 := congrArg v_ad (s1.2 _ _).symm
  have cr_0_42 := fdq_136 hD hth r0
  have ar_0_43_1 : w_ar w1 (n_v vs 0) 43 = w_ar ws (n_v vs 0) 43 := congrArg v_ad (s1.2 _ _).symm
  have cr_0_43 := fdq_137 hD hth r0
  have ar_0_44_1 : w_ar w1 (n_v vs 0) 44 = w_ar ws (n_v vs 0) 44 := congrArg v_ad (s1.2 _ _).symm
  have cr_0_44 := fdq_138 hD hth r0
  have ar_0_50_1 : w_ar w1 (n_v vs 0) 50 = w_ar ws (n_v vs 0) 50 := congrArg v_ad (s1.2 _ _).symm
  have cr_0_50 := fdq_139 hD hth r0
  have ar_0_51_1 : w_ar w1 (n_v vs 0) 51 = w_ar ws (n_v vs 0) 51 := congrArg v_ad (s1.2 _ _).symm
  have cr_0_51 := fdq_141 hD hth r0
  have ad_4 : v_ad (n_v vs 4) = w_ar ws (n_v vs 0) 51 := (congrArg v_ad f3).trans ar_0_51_1
  have g5 : v_iv (n_v vs 3) = w_fi w1 (n_v vs 0) 39 := congrArg v_iv f5
  simp only [ar_0_33_1, ar_0_34_1, ar_0_42_1, ar_0_43_1, ar_0_44_1, ar_0_50_1, ar_0_40_1, ar_0_41_1, ar_0_51_1] at f6 f7
  have fe_0_32_1 : w_fi ws (n_v vs 0) 32 = w_fi w1 (n_v vs 0) 32 := congrArg v_iv (s1.2 _ _)
  have fe_0_39_1 : w_fi ws (n_v vs 0) 39 = w_fi w1 (n_v vs 0) 39 := congrArg v_iv (s1.2 _ _)
  have hE_0_33_1 : ∀ j : Int, w_ei ws (w_ar ws (n_v vs 0) 33) j = w_ei w1 (w_ar ws (n_v vs 0) 33) j := el_kp s1.1 r4 cr_0_33 (by decide)
  have hK_0_33 := elq_60 hD hth cr_0_33
  have hE_0_34_1 : ∀ j : Int, w_ei ws (w_ar ws (n_v vs 0) 34) j = w_ei w1 (w_ar ws (n_v vs 0) 34) j := el_kp s1.1 r4 cr_0_34 (by decide)
  have hK_0_34 := elq_61 hD hth cr_0_34
  have hE_0_40_1 : ∀ j : Int, w_ei ws (w_ar ws (n_v vs 0) 40) j = w_ei w1 (w_ar ws (n_v vs 0) 40) j := el_kp s1.1 r4 cr_0_40 (by decide)
  have hK_0_40 := elq_73 hD hth cr_0_40
  have hE_0_41_1 : ∀ j : Int, w_ei ws (w_ar ws (n_v vs 0) 41) j = w_ei w1 (w_ar ws (n_v vs 0) 41) j := el_kp s1.1 r4 cr_0_41 (by decide)
  have hK_0_41 := elq_74 hD hth cr_0_41
  have hE_0_42_1 : ∀ j : Int, w_ei ws (w_ar ws (n_v vs 0) 42) j = w_ei w1 (w_ar ws (n_v vs 0) 42) j := el_kp s1.1 r4 cr_0_42 (by decide)
  have hK_0_42 := elq_75 hD hth cr_0_42
  have hE_0_43_1 : ∀ j : Int, w_ei ws (w_ar ws (n_v vs 0) 43) j = w_ei w1 (w_ar ws (n_v vs 0) 43) j := el_kp s1.1 r4 cr_0_43 (by decide)
  have hK_0_43 := elq_76 hD hth cr_0_43
  have hE_0_44_1 : ∀ j : Int, w_ei ws (w_ar ws (n_v vs 0) 44) j = w_ei w1 (w_ar ws (n_v vs 0) 44) j := el_kp s1.1 r4 cr_0_44 (by decide)
  have hK_0_44 := elq_77 hD hth cr_0_44
  have hE_0_50_1 : ∀ j : Int, w_ei ws (w_ar ws (n_v vs 0) 50) j = w_ei w1 (w_ar ws (n_v vs 0) 50) j := el_kp s1.1 r4 cr_0_50 (by decide)
  have hK_0_50 := elq_78 hD hth cr_0_50
  have hE_0_51_1 : ∀ j : Int, 0 ≤ j → (j = v_iv (n_v vs 2) → w_ei ws (w_ar ws (n_v vs 0) 51) j = v_iv (n_v vs 5)) ∧ (j ≠ v_iv (n_v vs 2) → w_ei ws (w_ar ws (n_v vs 0) 51) j = w_ei w1 (w_ar ws (n_v vs 0) 51) j) := fun j hj => ⟨fun h => by unfold w_ei; rw [s1.1, if_pos ⟨ad_4.symm, by rw [h]⟩], fun h => by unfold w_ei; rw [s1.1, if_neg (fun e => h (by have := e.2; omega))]⟩
  have hK_0_51 := elq_79 hD hth cr_0_51
  have kz_0_32 := fdq_140 hD hth r0
  have kz_0_39 := fdq_135 hD hth r0
  have nf0 : fc_1 PRD (20, [1, 2], [60, 0, 3, 110, 40, 41, 51]) ws (vs) := by
    refine ⟨nf_in hl rfl, sgq_530 ?_⟩
    · show FCN (w_ei ws (w_ar ws (n_v vs 1) 40)) (w_ei ws (w_ar ws (n_v vs 1) 41)) (w_ei ws (w_ar ws (n_v vs 1) 51)) (v_iv (n_v vs 2))
      rw [q1]
      exact vc_Mo_bits_13_0 (v_iv (n_v vs 2)) (v_iv (n_v vs 3)) (v_iv (n_v vs 5)) (v_iv (n_v vs 6)) (w_ei ws (w_ar ws (n_v vs 0) 33)) (w_ei ws (w_ar ws (n_v vs 0) 34)) (w_ei ws (w_ar ws (n_v vs 0) 43)) (w_ei ws (w_ar ws (n_v vs 0) 42)) (w_ei ws (w_ar ws (n_v vs 0) 44)) (w_ei ws (w_ar ws (n_v vs 0) 50)) (w_fi ws (n_v vs 0) 32) (w_fi w1 (n_v vs 0) 39) (w_ei w1 (w_ar ws (n_v vs 0) 33)) (w_ei w1 (w_ar ws (n_v vs 0) 34)) (w_ei w1 (w_ar ws (n_v vs 0) 43)) (w_ei w1 (w_ar ws (n_v vs 0) 42)) (w_ei w1 (w_ar ws (n_v vs 0) 44)) (w_ei w1 (w_ar ws (n_v vs 0) 50)) (w_fi w1 (n_v vs 0) 32) (w_ei w1 (w_ar ws (n_v vs 0) 40)) (w_ei w1 (w_ar ws (n_v vs 0) 41)) (w_ei w1 (w_ar ws (n_v vs 0) 51)) (w_fi ws (n_v vs 0) 39) (w_ei ws (w_ar ws (n_v vs 0) 40)) (w_ei ws (w_ar ws (n_v vs 0) 41)) (w_ei ws (w_ar ws (n_v vs 0) 51)) k2 k3 k5 k6 d0 f0 f4 g5 f6 f7 fe_0_32_1 fe_0_39_1 hE_0_33_1 hK_0_33 hE_0_34_1 hK_0_34 hE_0_40_1 hK_0_40 hE_0_41_1 hK_0_41 hE_0_42_1 hK_0_42 hE_0_43_1 hK_0_43 hE_0_44_1 hK_0_44 hE_0_50_1 hK_0_50 hE_0_51_1 hK_0_51 kz_0_32 kz_0_39
  have nf1 : fc_1 PRD (20, [1, 2, 6], [60, 0, 2, 111, 41, 51]) ws (vs) := by
    refine ⟨nf_in hl rfl, sgq_536 ?_⟩
    · show FCK (w_ei ws (w_ar ws (n_v vs 1) 41)) (w_ei ws (w_ar ws (n_v vs 1) 51)) (v_iv (n_v vs 2)) (v_iv (n_v vs 6))
      rw [q1]
      exact vc_Mo_bits_13_1 (v_iv (n_v vs 2)) (v_iv (n_v vs 3)) (v_iv (n_v vs 5)) (v_iv (n_v vs 6)) (w_ei ws (w_ar ws (n_v vs 0) 33)) (w_ei ws (w_ar ws (n_v vs 0) 34)) (w_ei ws (w_ar ws (n_v vs 0) 43)) (w_ei ws (w_ar ws (n_v vs 0) 42)) (w_ei ws (w_ar ws (n_v vs 0) 44)) (w_ei ws (w_ar ws (n_v vs 0) 50)) (w_fi ws (n_v vs 0) 32) (w_fi w1 (n_v vs 0) 39) (w_ei w1 (w_ar ws (n_v vs 0) 33)) (w_ei w1 (w_ar ws (n_v vs 0) 34)) (w_ei w1 (w_ar ws (n_v vs 0) 43)) (w_ei w1 (w_ar ws (n_v vs 0) 42)) (w_ei w1 (w_ar ws (n_v vs 0) 44)) (w_ei w1 (w_ar ws (n_v vs 0) 50)) (w_fi w1 (n_v vs 0) 32) (w_ei w1 (w_ar ws (n_v vs 0) 40)) (w_ei w1 (w_ar ws (n_v vs 0) 41)) (w_ei w1 (w_ar ws (n_v vs 0) 51)) (w_fi ws (n_v vs 0) 39) (w_ei ws (w_ar ws (n_v vs 0) 40)) (w_ei ws (w_ar ws (n_v vs 0) 41)) (w_ei ws (w_ar ws (n_v vs 0) 51)) k2 k3 k5 k6 d0 f0 f4 g5 f6 f7 fe_0_32_1 fe_0_39_1 hE_0_33_1 hK_0_33 hE_0_34_1 hK_0_34 hE_0_40_1 hK_0_40 hE_0_41_1 hK_0_41 hE_0_42_1 hK_0_42 hE_0_43_1 hK_0_43 hE_0_44_1 hK_0_44 hE_0_50_1 hK_0_50 hE_0_51_1 hK_0_51 kz_0_32 kz_0_39
  have nf2 : fc_1 PRD (20, [2, 1], [30, -1, 1, 0, 0, -1, 1, 39]) ws (vs) := by
    refine ⟨nf_in hl rfl, sgq_520 ?_⟩
    · show 1 * v_iv (n_v vs 2) + ((-1) * w_fi ws (n_v vs 1) 39 + 0) ≤ (-1)
      rw [q1]
      exact vc_Mo_bits_13_2 (v_iv (n_v vs 2)) (v_iv (n_v vs 3)) (v_iv (n_v vs 5)) (v_iv (n_v vs 6)) (w_ei ws (w_ar ws (n_v vs 0) 33)) (w_ei ws (w_ar ws (n_v vs 0) 34)) (w_ei ws (w_ar ws (n_v vs 0) 43)) (w_ei ws (w_ar ws (n_v vs 0) 42)) (w_ei ws (w_ar ws (n_v vs 0) 44)) (w_ei ws (w_ar ws (n_v vs 0) 50)) (w_fi ws (n_v vs 0) 32) (w_fi w1 (n_v vs 0) 39) (w_ei w1 (w_ar ws (n_v vs 0) 33)) (w_ei w1 (w_ar ws (n_v vs 0) 34)) (w_ei w1 (w_ar ws (n_v vs 0) 43)) (w_ei w1 (w_ar ws (n_v vs 0) 42)) (w_ei w1 (w_ar ws (n_v vs 0) 44)) (w_ei w1 (w_ar ws (n_v vs 0) 50)) (w_fi w1 (n_v vs 0) 32) (w_ei w1 (w_ar ws (n_v vs 0) 40)) (w_ei w1 (w_ar ws (n_v vs 0) 41)) (w_ei w1 (w_ar ws (n_v vs 0) 51)) (w_fi ws (n_v vs 0) 39) (w_ei ws (w_ar ws (n_v vs 0) 40)) (w_ei ws (w_ar ws (n_v vs 0) 41)) (w_ei ws (w_ar ws (n_v vs 0) 51)) k2 k3 k5 k6 d0 f0 f4 g5 f6 f7 fe_0_32_1 fe_0_39_1 hE_0_33_1 hK_0_33 hE_0_34_1 hK_0_34 hE_0_40_1 hK_0_40 hE_0_41_1 hK_0_41 hE_0_42_1 hK_0_42 hE_0_43_1 hK_0_43 hE_0_44_1 hK_0_44 hE_0_50_1 hK_0_50 hE_0_51_1 hK_0_51 kz_0_32 kz_0_39
  have nf3 : fc_1 PRD (20, [1, 2, 6], [60, 0, 1, 112, 40]) ws (vs) := by
    refine ⟨nf_in hl rfl, sgq_537 ?_⟩
    · show FCB (w_ei ws (w_ar ws (n_v vs 1) 40)) (v_iv (n_v vs 2)) (v_iv (n_v vs 6))
      rw [q1]
      exact vc_Mo_bits_13_3 (v_iv (n_v vs 2)) (v_iv (n_v vs 3)) (v_iv (n_v vs 5)) (v_iv (n_v vs 6)) (w_ei ws (w_ar ws (n_v vs 0) 33)) (w_ei ws (w_ar ws (n_v vs 0) 34)) (w_ei ws (w_ar ws (n_v vs 0) 43)) (w_ei ws (w_ar ws (n_v vs 0) 42)) (w_ei ws (w_ar ws (n_v vs 0) 44)) (w_ei ws (w_ar ws (n_v vs 0) 50)) (w_fi ws (n_v vs 0) 32) (w_fi w1 (n_v vs 0) 39) (w_ei w1 (w_ar ws (n_v vs 0) 33)) (w_ei w1 (w_ar ws (n_v vs 0) 34)) (w_ei w1 (w_ar ws (n_v vs 0) 43)) (w_ei w1 (w_ar ws (n_v vs 0) 42)) (w_ei w1 (w_ar ws (n_v vs 0) 44)) (w_ei w1 (w_ar ws (n_v vs 0) 50)) (w_fi w1 (n_v vs 0) 32) (w_ei w1 (w_ar ws (n_v vs 0) 40)) (w_ei w1 (w_ar ws (n_v vs 0) 41)) (w_ei w1 (w_ar ws (n_v vs 0) 51)) (w_fi ws (n_v vs 0) 39) (w_ei ws (w_ar ws (n_v vs 0) 40)) (w_ei ws (w_ar ws (n_v vs 0) 41)) (w_ei ws (w_ar ws (n_v vs 0) 51)) k2 k3 k5 k6 d0 f0 f4 g5 f6 f7 fe_0_32_1 fe_0_39_1 hE_0_33_1 hK_0_33 hE_0_34_1 hK_0_34 hE_0_40_1 hK_0_40 hE_0_41_1 hK_0_41 hE_0_42_1 hK_0_42 hE_0_43_1 hK_0_43 hE_0_44_1 hK_0_44 hE_0_50_1 hK_0_50 hE_0_51_1 hK_0_51 kz_0_32 kz_0_39
  refine ⟨(fun _ h => (by cases h)), [], trivial, ?_, (fun _ h => (by cases h))⟩
  rw [List.append_nil]
  exact List.forall_mem_cons.mpr ⟨⟨show (20 : Nat) < 100 from by decide, nf0⟩, List.forall_mem_cons.mpr ⟨⟨show (20 : Nat) < 100 from by decide, nf1⟩, List.forall_mem_cons.mpr ⟨⟨show (20 : Nat) < 100 from by decide, nf2⟩, List.forall_mem_cons.mpr ⟨⟨show (20 : Nat) < 100 from by decide, nf3⟩, (fun _ h => (by cases h))⟩⟩⟩⟩
set_option maxHeartbeats 4000000 in
theorem vc_Mo_bits_14_0 (x2 : Int) (x3 : Int) (x5 : Int) (x6 : Int) (faceMany_0 : Int → Int) (pt_0 : Int → Int) (ph_0 : Int → Int) (drawnEdge_0 : Int → Int) (drawnNode_0 : Int → Int) (pieceOf_0 : Int → Int) (ends_0 : Int → Int) (pm_0 : Int) (face_0 : Int → Int) (faceNodes_0 : Int → Int) (faces_0 : Int) (k2 : 0 ≤ x2 ∧ x2 ≤ 119) (k3 : 0 ≤ x3 ∧ x3 ≤ 60) (k5 : 0 ≤ x5 ∧ x5 ≤ 60) (k6 : 1 ≤ x6 ∧ x6 ≤ 120) (d0 : x2 + 1 ≤ x6 ∧ x6 ≤ x2 + 1) (d1 : x5 + 0 ≤ x3 ∧ x3 ≤ x5 + 4294967296) (f0 : x6 = x2 + 1) (f1 : x5 ≤ x3) (h2 : x5 = faceMany_0 (x2)) (f4 : END (pm_0) (pt_0) (ph_0) (drawnEdge_0) (drawnNode_0) (pieceOf_0) (ends_0)) (f5 : FCN (faceMany_0) (face_0) (faceNodes_0) (x2)) (f6 : FCK (face_0) (faceNodes_0) (x2) (x3)) (f7 : 1 * x2 + ((-1) * faces_0 + 0) ≤ (-1)) (f8 : FCB (faceMany_0) (x2) (x3)) (hK_0_33 : ∀ j : Int, 0 ≤ j → j < 80 → 0 ≤ pt_0 j ∧ pt_0 j ≤ 24) (hK_0_34 : ∀ j : Int, 0 ≤ j → j < 80 → 0 ≤ ph_0 j ∧ ph_0 j ≤ 24) (hK_0_40 : ∀ j : Int, 0 ≤ j → j < 120 → 0 ≤ faceMany_0 j ∧ faceMany_0 j ≤ 60) (hK_0_41 : ∀ j : Int, 0 ≤ j → j < 7200 → 0 ≤ face_0 j ∧ face_0 j ≤ 24) (hK_0_42 : ∀ j : Int, 0 ≤ j → j < 26 → 0 ≤ drawnNode_0 j ∧ drawnNode_0 j ≤ 1) (hK_0_43 : ∀ j : Int, 0 ≤ j → j < 80 → 0 ≤ drawnEdge_0 j ∧ drawnEdge_0 j ≤ 1) (hK_0_44 : ∀ j : Int, 0 ≤ j → j < 80 → (-1) ≤ pieceOf_0 j ∧ pieceOf_0 j ≤ 79) (hK_0_50 : ∀ j : Int, 0 ≤ j → j < 80 → 0 ≤ ends_0 j ∧ ends_0 j ≤ 33554431) (hK_0_51 : ∀ j : Int, 0 ≤ j → j < 120 → 0 ≤ faceNodes_0 j ∧ faceNodes_0 j ≤ 33554431) (kz_0_32 : 0 ≤ pm_0 ∧ pm_0 ≤ 80) (kz_0_39 : 0 ≤ faces_0 ∧ faces_0 ≤ 120) : FCN (faceMany_0) (face_0) (faceNodes_0) (x6) := by
  first
    | (intro g i a b; exfalso; omega)
    | (have h := ‹FCN _ _ _ _›
       have k := ‹FCK _ _ _ _›
       have kb := ‹FCB _ _ _›
       intro g i a b c d
       by_cases q : g = x2
       · rw [q, k i c d]
         unfold FCB at kb
         exact ⟨fun ⟨j, j0, j1, j2⟩ => ⟨j, j0, by omega, j2⟩, fun ⟨j, j0, j1, j2⟩ => ⟨j, j0, by omega, j2⟩⟩
       · exact h g i a (by omega) c d)
def o_Mo_bits_14 : or_T := (125, 7, [(0, (2, 0, 0, [165])), (2, (0, 0, 119, [])), (3, (0, 0, 60, [])), (5, (0, 0, 60, [])), (6, (0, 1, 120, []))], [(6, [6, 2], [1]), (7, [3, 5], [3]), (10, [5, 4, 2], []), (9, [4, 1], [40]), (20, [1], [60, 1, 6, 109, 32, 33, 34, 43, 42, 44, 50]), (20, [1, 2], [60, 0, 3, 110, 40, 41, 51]), (20, [1, 2, 3], [60, 0, 2, 111, 41, 51]), (20, [2, 1], [30, -1, 1, 0, 0, -1, 1, 39]), (20, [1, 2, 3], [60, 0, 1, 112, 40]), (24, [0, 1], [])], [], [], [(20, [1, 6], [60, 0, 3, 110, 40, 41, 51])], [], [(6, 2, 1, 1), (3, 5, 0, 4294967296)])
theorem oo_Mo_bits_14 {kA : Nat → ClassId} : or_ok PRD kA GG o_Mo_bits_14 := by
  refine or_mk fun A ta ws vs hD hth hl => ?_
  intro t0 r0 t2 k2 t3 k3 t5 k5 t6 k6 d0 d1 f0 f1 f2 f3 f4 f5 f6 f7 f8 f9
  replace f0 := shm_4 f0
  replace f1 := shm_2 f1
  replace f2 := shm_107 f2
  replace f3 := shm_518 f3
  replace f4 := shm_529 f4
  replace f5 := shm_530 f5
  replace f6 := shm_536 f6
  replace f7 := shm_520 f7
  replace f8 := shm_537 f8
  replace f9 := shm_5 f9
  have q1 : n_v vs 1 = n_v vs 0 := f9.symm
  simp only [q1] at f3 f4 f5 f6 f7 f8
  have cr_0_33 := fdq_117 hD hth r0
  have cr_0_34 := fdq_118 hD hth r0
  have cr_0_40 := fdq_133 hD hth r0
  have cr_0_41 := fdq_134 hD hth r0
  have cr_0_42 := fdq_136 hD hth r0
  have cr_0_43 := fdq_137 hD hth r0
  have cr_0_44 := fdq_138 hD hth r0
  have cr_0_50 := fdq_139 hD hth r0
  have cr_0_51 := fdq_141 hD hth r0
  have ad_4 : v_ad (n_v vs 4) = w_ar ws (n_v vs 0) 40 := congrArg v_ad f3
  simp only [ad_4] at f2
  have h2 : v_iv (n_v vs 5) = w_ei ws (w_ar ws (n_v vs 0) 40) (v_iv (n_v vs 2)) := f2
  have hK_0_33 := elq_60 hD hth cr_0_33
  have hK_0_34 := elq_61 hD hth cr_0_34
  have hK_0_40 := elq_73 hD hth cr_0_40
  have hK_0_41 := elq_74 hD hth cr_0_41
  have hK_0_42 := elq_75 hD hth cr_0_42
  have hK_0_43 := elq_76 hD hth cr_0_43
  have hK_0_44 := elq_77 hD hth cr_0_44
  have hK_0_50 := elq_78 hD hth cr_0_50
  have hK_0_51 := elq_79 hD hth cr_0_51
  have kz_0_32 := fdq_140 hD hth r0
  have kz_0_39 := fdq_135 hD hth r0
  have nf0 : fc_1 PRD (20, [1, 6], [60, 0, 3, 110, 40, 41, 51]) ws (vs) := by
    refine ⟨nf_in hl rfl, sgq_530 ?_⟩
    · show FCN (w_ei ws (w_ar ws (n_v vs 1) 40)) (w_ei ws (w_ar ws (n_v vs 1) 41)) (w_ei ws (w_ar ws (n_v vs 1) 51)) (v_iv (n_v vs 6))
      rw [q1]
      exact vc_Mo_bits_14_0 (v_iv (n_v vs 2)) (v_iv (n_v vs 3)) (v_iv (n_v vs 5)) (v_iv (n_v vs 6)) (w_ei ws (w_ar ws (n_v vs 0) 40)) (w_ei ws (w_ar ws (n_v vs 0) 33)) (w_ei ws (w_ar ws (n_v vs 0) 34)) (w_ei ws (w_ar ws (n_v vs 0) 43)) (w_ei ws (w_ar ws (n_v vs 0) 42)) (w_ei ws (w_ar ws (n_v vs 0) 44)) (w_ei ws (w_ar ws (n_v vs 0) 50)) (w_fi ws (n_v vs 0) 32) (w_ei ws (w_ar ws (n_v vs 0) 41)) (w_ei ws (w_ar ws (n_v vs 0) 51)) (w_fi ws (n_v vs 0) 39) k2 k3 k5 k6 d0 d1 f0 f1 h2 f4 f5 f6 f7 f8 hK_0_33 hK_0_34 hK_0_40 hK_0_41 hK_0_42 hK_0_43 hK_0_44 hK_0_50 hK_0_51 kz_0_32 kz_0_39
  refine ⟨(fun _ h => (by cases h)), [], trivial, ?_, (fun _ h => (by cases h))⟩
  rw [List.append_nil]
  exact List.forall_mem_cons.mpr ⟨⟨show (20 : Nat) < 100 from by decide, nf0⟩, (fun _ h => (by cases h))⟩
set_option maxHeartbeats 4000000 in
theorem vc_Mo_bits_15_0 (x2 : Int) (x3 : Int) (x5 : Int) (x7 : Int) (x8 : Int) (x10 : Int) (x11 : Int) (x12 : Int) (x13 : Int) (x14 : Int) (x15 : Int) (x16 : Int) (pt_0 : Int → Int) (ph_0 : Int → Int) (drawnEdge_0 : Int → Int) (drawnNode_0 : Int → Int) (pieceOf_0 : Int → Int) (ends_0 : Int → Int) (pm_0 : Int) (faces_0 : Int) (faceMany_0 : Int → Int) (face_1 : Int → Int) (faceNodes_1 : Int → Int) (faceMany_1 : Int → Int) (pt_1 : Int → Int) (ph_1 : Int → Int) (drawnEdge_1 : Int → Int) (drawnNode_1 : Int → Int) (pieceOf_1 : Int → Int) (ends_1 : Int → Int) (pm_1 : Int) (faces_1 : Int) (face_0 : Int → Int) (faceNodes_0 : Int → Int) (k2 : 0 ≤ x2 ∧ x2 ≤ 119) (k3 : 0 ≤ x3 ∧ x3 ≤ 59) (k5 : 1 ≤ x5 ∧ x5 ≤ 60) (k7 : 0 ≤ x7 ∧ x7 ≤ 33554431) (k8 : 1 ≤ x8 ∧ x8 ≤ 1) (k10 : 60 ≤ x10 ∧ x10 ≤ 60) (k11 : 0 ≤ x11 ∧ x11 ≤ 7140) (k12 : 0 ≤ x12 ∧ x12 ≤ 7199) (k13 : 0 ≤ x13 ∧ x13 ≤ 24) (k14 : 1 ≤ x14 ∧ x14 ≤ 16777216) (k15 : 0 ≤ x15 ∧ x15 ≤ 33554431) (k16 : 1 ≤ x16 ∧ x16 ≤ 60) (d0 : x3 + 1 ≤ x16 ∧ x16 ≤ x3 + 1) (d1 : x5 + (-4294967296) ≤ x16 ∧ x16 ≤ x5 + 0) (d2 : x3 + 0 ≤ x12 ∧ x12 ≤ x3 + 7140) (d3 : x5 + (-4294967296) ≤ x12 ∧ x12 ≤ x5 + 7139) (d4 : x11 + 0 ≤ x12 ∧ x12 ≤ x11 + 59) (d5 : x5 + (-4294967296) ≤ x3 ∧ x3 ≤ x5 + (-1)) (f0 : x16 = x3 + 1) (f1 : END (pm_0) (pt_0) (ph_0) (drawnEdge_0) (drawnNode_0) (pieceOf_0) (ends_0)) (f2 : 1 * x2 + ((-1) * faces_0 + 0) ≤ (-1)) (f3 : FCB (faceMany_0) (x2) (x3)) (f6 : x15 ≤ x7 + x14 ∧ x7 ≤ x15 ∧ x14 ≤ x15) (f7 : bvp (x15) = bvp (x7) ||| bvp (x14)) (f8 : bvp (x14) = bvp (x8) <<< (x13).toNat) (h9 : x13 = face_1 (x12)) (f10 : x12 = x11 + x3) (f11 : x11 = 60 * x2) (h13 : x7 = faceNodes_1 (x2)) (f15 : x3 < x5) (h16 : x5 = faceMany_1 (x2)) (f18 : END (pm_1) (pt_1) (ph_1) (drawnEdge_1) (drawnNode_1) (pieceOf_1) (ends_1)) (f19 : FCN (faceMany_1) (face_1) (faceNodes_1) (x2)) (f20 : FCK (face_1) (faceNodes_1) (x2) (x3)) (f21 : 1 * x2 + ((-1) * faces_1 + 0) ≤ (-1)) (f22 : FCB (faceMany_1) (x2) (x3)) (fe_0_32_1 : pm_0 = pm_1) (fe_0_39_1 : faces_0 = faces_1) (hE_0_33_1 : ∀ j : Int, pt_0 j = pt_1 j) (hK_0_33 : ∀ j : Int, 0 ≤ j → j < 80 → 0 ≤ pt_0 j ∧ pt_0 j ≤ 24) (hE_0_34_1 : ∀ j : Int, ph_0 j = ph_1 j) (hK_0_34 : ∀ j : Int, 0 ≤ j → j < 80 → 0 ≤ ph_0 j ∧ ph_0 j ≤ 24) (hE_0_40_1 : ∀ j : Int, faceMany_0 j = faceMany_1 j) (hK_0_40 : ∀ j : Int, 0 ≤ j → j < 120 → 0 ≤ faceMany_0 j ∧ faceMany_0 j ≤ 60) (hE_0_41_1 : ∀ j : Int, face_0 j = face_1 j) (hK_0_41 : ∀ j : Int, 0 ≤ j → j < 7200 → 0 ≤ face_0 j ∧ face_0 j ≤ 24) (hE_0_42_1 : ∀ j : Int, drawnNode_0 j = drawnNode_1 j) (hK_0_42 : ∀ j : Int, 0 ≤ j → j < 26 → 0 ≤ drawnNode_0 j ∧ drawnNode_0 j ≤ 1) (hE_0_43_1 : ∀ j : Int, drawnEdge_0 j = drawnEdge_1 j) (hK_0_43 : ∀ j : Int, 0 ≤ j → j < 80 → 0 ≤ drawnEdge_0 j ∧ drawnEdge_0 j ≤ 1) (hE_0_44_1 : ∀ j : Int, pieceOf_0 j = pieceOf_1 j) (hK_0_44 : ∀ j : Int, 0 ≤ j → j < 80 → (-1) ≤ pieceOf_0 j ∧ pieceOf_0 j ≤ 79) (hE_0_50_1 : ∀ j : Int, ends_0 j = ends_1 j) (hK_0_50 : ∀ j : Int, 0 ≤ j → j < 80 → 0 ≤ ends_0 j ∧ ends_0 j ≤ 33554431) (hE_0_51_1 : ∀ j : Int, 0 ≤ j → (j = x2 → faceNodes_0 j = x15) ∧ (j ≠ x2 → faceNodes_0 j = faceNodes_1 j)) (hK_0_51 : ∀ j : Int, 0 ≤ j → j < 120 → 0 ≤ faceNodes_0 j ∧ faceNodes_0 j ≤ 33554431) (kz_0_32 : 0 ≤ pm_0 ∧ pm_0 ≤ 80) (kz_0_39 : 0 ≤ faces_0 ∧ faces_0 ≤ 120) : FCN (faceMany_0) (face_0) (faceNodes_0) (x2) := by
  subst fe_0_32_1
  subst fe_0_39_1
  have e_hE_0_33_1 := funext hE_0_33_1; subst e_hE_0_33_1
  have e_hE_0_34_1 := funext hE_0_34_1; subst e_hE_0_34_1
  have e_hE_0_40_1 := funext hE_0_40_1; subst e_hE_0_40_1
  have e_hE_0_41_1 := funext hE_0_41_1; subst e_hE_0_41_1
  have e_hE_0_42_1 := funext hE_0_42_1; subst e_hE_0_42_1
  have e_hE_0_43_1 := funext hE_0_43_1; subst e_hE_0_43_1
  have e_hE_0_44_1 := funext hE_0_44_1; subst e_hE_0_44_1
  have e_hE_0_50_1 := funext hE_0_50_1; subst e_hE_0_50_1
  first
    | assumption
    | (have h := ‹FCN _ _ _ _›
       intro g i a b c d
       rw [(hE_0_51_1 g a).2 (by omega)]
       exact h g i a b c d)
set_option maxHeartbeats 4000000 in
theorem vc_Mo_bits_15_1 (x2 : Int) (x3 : Int) (x5 : Int) (x7 : Int) (x8 : Int) (x10 : Int) (x11 : Int) (x12 : Int) (x13 : Int) (x14 : Int) (x15 : Int) (x16 : Int) (pt_0 : Int → Int) (ph_0 : Int → Int) (drawnEdge_0 : Int → Int) (drawnNode_0 : Int → Int) (pieceOf_0 : Int → Int) (ends_0 : Int → Int) (pm_0 : Int) (faces_0 : Int) (faceMany_0 : Int → Int) (face_1 : Int → Int) (faceNodes_1 : Int → Int) (faceMany_1 : Int → Int) (pt_1 : Int → Int) (ph_1 : Int → Int) (drawnEdge_1 : Int → Int) (drawnNode_1 : Int → Int) (pieceOf_1 : Int → Int) (ends_1 : Int → Int) (pm_1 : Int) (faces_1 : Int) (face_0 : Int → Int) (faceNodes_0 : Int → Int) (k2 : 0 ≤ x2 ∧ x2 ≤ 119) (k3 : 0 ≤ x3 ∧ x3 ≤ 59) (k5 : 1 ≤ x5 ∧ x5 ≤ 60) (k7 : 0 ≤ x7 ∧ x7 ≤ 33554431) (k8 : 1 ≤ x8 ∧ x8 ≤ 1) (k10 : 60 ≤ x10 ∧ x10 ≤ 60) (k11 : 0 ≤ x11 ∧ x11 ≤ 7140) (k12 : 0 ≤ x12 ∧ x12 ≤ 7199) (k13 : 0 ≤ x13 ∧ x13 ≤ 24) (k14 : 1 ≤ x14 ∧ x14 ≤ 16777216) (k15 : 0 ≤ x15 ∧ x15 ≤ 33554431) (k16 : 1 ≤ x16 ∧ x16 ≤ 60) (d0 : x3 + 1 ≤ x16 ∧ x16 ≤ x3 + 1) (d1 : x5 + (-4294967296) ≤ x16 ∧ x16 ≤ x5 + 0) (d2 : x3 + 0 ≤ x12 ∧ x12 ≤ x3 + 7140) (d3 : x5 + (-4294967296) ≤ x12 ∧ x12 ≤ x5 + 7139) (d4 : x11 + 0 ≤ x12 ∧ x12 ≤ x11 + 59) (d5 : x5 + (-4294967296) ≤ x3 ∧ x3 ≤ x5 + (-1)) (f0 : x16 = x3 + 1) (f1 : END (pm_0) (pt_0) (ph_0) (drawnEdge_0) (drawnNode_0) (pieceOf_0) (ends_0)) (f2 : 1 * x2 + ((-1) * faces_0 + 0) ≤ (-1)) (f3 : FCB (faceMany_0) (x2) (x3)) (f6 : x15 ≤ x7 + x14 ∧ x7 ≤ x15 ∧ x14 ≤ x15) (f7 : bvp (x15) = bvp (x7) ||| bvp (x14)) (f8 : bvp (x14) = bvp (x8) <<< (x13).toNat) (h9 : x13 = face_1 (x12)) (f10 : x12 = x11 + x3) (f11 : x11 = 60 * x2) (h13 : x7 = faceNodes_1 (x2)) (f15 : x3 < x5) (h16 : x5 = faceMany_1 (x2)) (f18 : END (pm_1) (pt_1) (ph_1) (drawnEdge_1) (drawnNode_1) (pieceOf_1) (ends_1)) (f19 : FCN (faceMany_1) (face_1) (faceNodes_1) (x2)) (f20 : FCK (face_1) (faceNodes_1) (x2) (x3)) (f21 : 1 * x2 + ((-1) * faces_1 + 0) ≤ (-1)) (f22 : FCB (faceMany_1) (x2) (x3)) (fe_0_32_1 : pm_0 = pm_1) (fe_0_39_1 : faces_0 = faces_1) (hE_0_33_1 : ∀ j : Int, pt_0 j = pt_1 j) (hK_0_33 : ∀ j : Int, 0 ≤ j → j < 80 → 0 ≤ pt_0 j ∧ pt_0 j ≤ 24) (hE_0_34_1 : ∀ j : Int, ph_0 j = ph_1 j) (hK_0_34 : ∀ j : Int, 0 ≤ j → j < 80 → 0 ≤ ph_0 j ∧ ph_0 j ≤ 24) (hE_0_40_1 : ∀ j : Int, faceMany_0 j = faceMany_1 j) (hK_0_40 : ∀ j : Int, 0 ≤ j → j < 120 → 0 ≤ faceMany_0 j ∧ faceMany_0 j ≤ 60) (hE_0_41_1 : ∀ j : Int, face_0 j = face_1 j) (hK_0_41 : ∀ j : Int, 0 ≤ j → j < 7200 → 0 ≤ face_0 j ∧ face_0 j ≤ 24) (hE_0_42_1 : ∀ j : Int, drawnNode_0 j = drawnNode_1 j) (hK_0_42 : ∀ j : Int, 0 ≤ j → j < 26 → 0 ≤ drawnNode_0 j ∧ drawnNode_0 j ≤ 1) (hE_0_43_1 : ∀ j : Int, drawnEdge_0 j = drawnEdge_1 j) (hK_0_43 : ∀ j : Int, 0 ≤ j → j < 80 → 0 ≤ drawnEdge_0 j ∧ drawnEdge_0 j ≤ 1) (hE_0_44_1 : ∀ j : Int, pieceOf_0 j = pieceOf_1 j) (hK_0_44 : ∀ j : Int, 0 ≤ j → j < 80 → (-1) ≤ pieceOf_0 j ∧ pieceOf_0 j ≤ 79) (hE_0_50_1 : ∀ j : Int, ends_0 j = ends_1 j) (hK_0_50 : ∀ j : Int, 0 ≤ j → j < 80 → 0 ≤ ends_0 j ∧ ends_0 j ≤ 33554431) (hE_0_51_1 : ∀ j : Int, 0 ≤ j → (j = x2 → faceNodes_0 j = x15) ∧ (j ≠ x2 → faceNodes_0 j = faceNodes_1 j)) (hK_0_51 : ∀ j : Int, 0 ≤ j → j < 120 → 0 ≤ faceNodes_0 j ∧ faceNodes_0 j ≤ 33554431) (kz_0_32 : 0 ≤ pm_0 ∧ pm_0 ≤ 80) (kz_0_39 : 0 ≤ faces_0 ∧ faces_0 ≤ 120) : FCK (face_0) (faceNodes_0) (x2) (x16) := by
  subst fe_0_32_1
  subst fe_0_39_1
  have e_hE_0_33_1 := funext hE_0_33_1; subst e_hE_0_33_1
  have e_hE_0_34_1 := funext hE_0_34_1; subst e_hE_0_34_1
  have e_hE_0_40_1 := funext hE_0_40_1; subst e_hE_0_40_1
  have e_hE_0_41_1 := funext hE_0_41_1; subst e_hE_0_41_1
  have e_hE_0_42_1 := funext hE_0_42_1; subst e_hE_0_42_1
  have e_hE_0_43_1 := funext hE_0_43_1; subst e_hE_0_43_1
  have e_hE_0_44_1 := funext hE_0_44_1; subst e_hE_0_44_1
  have e_hE_0_50_1 := funext hE_0_50_1; subst e_hE_0_50_1
  first
    | (intro i a b
       rw [(hE_0_51_1 x2 (by omega)).1 rfl, show x5 = 0 by omega]
       exact ⟨fun z => absurd z (bit_zero i), fun ⟨j, j0, j1, _⟩ => by exfalso; omega⟩)
    | (have e11 : x11 = 60 * x2 := by omega
       have o1 := bit_or (n := x15) (a := x7) (b := x14) (by assumption)
       have s1 := fun i (h0 : 0 ≤ i) (h1 : i < 32) => bit_shl (n := x14) (a := x8) (b := x13) (i := i) (by assumption) (by omega) (by omega) h0 h1
       rw [show x16 = x3 + 1 by omega]
       refine fck_step ‹FCK _ _ _ _› (by omega) (fun i a b => ?_)
       rw [(hE_0_51_1 x2 (by omega)).1 rfl, o1 i, s1 i a b, show 60 * x2 + x3 = x12 by omega, ← ‹x7 = faceNodes_1 x2›, ← ‹x13 = face_0 x12›])
set_option maxHeartbeats 4000000 in
theorem vc_Mo_bits_15_2 (x2 : Int) (x3 : Int) (x5 : Int) (x7 : Int) (x8 : Int) (x10 : Int) (x11 : Int) (x12 : Int) (x13 : Int) (x14 : Int) (x15 : Int) (x16 : Int) (pt_0 : Int → Int) (ph_0 : Int → Int) (drawnEdge_0 : Int → Int) (drawnNode_0 : Int → Int) (pieceOf_0 : Int → Int) (ends_0 : Int → Int) (pm_0 : Int) (faces_0 : Int) (faceMany_0 : Int → Int) (face_1 : Int → Int) (faceNodes_1 : Int → Int) (faceMany_1 : Int → Int) (pt_1 : Int → Int) (ph_1 : Int → Int) (drawnEdge_1 : Int → Int) (drawnNode_1 : Int → Int) (pieceOf_1 : Int → Int) (ends_1 : Int → Int) (pm_1 : Int) (faces_1 : Int) (face_0 : Int → Int) (faceNodes_0 : Int → Int) (k2 : 0 ≤ x2 ∧ x2 ≤ 119) (k3 : 0 ≤ x3 ∧ x3 ≤ 59) (k5 : 1 ≤ x5 ∧ x5 ≤ 60) (k7 : 0 ≤ x7 ∧ x7 ≤ 33554431) (k8 : 1 ≤ x8 ∧ x8 ≤ 1) (k10 : 60 ≤ x10 ∧ x10 ≤ 60) (k11 : 0 ≤ x11 ∧ x11 ≤ 7140) (k12 : 0 ≤ x12 ∧ x12 ≤ 7199) (k13 : 0 ≤ x13 ∧ x13 ≤ 24) (k14 : 1 ≤ x14 ∧ x14 ≤ 16777216) (k15 : 0 ≤ x15 ∧ x15 ≤ 33554431) (k16 : 1 ≤ x16 ∧ x16 ≤ 60) (d0 : x3 + 1 ≤ x16 ∧ x16 ≤ x3 + 1) (d1 : x5 + (-4294967296) ≤ x16 ∧ x16 ≤ x5 + 0) (d2 : x3 + 0 ≤ x12 ∧ x12 ≤ x3 + 7140) (d3 : x5 + (-4294967296) ≤ x12 ∧ x12 ≤ x5 + 7139) (d4 : x11 + 0 ≤ x12 ∧ x12 ≤ x11 + 59) (d5 : x5 + (-4294967296) ≤ x3 ∧ x3 ≤ x5 + (-1)) (f0 : x16 = x3 + 1) (f1 : END (pm_0) (pt_0) (ph_0) (drawnEdge_0) (drawnNode_0) (pieceOf_0) (ends_0)) (f2 : 1 * x2 + ((-1) * faces_0 + 0) ≤ (-1)) (f3 : FCB (faceMany_0) (x2) (x3)) (f6 : x15 ≤ x7 + x14 ∧ x7 ≤ x15 ∧ x14 ≤ x15) (f7 : bvp (x15) = bvp (x7) ||| bvp (x14)) (f8 : bvp (x14) = bvp (x8) <<< (x13).toNat) (h9 : x13 = face_1 (x12)) (f10 : x12 = x11 + x3) (f11 : x11 = 60 * x2) (h13 : x7 = faceNodes_1 (x2)) (f15 : x3 < x5) (h16 : x5 = faceMany_1 (x2)) (f18 : END (pm_1) (pt_1) (ph_1) (drawnEdge_1) (drawnNode_1) (pieceOf_1) (ends_1)) (f19 : FCN (faceMany_1) (face_1) (faceNodes_1) (x2)) (f20 : FCK (face_1) (faceNodes_1) (x2) (x3)) (f21 : 1 * x2 + ((-1) * faces_1 + 0) ≤ (-1)) (f22 : FCB (faceMany_1) (x2) (x3)) (fe_0_32_1 : pm_0 = pm_1) (fe_0_39_1 : faces_0 = faces_1) (hE_0_33_1 : ∀ j : Int, pt_0 j = pt_1 j) (hK_0_33 : ∀ j : Int, 0 ≤ j → j < 80 → 0 ≤ pt_0 j ∧ pt_0 j ≤ 24) (hE_0_34_1 : ∀ j : Int, ph_0 j = ph_1 j) (hK_0_34 : ∀ j : Int, 0 ≤ j → j < 80 → 0 ≤ ph_0 j ∧ ph_0 j ≤ 24) (hE_0_40_1 : ∀ j : Int, faceMany_0 j = faceMany_1 j) (hK_0_40 : ∀ j : Int, 0 ≤ j → j < 120 → 0 ≤ faceMany_0 j ∧ faceMany_0 j ≤ 60) (hE_0_41_1 : ∀ j : Int, face_0 j = face_1 j) (hK_0_41 : ∀ j : Int, 0 ≤ j → j < 7200 → 0 ≤ face_0 j ∧ face_0 j ≤ 24) (hE_0_42_1 : ∀ j : Int, drawnNode_0 j = drawnNode_1 j) (hK_0_42 : ∀ j : Int, 0 ≤ j → j < 26 → 0 ≤ drawnNode_0 j ∧ drawnNode_0 j ≤ 1) (hE_0_43_1 : ∀ j : Int, drawnEdge_0 j = drawnEdge_1 j) (hK_0_43 : ∀ j : Int, 0 ≤ j → j < 80 → 0 ≤ drawnEdge_0 j ∧ drawnEdge_0 j ≤ 1) (hE_0_44_1 : ∀ j : Int, pieceOf_0 j = pieceOf_1 j) (hK_0_44 : ∀ j : Int, 0 ≤ j → j < 80 → (-1) ≤ pieceOf_0 j ∧ pieceOf_0 j ≤ 79) (hE_0_50_1 : ∀ j : Int, ends_0 j = ends_1 j) (hK_0_50 : ∀ j : Int, 0 ≤ j → j < 80 → 0 ≤ ends_0 j ∧ ends_0 j ≤ 33554431) (hE_0_51_1 : ∀ j : Int, 0 ≤ j → (j = x2 → faceNodes_0 j = x15) ∧ (j ≠ x2 → faceNodes_0 j = faceNodes_1 j)) (hK_0_51 : ∀ j : Int, 0 ≤ j → j < 120 → 0 ≤ faceNodes_0 j ∧ faceNodes_0 j ≤ 33554431) (kz_0_32 : 0 ≤ pm_0 ∧ pm_0 ≤ 80) (kz_0_39 : 0 ≤ faces_0 ∧ faces_0 ≤ 120) : FCB (faceMany_0) (x2) (x16) := by
  subst fe_0_32_1
  subst fe_0_39_1
  have e_hE_0_33_1 := funext hE_0_33_1; subst e_hE_0_33_1
  have e_hE_0_34_1 := funext hE_0_34_1; subst e_hE_0_34_1
  have e_hE_0_40_1 := funext hE_0_40_1; subst e_hE_0_40_1
  have e_hE_0_41_1 := funext hE_0_41_1; subst e_hE_0_41_1
  have e_hE_0_42_1 := funext hE_0_42_1; subst e_hE_0_42_1
  have e_hE_0_43_1 := funext hE_0_43_1; subst e_hE_0_43_1
  have e_hE_0_44_1 := funext hE_0_44_1; subst e_hE_0_44_1
  have e_hE_0_50_1 := funext hE_0_50_1; subst e_hE_0_50_1
  unfold FCB
  first
    | exact Or.inr (by omega)
    | exact Or.inl (by omega)
def o_Mo_bits_15 : or_T := (142, 17, [(0, (2, 0, 0, [165])), (2, (0, 0, 119, [])), (3, (0, 0, 59, [])), (5, (0, 1, 60, [])), (6, (2, 0, 0, [194])), (7, (0, 0, 33554431, [])), (8, (0, 1, 1, [])), (10, (0, 60, 60, [])), (11, (0, 0, 7140, [])), (12, (0, 0, 7199, [])), (13, (0, 0, 24, [])), (14, (0, 1, 16777216, [])), (15, (0, 0, 33554431, [])), (16, (0, 1, 60, []))], [(6, [16, 3], [1]), (20, [1], [60, 1, 6, 109, 32, 33, 34, 43, 42, 44, 50]), (20, [2, 1], [30, -1, 1, 0, 0, -1, 1, 39]), (20, [1, 2, 3], [60, 0, 1, 112, 40]), (24, [0, 1], []), (100, [6, 2, 15], []), (13, [15, 7, 14], []), (16, [15, 7, 14], [1]), (16, [14, 8, 13], [3]), (10, [13, 9, 12], []), (1, [12, 11, 3], []), (3, [11, 10, 2], []), (9, [9, 1], [41]), (10, [7, 6, 2], []), (9, [6, 1], [51]), (7, [3, 5], [2]), (10, [5, 4, 2], []), (9, [4, 1], [40]), (20, [1], [60, 1, 6, 109, 32, 33, 34, 43, 42, 44, 50]), (20, [1, 2], [60, 0, 3, 110, 40, 41, 51]), (20, [1, 2, 3], [60, 0, 2, 111, 41, 51]), (20, [2, 1], [30, -1, 1, 0, 0, -1, 1, 39]), (20, [1, 2, 3], [60, 0, 1, 112, 40])], [], [], [(20, [1, 2], [60, 0, 3, 110, 40, 41, 51]), (20, [1, 2, 16], [60, 0, 2, 111, 41, 51]), (20, [1, 2, 16], [60, 0, 1, 112, 40])], [], [(16, 3, 1, 1), (16, 5, -4294967296, 0), (12, 3, 0, 7140), (12, 5, -4294967296, 7139), (12, 11, 0, 59), (3, 5, -4294967296, -1)])
theorem oo_Mo_bits_15 {kA : Nat → ClassId} : or_ok PRD kA GG o_Mo_bits_15 := by
  refine or_mk fun A ta ws vs hD hth hl => ?_
  intro t0 r0 t2 k2 t3 k3 t5 k5 t6 r6 t7 k7 t8 k8 t10 k10 t11 k11 t12 k12 t13 k13 t14 k14 t15 k15 t16 k16 d0 d1 d2 d3 d4 d5 f0 f1 f2 f3 f4 ta1 w1 le1 s1 f6 f7 f8 f9 f10 f11 f12 f13 f14 f15 f16 f17 f18 f19 f20 f21 f22
  replace f0 := shm_4 f0
  replace f1 := shm_529 f1
  replace f2 := shm_520 f2
  replace f3 := shm_537 f3
  replace f4 := shm_5 f4
  have s1 : (∀ b j, w_el ws b j = if b = v_ad (n_v vs 6) ∧ j = (v_iv (n_v vs 2)).toNat then v_iv (n_v vs 15) else w_el w1 b j) ∧ ∀ b k, w_fd ws b k = w_fd w1 b k := s1.2
  have f6 : v_iv (n_v vs 15) ≤ v_iv (n_v vs 7) + v_iv (n_v vs 14) ∧ v_iv (n_v vs 7) ≤ v_iv (n_v vs 15) ∧ v_iv (n_v vs 14) ≤ v_iv (n_v vs 15) := (fun (h : v_iv (n_v vs 15) ≤ v_iv (n_v vs 7) + v_iv (n_v vs 14) ∧ v_iv (n_v vs 7) ≤ v_iv (n_v vs 15) ∧ v_iv (n_v vs 14) ≤ v_iv (n_v vs 15) ∧ (v_iv (n_v vs 15)).toNat = (v_iv (n_v vs 7)).toNat ||| (v_iv (n_v vs 14)).toNat) => ⟨h.1, h.2.1, h.2.2.1⟩) f6
  replace f7 := shm_354 f7
  replace f8 := shm_349 f8
  replace f9 := shm_107 f9
  replace f10 := shm_12 f10
  replace f11 := shm_38 f11
  rw [show v_iv (n_v vs 10) = 60 from by omega] at f11
  replace f12 := shm_522 f12
  replace f13 := shm_107 f13
  replace f14 := shm_535 f14
  replace f15 := shm_6 f15
  replace f16 := shm_107 f16
  replace f17 := shm_518 f17
  replace f18 := shm_529 f18
  replace f19 := shm_530 f19
  replace f20 := shm_536 f20
  replace f21 := shm_520 f21
  replace f22 := shm_537 f22
  have q1 : n_v vs 1 = n_v vs 0 := f4.symm
  simp only [q1] at f1 f2 f3 f12 f14 f17 f18 f19 f20 f21 f22
  have ar_0_33_1 : w_ar w1 (n_v vs 0) 33 = w_ar ws (n_v vs 0) 33 := congrArg v_ad (s1.2 _ _).symm
  have cr_0_33 := fdq_117 hD hth r0
  have ar_0_34_1 : w_ar w1 (n_v vs 0) 34 = w_ar ws (n_v vs 0) 34 := congrArg v_ad (s1.2 _ _).symm
  have cr_0_34 := fdq_118 hD hth r0
  have ar_0_40_1 : w_ar w1 (n_v vs 0) 40 = w_ar ws (n_v vs 0) 40 := congrArg v_ad (s1.2 _ _).symm
  have cr_0_40 := fdq_133 hD hth r0
  have ar_0_41_1 : w_ar w1 (n_v vs 0) 41 = w_ar ws (n_v vs 0) 41 := congrArg v_ad (s1.2 _ _).symm
  have cr_0_41 := fdq_134 hD hth r0
  have ar_0_42_1 : w_ar w1 (n_v vs 0) 42 = w_ar ws (n_v vs 0) 42 := congrArg v_ad (s1.2 _ _).symm
  have cr_0_42 := fdq_136 hD hth r0
  have ar_0_43_1 : w_ar w1 (n_v vs 0) 43 = w_ar ws (n_v vs 0) 43 := congrArg v_ad (s1.2 _ _).symm
  have cr_0_43 := fdq_137 hD hth r0
  have ar_0_44_1 : w_ar w1 (n_v vs 0) 44 = w_ar ws (n_v vs 0) 44 := congrArg v_ad (s1.2 _ _).symm
  have cr_0_44 := fdq_138 hD hth r0
  have ar_0_50_1 : w_ar w1 (n_v vs 0) 50 = w_ar ws (n_v vs 0) 50 := congrArg v_ad (s1.2 _ _).symm
  have cr_0_50 := fdq_139 hD hth r0
  have ar_0_51_1 : w_ar w1 (n_v vs 0) 51 = w_ar ws (n_v vs 0) 51 := congrArg v_ad (s1.2 _ _).symm
  have cr_0_51 := fdq_141 hD hth r0
  have ad_9 : v_ad (n_v vs 9) = w_ar ws (n_v vs 0) 41 := (congrArg v_ad f12).trans ar_0_41_1
  have ad_6 : v_ad (n_v vs 6) = w_ar ws (n_v vs 0) 51 := (congrArg v_ad f14).trans ar_0_51_1
  have ad_4 : v_ad (n_v vs 4) = w_ar ws (n_v vs 0) 40 := (congrArg v_ad f17).trans ar_0_40_1
  simp only [ad_9] at f9
  have h9 : v_iv (n_v vs 13) = w_ei w1 (w_ar ws (n_v vs 0) 41) (v_iv (n_v vs 12)) := f9
  simp only [ad_6] at f13
  have h13 : v_iv (n_v vs 7) = w_ei w1 (w_ar ws (n_v vs 0) 51) (v_iv (n_v vs 2)) := f13
  simp only [ad_4] at f16
  have h16 : v_iv (n_v vs 5) = w_ei w1 (w_ar ws (n_v vs 0) 40) (v_iv (n_v vs 2)) := f16
  simp only [ar_0_33_1, ar_0_34_1, ar_0_42_1, ar_0_43_1, ar_0_44_1, ar_0_50_1, ar_0_40_1, ar_0_41_1, ar_0_51_1] at f18 f19 f20 f22
  have fe_0_32_1 : w_fi ws (n_v vs 0) 32 = w_fi w1 (n_v vs 0) 32 := congrArg v_iv (s1.2 _ _)
  have fe_0_39_1 : w_fi ws (n_v vs 0) 39 = w_fi w1 (n_v vs 0) 39 := congrArg v_iv (s1.2 _ _)
  have hE_0_33_1 : ∀ j : Int, w_ei ws (w_ar ws (n_v vs 0) 33) j = w_ei w1 (w_ar ws (n_v vs 0) 33) j := el_kp s1.1 r6 cr_0_33 (by decide)
  have hK_0_33 := elq_60 hD hth cr_0_33
  have hE_0_34_1 : ∀ j : Int, w_ei ws (w_ar ws (n_v vs 0) 34) j = w_ei w1 (w_ar ws (n_v vs 0) 34) j := el_kp s1.1 r6 cr_0_34 (by decide)
  have hK_0_34 := elq_61 hD hth cr_0_34
  have hE_0_40_1 : ∀ j : Int, w_ei ws (w_ar ws (n_v vs 0) 40) j = w_ei w1 (w_ar ws (n_v vs 0) 40) j := el_kp s1.1 r6 cr_0_40 (by decide)
  have hK_0_40 := elq_73 hD hth cr_0_40
  have hE_0_41_1 : ∀ j : Int, w_ei ws (w_ar ws (n_v vs 0) 41) j = w_ei w1 (w_ar ws (n_v vs 0) 41) j := el_kp s1.1 r6 cr_0_41 (by decide)
  have hK_0_41 := elq_74 hD hth cr_0_41
  have hE_0_42_1 : ∀ j : Int, w_ei ws (w_ar ws (n_v vs 0) 42) j = w_ei w1 (w_ar ws (n_v vs 0) 42) j := el_kp s1.1 r6 cr_0_42 (by decide)
  have hK_0_42 := elq_75 hD hth cr_0_42
  have hE_0_43_1 : ∀ j : Int, w_ei ws (w_ar ws (n_v vs 0) 43) j = w_ei w1 (w_ar ws (n_v vs 0) 43) j := el_kp s1.1 r6 cr_0_43 (by decide)
  have hK_0_43 := elq_76 hD hth cr_0_43
  have hE_0_44_1 : ∀ j : Int, w_ei ws (w_ar ws (n_v vs 0) 44) j = w_ei w1 (w_ar ws (n_v vs 0) 44) j := el_kp s1.1 r6 cr_0_44 (by decide)
  have hK_0_44 := elq_77 hD hth cr_0_44
  have hE_0_50_1 : ∀ j : Int, w_ei ws (w_ar ws (n_v vs 0) 50) j = w_ei w1 (w_ar ws (n_v vs 0) 50) j := el_kp s1.1 r6 cr_0_50 (by decide)
  have hK_0_50 := elq_78 hD hth cr_0_50
  have hE_0_51_1 : ∀ j : Int, 0 ≤ j → (j = v_iv (n_v vs 2) → w_ei ws (w_ar ws (n_v vs 0) 51) j = v_iv (n_v vs 15)) ∧ (j ≠ v_iv (n_v vs 2) → w_ei ws (w_ar ws (n_v vs 0) 51) j = w_ei w1 (w_ar ws (n_v vs 0) 51) j) := fun j hj => ⟨fun h => by unfold w_ei; rw [s1.1, if_pos ⟨ad_6.symm, by rw [h]⟩], fun h => by unfold w_ei; rw [s1.1, if_neg (fun e => h (by have := e.2; omega))]⟩
  have hK_0_51 := elq_79 hD hth cr_0_51
  have kz_0_32 := fdq_140 hD hth r0
  have kz_0_39 := fdq_135 hD hth r0
  have nf0 : fc_1 PRD (20, [1, 2], [60, 0, 3, 110, 40, 41, 51]) ws (vs) := by
    refine ⟨nf_in hl rfl, sgq_530 ?_⟩
    · show FCN (w_ei ws (w_ar ws (n_v vs 1) 40)) (w_ei ws (w_ar ws (n_v vs 1) 41)) (w_ei ws (w_ar ws (n_v vs 1) 51)) (v_iv (n_v vs 2))
      rw [q1]
      exact vc_Mo_bits_15_0 (v_iv (n_v vs 2)) (v_iv (n_v vs 3)) (v_iv (n_v vs 5)) (v_iv (n_v vs 7)) (v_iv (n_v vs 8)) (v_iv (n_v vs 10)) (v_iv (n_v vs 11)) (v_iv (n_v vs 12)) (v_iv (n_v vs 13)) (v_iv (n_v vs 14)) (v_iv (n_v vs 15)) (v_iv (n_v vs 16)) (w_ei ws (w_ar ws (n_v vs 0) 33)) (w_ei ws (w_ar ws (n_v vs 0) 34)) (w_ei ws (w_ar ws (n_v vs 0) 43)) (w_ei ws (w_ar ws (n_v vs 0) 42)) (w_ei ws (w_ar ws (n_v vs 0) 44)) (w_ei ws (w_ar ws (n_v vs 0) 50)) (w_fi ws (n_v vs 0) 32) (w_fi ws (n_v vs 0) 39) (w_ei ws (w_ar ws (n_v vs 0) 40)) (w_ei w1 (w_ar ws (n_v vs 0) 41)) (w_ei w1 (w_ar ws (n_v vs 0) 51)) (w_ei w1 (w_ar ws (n_v vs 0) 40)) (w_ei w1 (w_ar ws (n_v vs 0) 33)) (w_ei w1 (w_ar ws (n_v vs 0) 34)) (w_ei w1 (w_ar ws (n_v vs 0) 43)) (w_ei w1 (w_ar ws (n_v vs 0) 42)) (w_ei w1 (w_ar ws (n_v vs 0) 44)) (w_ei w1 (w_ar ws (n_v vs 0) 50)) (w_fi w1 (n_v vs 0) 32) (w_fi w1 (n_v vs 0) 39) (w_ei ws (w_ar ws (n_v vs 0) 41)) (w_ei ws (w_ar ws (n_v vs 0) 51)) k2 k3 k5 k7 k8 k10 k11 k12 k13 k14 k15 k16 d0 d1 d2 d3 d4 d5 f0 f1 f2 f3 f6 f7 f8 h9 f10 f11 h13 f15 h16 f18 f19 f20 f21 f22 fe_0_32_1 fe_0_39_1 hE_0_33_1 hK_0_33 hE_0_34_1 hK_0_34 hE_0_40_1 hK_0_40 hE_0_41_1 hK_0_41 hE_0_42_1 hK_0_42 hE_0_43_1 hK_0_43 hE_0_44_1 hK_0_44 hE_0_50_1 hK_0_50 hE_0_51_1 hK_0_51 kz_0_32 kz_0_39
  have nf1 : fc_1 PRD (20, [1, 2, 16], [60, 0, 2, 111, 41, 51]) ws (vs) := by
    refine ⟨nf_in hl rfl, sgq_536 ?_⟩
    · show FCK (w_ei ws (w_ar ws (n_v vs 1) 41)) (w_ei ws (w_ar ws (n_v vs 1) 51)) (v_iv (n_v vs 2)) (v_iv (n_v vs 16))
      rw [q1]
      exact vc_Mo_bits_15_1 (v_iv (n_v vs 2)) (v_iv (n_v vs 3)) (v_iv (n_v vs 5)) (v_iv (n_v vs 7)) (v_iv (n_v vs 8)) (v_iv (n_v vs 10)) (v_iv (n_v vs 11)) (v_iv (n_v vs 12)) (v_iv (n_v vs 13)) (v_iv (n_v vs 14)) (v_iv (n_v vs 15)) (v_iv (n_v vs 16)) (w_ei ws (w_ar ws (n_v vs 0) 33)) (w_ei ws (w_ar ws (n_v vs 0) 34)) (w_ei ws (w_ar ws (n_v vs 0) 43)) (w_ei ws (w_ar ws (n_v vs 0) 42)) (w_ei ws (w_ar ws (n_v vs 0) 44)) (w_ei ws (w_ar ws (n_v vs 0) 50)) (w_fi ws (n_v vs 0) 32) (w_fi ws (n_v vs 0) 39) (w_ei ws (w_ar ws (n_v vs 0) 40)) (w_ei w1 (w_ar ws (n_v vs 0) 41)) (w_ei w1 (w_ar ws (n_v vs 0) 51)) (w_ei w1 (w_ar ws (n_v vs 0) 40)) (w_ei w1 (w_ar ws (n_v vs 0) 33)) (w_ei w1 (w_ar ws (n_v vs 0) 34)) (w_ei w1 (w_ar ws (n_v vs 0) 43)) (w_ei w1 (w_ar ws (n_v vs 0) 42)) (w_ei w1 (w_ar ws (n_v vs 0) 44)) (w_ei w1 (w_ar ws (n_v vs 0) 50)) (w_fi w1 (n_v vs 0) 32) (w_fi w1 (n_v vs 0) 39) (w_ei ws (w_ar ws (n_v vs 0) 41)) (w_ei ws (w_ar ws (n_v vs 0) 51)) k2 k3 k5 k7 k8 k10 k11 k12 k13 k14 k15 k16 d0 d1 d2 d3 d4 d5 f0 f1 f2 f3 f6 f7 f8 h9 f10 f11 h13 f15 h16 f18 f19 f20 f21 f22 fe_0_32_1 fe_0_39_1 hE_0_33_1 hK_0_33 hE_0_34_1 hK_0_34 hE_0_40_1 hK_0_40 hE_0_41_1 hK_0_41 hE_0_42_1 hK_0_42 hE_0_43_1 hK_0_43 hE_0_44_1 hK_0_44 hE_0_50_1 hK_0_50 hE_0_51_1 hK_0_51 kz_0_32 kz_0_39
  have nf2 : fc_1 PRD (20, [1, 2, 16], [60, 0, 1, 112, 40]) ws (vs) := by
    refine ⟨nf_in hl rfl, sgq_537 ?_⟩
    · show FCB (w_ei ws (w_ar ws (n_v vs 1) 40)) (v_iv (n_v vs 2)) (v_iv (n_v vs 16))
      rw [q1]
      exact vc_Mo_bits_15_2 (v_iv (n_v vs 2)) (v_iv (n_v vs 3)) (v_iv (n_v vs 5)) (v_iv (n_v vs 7)) (v_iv (n_v vs 8)) (v_iv (n_v vs 10)) (v_iv (n_v vs 11)) (v_iv (n_v vs 12)) (v_iv (n_v vs 13)) (v_iv (n_v vs 14)) (v_iv (n_v vs 15)) (v_iv (n_v vs 16)) (w_ei ws (w_ar ws (n_v vs 0) 33)) (w_ei ws (w_ar ws (n_v vs 0) 34)) (w_ei ws (w_ar ws (n_v vs 0) 43)) (w_ei ws (w_ar ws (n_v vs 0) 42)) (w_ei ws (w_ar ws (n_v vs 0) 44)) (w_ei ws (w_ar ws (n_v vs 0) 50)) (w_fi ws (n_v vs 0) 32) (w_fi ws (n_v vs 0) 39) (w_ei ws (w_ar ws (n_v vs 0) 40)) (w_ei w1 (w_ar ws (n_v vs 0) 41)) (w_ei w1 (w_ar ws (n_v vs 0) 51)) (w_ei w1 (w_ar ws (n_v vs 0) 40)) (w_ei w1 (w_ar ws (n_v vs 0) 33)) (w_ei w1 (w_ar ws (n_v vs 0) 34)) (w_ei w1 (w_ar ws (n_v vs 0) 43)) (w_ei w1 (w_ar ws (n_v vs 0) 42)) (w_ei w1 (w_ar ws (n_v vs 0) 44)) (w_ei w1 (w_ar ws (n_v vs 0) 50)) (w_fi w1 (n_v vs 0) 32) (w_fi w1 (n_v vs 0) 39) (w_ei ws (w_ar ws (n_v vs 0) 41)) (w_ei ws (w_ar ws (n_v vs 0) 51)) k2 k3 k5 k7 k8 k10 k11 k12 k13 k14 k15 k16 d0 d1 d2 d3 d4 d5 f0 f1 f2 f3 f6 f7 f8 h9 f10 f11 h13 f15 h16 f18 f19 f20 f21 f22 fe_0_32_1 fe_0_39_1 hE_0_33_1 hK_0_33 hE_0_34_1 hK_0_34 hE_0_40_1 hK_0_40 hE_0_41_1 hK_0_41 hE_0_42_1 hK_0_42 hE_0_43_1 hK_0_43 hE_0_44_1 hK_0_44 hE_0_50_1 hK_0_50 hE_0_51_1 hK_0_51 kz_0_32 kz_0_39
  refine ⟨(fun _ h => (by cases h)), [], trivial, ?_, (fun _ h => (by cases h))⟩
  rw [List.append_nil]
  exact List.forall_mem_cons.mpr ⟨⟨show (20 : Nat) < 100 from by decide, nf0⟩, List.forall_mem_cons.mpr ⟨⟨show (20 : Nat) < 100 from by decide, nf1⟩, List.forall_mem_cons.mpr ⟨⟨show (20 : Nat) < 100 from by decide, nf2⟩, (fun _ h => (by cases h))⟩⟩⟩
def n_Mo_bits_an : List an_T := [(2, [(0, (2, 0, 0, [165])), (1, (0, 0, 80, []))], [], (0, 0), [(0, 0, 99998), (1, 2, 80), (0, 0, 100000), (0, 0, 0), (0, 0, 0)], [], [], [(2, 0, 0, [165])], 0, [], [(20, [1], [60, 1, 5, 106, 32, 33, 34, 43, 42, 44]), (20, [1, 2], [60, 0, 1, 107, 50]), (24, [0, 1], [])]), (25, [(0, (2, 0, 0, [165])), (1, (0, 0, 80, []))], [], (0, 0), [(0, 0, 99975), (1, 2, 80), (0, 0, 100000), (0, 0, 0), (0, 0, 0)], [], [], [(2, 0, 0, [165])], 0, [], [(20, [1], [60, 1, 5, 106, 32, 33, 34, 43, 42, 44]), (20, [1, 2], [60, 1, 6, 108, 32, 33, 34, 43, 42, 44, 50]), (20, [2, 1], [30, 0, 1, 0, 0, (Int.negSucc 0), 1, 32]), (24, [0, 1], [])]), (125, [(0, (2, 0, 0, [165])), (1, (0, 0, 120, []))], [], (0, 0), [(0, 0, 99875), (1, 2, 120), (0, 0, 100000), (0, 0, 0), (0, 0, 0)], [], [], [(2, 0, 0, [165])], 0, [], [(20, [1], [60, 1, 6, 109, 32, 33, 34, 43, 42, 44, 50]), (20, [1, 2], [60, 0, 3, 110, 40, 41, 51]), (24, [0, 1], [])]), (142, [(0, (2, 0, 0, [165])), (1, (0, 0, 119, [])), (2, (0, 0, 60, []))], [], (0, 0), [(0, 0, 99875), (1, 2, 120), (0, 0, 99858), (1, 3, 60), (0, 0, 100000)], [], [], [(2, 0, 0, [165])], 0, [], [(20, [1], [60, 1, 6, 109, 32, 33, 34, 43, 42, 44, 50]), (20, [1, 2], [60, 0, 3, 110, 40, 41, 51]), (20, [1, 2, 3], [60, 0, 2, 111, 41, 51]), (20, [2, 1], [30, (Int.negSucc 0), 1, 0, 0, (Int.negSucc 0), 1, 39]), (20, [1, 2, 3], [60, 0, 1, 112, 40]), (24, [0, 1], [])])]
def t_Mo_bits_ct : ct_L := []
set_option maxRecDepth 100000 in
theorem c_Mo_bits {l : Launch} {D : va_G} {kA : Nat → ClassId} : ct_ok PRD l D kA GG y_Mo_bits z_Mo_bits e_Mo_bits := chk_all_ok (FT := [(57, 13, 33), (60, 13, 34), (75, 13, 40), (78, 13, 41), (81, 13, 42), (84, 13, 43), (87, 13, 44), (96, 13, 50), (99, 13, 51), (597, 13, 32), (612, 13, 39)]) (PT := []) (CT := t_Mo_bits_ct) (KT := []) (NT := []) (AN := n_Mo_bits_an) (OT := [o_Mo_bits_0, o_Mo_bits_1, o_Mo_bits_2, o_Mo_bits_3, o_Mo_bits_4, o_Mo_bits_5, o_Mo_bits_6, o_Mo_bits_7, o_Mo_bits_8, o_Mo_bits_9, o_Mo_bits_10, o_Mo_bits_11, o_Mo_bits_12, o_Mo_bits_13, o_Mo_bits_14, o_Mo_bits_15]) 5 592 (List.forall_mem_cons.mpr ⟨oo_Mo_bits_0, List.forall_mem_cons.mpr ⟨oo_Mo_bits_1, List.forall_mem_cons.mpr ⟨oo_Mo_bits_2, List.forall_mem_cons.mpr ⟨oo_Mo_bits_3, List.forall_mem_cons.mpr ⟨oo_Mo_bits_4, List.forall_mem_cons.mpr ⟨oo_Mo_bits_5, List.forall_mem_cons.mpr ⟨oo_Mo_bits_6, List.forall_mem_cons.mpr ⟨oo_Mo_bits_7, List.forall_mem_cons.mpr ⟨oo_Mo_bits_8, List.forall_mem_cons.mpr ⟨oo_Mo_bits_9, List.forall_mem_cons.mpr ⟨oo_Mo_bits_10, List.forall_mem_cons.mpr ⟨oo_Mo_bits_11, List.forall_mem_cons.mpr ⟨oo_Mo_bits_12, List.forall_mem_cons.mpr ⟨oo_Mo_bits_13, List.forall_mem_cons.mpr ⟨oo_Mo_bits_14, List.forall_mem_cons.mpr ⟨oo_Mo_bits_15, List.forall_mem_nil _⟩⟩⟩⟩⟩⟩⟩⟩⟩⟩⟩⟩⟩⟩⟩⟩) (by decide +kernel) ⟨List.forall_mem_cons.mpr ⟨gf_Mo_57, List.forall_mem_cons.mpr ⟨gf_Mo_60, List.forall_mem_cons.mpr ⟨gf_Mo_75, List.forall_mem_cons.mpr ⟨gf_Mo_78, List.forall_mem_cons.mpr ⟨gf_Mo_81, List.forall_mem_cons.mpr ⟨gf_Mo_84, List.forall_mem_cons.mpr ⟨gf_Mo_87, List.forall_mem_cons.mpr ⟨gf_Mo_96, List.forall_mem_cons.mpr ⟨gf_Mo_99, List.forall_mem_cons.mpr ⟨gf_Mo_597, List.forall_mem_cons.mpr ⟨gf_Mo_612, List.forall_mem_nil _⟩⟩⟩⟩⟩⟩⟩⟩⟩⟩⟩, List.forall_mem_nil _, List.forall_mem_nil _, List.forall_mem_nil _, List.forall_mem_nil _, GG_pl⟩ (by decide +kernel)
set_option maxHeartbeats 4000000 in
theorem vc_Mo_bounded_0_0 (x0 : Int) (x1 : Int) (x2 : Int) (k0 : (-256) ≤ x0 ∧ x0 ≤ 256) (k1 : 0 ≤ x1 ∧ x1 ≤ 256) (k2 : (-256) ≤ x2 ∧ x2 ≤ 0) (f0 : x2 ≤ x0) (f1 : x2 = x1 * (-1)) (f2 : x0 ≤ x1) : (0 ≤ (x1 + x0)) ∧ (x0 ≤ x1) := by
  first | assumption | omega | grind
def o_Mo_bounded_0 : or_T := (23, 3, [(0, (1, -256, 256, [])), (1, (1, 0, 256, [])), (2, (1, -256, 0, []))], [(7, [0, 2], [3]), (15, [2, 1], [-1]), (7, [0, 1], [5])], [], [], [(20, [1, 0], [50, 0, 0, 2, 10, 0, 2, 0, 0, 4, 2, 1, 0, 1, 1, 0, 2, 1, 1, 1, 0])], [], [])
theorem oo_Mo_bounded_0 {kA : Nat → ClassId} : or_ok PRD kA GG o_Mo_bounded_0 := by
  refine or_mk fun A ta ws vs hD hth hl => ?_
  intro t0 k0 t1 k1 t2 k2 f0 f1 f2
  have nf0 : fc_1 PRD (20, [1, 0], [50, 0, 0, 2, 10, 0, 2, 0, 0, 4, 2, 1, 0, 1, 1, 0, 2, 1, 1, 1, 0]) ws (vs) := ⟨nf_in hl rfl, sgq_539 (vc_Mo_bounded_0_0 (v_iv (n_v vs 0)) (v_iv (n_v vs 1)) (v_iv (n_v vs 2)) k0 k1 k2 (shm_2 f0) (shm_538 f1) (shm_24 f2))⟩
  refine ⟨(fun _ h => (by cases h)), [], trivial, ?_, (fun _ h => (by cases h))⟩
  rw [List.append_nil]
  exact List.forall_mem_cons.mpr ⟨⟨show (20 : Nat) < 100 from by decide, nf0⟩, (fun _ h => (by cases h))⟩
set_option maxHeartbeats 4000000 in
theorem vc_Mo_bounded_1_0 (x0 : Int) (x1 : Int) (x2 : Int) (x3 : Int) (k0 : (-9223372036854775808) ≤ x0 ∧ x0 ≤ (-1)) (k1 : 0 ≤ x1 ∧ x1 ≤ 256) (k2 : (-256) ≤ x2 ∧ x2 ≤ 0) (k3 : (-256) ≤ x3 ∧ x3 ≤ 0) (f0 : x3 = x1 * (-1)) (f1 : x0 < x2) (f2 : x2 = x1 * (-1)) (f3 : x0 ≤ x1) : (0 ≤ (x1 + x3)) ∧ (x3 ≤ x1) := by
  first | assumption | omega | grind
def o_Mo_bounded_1 : or_T := (23, 4, [(0, (1, -9223372036854775808, -1, [])), (1, (1, 0, 256, [])), (2, (1, -256, 0, [])), (3, (1, -256, 0, []))], [(15, [3, 1], [-1]), (7, [0, 2], [2]), (15, [2, 1], [-1]), (7, [0, 1], [5])], [], [], [(20, [1, 3], [50, 0, 0, 2, 10, 0, 2, 0, 0, 4, 2, 1, 0, 1, 1, 0, 2, 1, 1, 1, 0])], [], [])
theorem oo_Mo_bounded_1 {kA : Nat → ClassId} : or_ok PRD kA GG o_Mo_bounded_1 := by
  refine or_mk fun A ta ws vs hD hth hl => ?_
  intro t0 k0 t1 k1 t2 k2 t3 k3 f0 f1 f2 f3
  have nf0 : fc_1 PRD (20, [1, 3], [50, 0, 0, 2, 10, 0, 2, 0, 0, 4, 2, 1, 0, 1, 1, 0, 2, 1, 1, 1, 0]) ws (vs) := ⟨nf_in hl rfl, sgq_539 (vc_Mo_bounded_1_0 (v_iv (n_v vs 0)) (v_iv (n_v vs 1)) (v_iv (n_v vs 2)) (v_iv (n_v vs 3)) k0 k1 k2 k3 (shm_538 f0) (shm_6 f1) (shm_538 f2) (shm_24 f3))⟩
  refine ⟨(fun _ h => (by cases h)), [], trivial, ?_, (fun _ h => (by cases h))⟩
  rw [List.append_nil]
  exact List.forall_mem_cons.mpr ⟨⟨show (20 : Nat) < 100 from by decide, nf0⟩, (fun _ h => (by cases h))⟩
set_option maxHeartbeats 4000000 in
theorem vc_Mo_bounded_2_0 (x0 : Int) (x1 : Int) (k0 : 1 ≤ x0 ∧ x0 ≤ 9223372036854775807) (k1 : 0 ≤ x1 ∧ x1 ≤ 256) (f0 : x1 < x0) : (0 ≤ (x1 + x1)) ∧ (x1 ≤ x1) := by
  first | assumption | omega | grind
def o_Mo_bounded_2 : or_T := (23, 2, [(0, (1, 1, 9223372036854775807, [])), (1, (1, 0, 256, []))], [(7, [0, 1], [4])], [], [], [(20, [1, 1], [50, 0, 0, 2, 10, 0, 2, 0, 0, 4, 2, 1, 0, 1, 1, 0, 2, 1, 1, 1, 0])], [], [])
theorem oo_Mo_bounded_2 {kA : Nat → ClassId} : or_ok PRD kA GG o_Mo_bounded_2 := by
  refine or_mk fun A ta ws vs hD hth hl => ?_
  intro t0 k0 t1 k1 f0
  have nf0 : fc_1 PRD (20, [1, 1], [50, 0, 0, 2, 10, 0, 2, 0, 0, 4, 2, 1, 0, 1, 1, 0, 2, 1, 1, 1, 0]) ws (vs) := ⟨nf_in hl rfl, sgq_540 (vc_Mo_bounded_2_0 (v_iv (n_v vs 0)) (v_iv (n_v vs 1)) k0 k1 (shm_21 f0))⟩
  refine ⟨(fun _ h => (by cases h)), [], trivial, ?_, (fun _ h => (by cases h))⟩
  rw [List.append_nil]
  exact List.forall_mem_cons.mpr ⟨⟨show (20 : Nat) < 100 from by decide, nf0⟩, (fun _ h => (by cases h))⟩
def n_Mo_bounded_an : List an_T := []
def t_Mo_bounded_ct : ct_L := []
set_option maxRecDepth 100000 in
theorem c_Mo_bounded {l : Launch} {D : va_G} {kA : Nat → ClassId} : ct_ok PRD l D kA GG y_Mo_bounded z_Mo_bounded e_Mo_bounded := chk_all_ok (FT := []) (PT := []) (CT := t_Mo_bounded_ct) (KT := []) (NT := []) (AN := n_Mo_bounded_an) (OT := [o_Mo_bounded_0, o_Mo_bounded_1, o_Mo_bounded_2]) 0 200 (List.forall_mem_cons.mpr ⟨oo_Mo_bounded_0, List.forall_mem_cons.mpr ⟨oo_Mo_bounded_1, List.forall_mem_cons.mpr ⟨oo_Mo_bounded_2, List.forall_mem_nil _⟩⟩⟩) (by decide +kernel) ⟨List.forall_mem_nil _, List.forall_mem_nil _, List.forall_mem_nil _, List.forall_mem_nil _, List.forall_mem_nil _, GG_pl⟩ (by decide +kernel)
set_option maxHeartbeats 4000000 in
theorem vc_Mo_byteAt_0_0 (x1 : Int) (x2 : Int) (x3 : Int) (limit_0 : Int) (tape_0 : Int → Int) (k1 : 0 ≤ x1 ∧ x1 ≤ 2147483647) (k2 : 0 ≤ x2 ∧ x2 ≤ 2000) (k3 : (-1) ≤ x3 ∧ x3 ≤ (-1)) (d0 : x2 + 0 ≤ x1 ∧ x1 ≤ x2 + 4294967296) (f0 : x2 ≤ x1) (g1 : x2 = limit_0) (hK_0_1 : ∀ j : Int, 0 ≤ j → j < 2000 → (-128) ≤ tape_0 j ∧ tape_0 j ≤ 127) (kz_0_10 : 0 ≤ limit_0 ∧ limit_0 ≤ 2000) : ((x1 + 1) ≤ limit_0) → (x3 = (tape_0 (x1) % 256)) := by
  first | assumption | (clear hK_0_1; omega) | omega | grind
set_option maxHeartbeats 4000000 in
theorem vc_Mo_byteAt_0_1 (x1 : Int) (x2 : Int) (x3 : Int) (limit_0 : Int) (tape_0 : Int → Int) (k1 : 0 ≤ x1 ∧ x1 ≤ 2147483647) (k2 : 0 ≤ x2 ∧ x2 ≤ 2000) (k3 : (-1) ≤ x3 ∧ x3 ≤ (-1)) (d0 : x2 + 0 ≤ x1 ∧ x1 ≤ x2 + 4294967296) (f0 : x2 ≤ x1) (g1 : x2 = limit_0) (hK_0_1 : ∀ j : Int, 0 ≤ j → j < 2000 → (-128) ≤ tape_0 j ∧ tape_0 j ≤ 127) (kz_0_10 : 0 ≤ limit_0 ∧ limit_0 ≤ 2000) : (limit_0 ≤ x1) → (x3 = (-1)) := by
  first | assumption | (clear hK_0_1; omega) | omega | grind
def o_Mo_byteAt_0 : or_T := (22, 4, [(0, (2, 0, 0, [165])), (1, (0, 0, 2147483647, [])), (2, (0, 0, 2000, [])), (3, (0, -1, -1, []))], [(7, [1, 2], [3]), (9, [2, 0], [10])], [], [], [(20, [1, 0, 3], [50, 1, 1, 1010, 1001, 4, 11, 0, 6, 4, 2, 1, 0, 0, 1, 2, 1, 10, 1, 2, 1, 2, 9, 5, 3, 1, 1, 1, 0, 0, 256]), (20, [0, 1, 3], [50, 1, 0, 10, 4, 7, 0, 3, 2, 0, 10, 1, 1, 1, 2, 1, 2, 0, -1])], [], [(1, 2, 0, 4294967296)])
theorem oo_Mo_byteAt_0 {kA : Nat → ClassId} : or_ok PRD kA GG o_Mo_byteAt_0 := by
  refine or_mk fun A ta ws vs hD hth hl => ?_
  intro t0 r0 t1 k1 t2 k2 t3 k3 d0 f0 f1
  replace f1 := shm_106 f1
  have cr_0_1 := fdq_39 hD hth r0
  have g1 : v_iv (n_v vs 2) = w_fi ws (n_v vs 0) 10 := congrArg v_iv f1
  have hK_0_1 := elq_7 hD hth cr_0_1
  have kz_0_10 := fdq_43 hD hth r0
  have nf0 : fc_1 PRD (20, [1, 0, 3], [50, 1, 1, 1010, 1001, 4, 11, 0, 6, 4, 2, 1, 0, 0, 1, 2, 1, 10, 1, 2, 1, 2, 9, 5, 3, 1, 1, 1, 0, 0, 256]) ws (vs) := ⟨nf_in hl rfl, sgq_541 (vc_Mo_byteAt_0_0 (v_iv (n_v vs 1)) (v_iv (n_v vs 2)) (v_iv (n_v vs 3)) (w_fi ws (n_v vs 0) 10) (w_ei ws (w_ar ws (n_v vs 0) 1)) k1 k2 k3 d0 (shm_2 f0) g1 hK_0_1 kz_0_10)⟩
  have nf1 : fc_1 PRD (20, [0, 1, 3], [50, 1, 0, 10, 4, 7, 0, 3, 2, 0, 10, 1, 1, 1, 2, 1, 2, 0, -1]) ws (vs) := ⟨nf_in hl rfl, sgq_542 (vc_Mo_byteAt_0_1 (v_iv (n_v vs 1)) (v_iv (n_v vs 2)) (v_iv (n_v vs 3)) (w_fi ws (n_v vs 0) 10) (w_ei ws (w_ar ws (n_v vs 0) 1)) k1 k2 k3 d0 (shm_2 f0) g1 hK_0_1 kz_0_10)⟩
  refine ⟨(fun _ h => (by cases h)), [], trivial, ?_, (fun _ h => (by cases h))⟩
  rw [List.append_nil]
  exact List.forall_mem_cons.mpr ⟨⟨show (20 : Nat) < 100 from by decide, nf0⟩, List.forall_mem_cons.mpr ⟨⟨show (20 : Nat) < 100 from by decide, nf1⟩, (fun _ h => (by cases h))⟩⟩
set_option maxHeartbeats 4000000 in
theorem vc_Mo_byteAt_1_0 (x1 : Int) (x4 : Int) (x6 : Int) (tape_0 : Int → Int) (limit_0 : Int) (k1 : 0 ≤ x1 ∧ x1 ≤ 1999) (k4 : (-128) ≤ x4 ∧ x4 ≤ 127) (k6 : 0 ≤ x6 ∧ x6 ≤ 255) (h1 : x4 = tape_0 (x1)) (fb0 : x6 = x4 % 256) (kz_0_10 : 0 ≤ limit_0 ∧ limit_0 ≤ 2000) : ((x1 + 1) ≤ limit_0) → (x6 = (tape_0 (x1) % 256)) := by
  first | assumption | omega | grind
set_option maxHeartbeats 4000000 in
theorem vc_Mo_byteAt_1_1 (x1 : Int) (x2 : Int) (x6 : Int) (limit_0 : Int) (k1 : 0 ≤ x1 ∧ x1 ≤ 1999) (k2 : 1 ≤ x2 ∧ x2 ≤ 2000) (k6 : 0 ≤ x6 ∧ x6 ≤ 255) (d0 : x2 + (-4294967296) ≤ x1 ∧ x1 ≤ x2 + (-1)) (g4 : x2 = limit_0) (kz_0_10 : 0 ≤ limit_0 ∧ limit_0 ≤ 2000) : (limit_0 ≤ x1) → (x6 = (-1)) := by
  first | assumption | omega | grind
def o_Mo_byteAt_1 : or_T := (22, 7, [(0, (2, 0, 0, [165])), (1, (0, 0, 1999, [])), (2, (0, 1, 2000, [])), (4, (0, -128, 127, [])), (6, (0, 0, 255, []))], [(16, [6, 4, 5], [0]), (10, [4, 3, 1], []), (9, [3, 0], [1]), (9, [2, 0], [10])], [], [], [(20, [1, 0, 6], [50, 1, 1, 1010, 1001, 4, 11, 0, 6, 4, 2, 1, 0, 0, 1, 2, 1, 10, 1, 2, 1, 2, 9, 5, 3, 1, 1, 1, 0, 0, 256]), (20, [0, 1, 6], [50, 1, 0, 10, 4, 7, 0, 3, 2, 0, 10, 1, 1, 1, 2, 1, 2, 0, -1])], [], [(1, 2, -4294967296, -1)])
theorem oo_Mo_byteAt_1 {kA : Nat → ClassId} : or_ok PRD kA GG o_Mo_byteAt_1 := by
  refine or_mk fun A ta ws vs hD hth hl => ?_
  intro t0 r0 t1 k1 t2 k2 t4 k4 t6 k6 d0 f0 f1 f2 f4
  replace f0 := shm_11 f0
  have fb0 : v_iv (n_v vs 6) = v_iv (n_v vs 4) % 256 := and255 f0 (by omega) (by omega) (by omega)
  replace f1 := shm_107 f1
  replace f2 := shm_215 f2
  replace f4 := shm_106 f4
  have ad_3 : v_ad (n_v vs 3) = w_ar ws (n_v vs 0) 1 := congrArg v_ad f2
  simp only [ad_3] at f1
  have h1 : v_iv (n_v vs 4) = w_ei ws (w_ar ws (n_v vs 0) 1) (v_iv (n_v vs 1)) := f1
  have g4 : v_iv (n_v vs 2) = w_fi ws (n_v vs 0) 10 := congrArg v_iv f4
  have kz_0_10 := fdq_43 hD hth r0
  have nf0 : fc_1 PRD (20, [1, 0, 6], [50, 1, 1, 1010, 1001, 4, 11, 0, 6, 4, 2, 1, 0, 0, 1, 2, 1, 10, 1, 2, 1, 2, 9, 5, 3, 1, 1, 1, 0, 0, 256]) ws (vs) := ⟨nf_in hl rfl, sgq_541 (vc_Mo_byteAt_1_0 (v_iv (n_v vs 1)) (v_iv (n_v vs 4)) (v_iv (n_v vs 6)) (w_ei ws (w_ar ws (n_v vs 0) 1)) (w_fi ws (n_v vs 0) 10) k1 k4 k6 h1 fb0 kz_0_10)⟩
  have nf1 : fc_1 PRD (20, [0, 1, 6], [50, 1, 0, 10, 4, 7, 0, 3, 2, 0, 10, 1, 1, 1, 2, 1, 2, 0, -1]) ws (vs) := ⟨nf_in hl rfl, sgq_542 (vc_Mo_byteAt_1_1 (v_iv (n_v vs 1)) (v_iv (n_v vs 2)) (v_iv (n_v vs 6)) (w_fi ws (n_v vs 0) 10) k1 k2 k6 d0 g4 kz_0_10)⟩
  refine ⟨(fun _ h => (by cases h)), [], trivial, ?_, (fun _ h => (by cases h))⟩
  rw [List.append_nil]
  exact List.forall_mem_cons.mpr ⟨⟨show (20 : Nat) < 100 from by decide, nf0⟩, List.forall_mem_cons.mpr ⟨⟨show (20 : Nat) < 100 from by decide, nf1⟩, (fun _ h => (by cases h))⟩⟩
def n_Mo_byteAt_an : List an_T := []
def t_Mo_byteAt_ct : ct_L := []
set_option maxRecDepth 100000 in
theorem c_Mo_byteAt {l : Launch} {D : va_G} {kA : Nat → ClassId} : ct_ok PRD l D kA GG y_Mo_byteAt z_Mo_byteAt e_Mo_byteAt := chk_all_ok (FT := [(9, 13, 1), (419, 13, 10)]) (PT := []) (CT := t_Mo_byteAt_ct) (KT := []) (NT := []) (AN := n_Mo_byteAt_an) (OT := [o_Mo_byteAt_0, o_Mo_byteAt_1]) 0 200 (List.forall_mem_cons.mpr ⟨oo_Mo_byteAt_0, List.forall_mem_cons.mpr ⟨oo_Mo_byteAt_1, List.forall_mem_nil _⟩⟩) (by decide +kernel) ⟨List.forall_mem_cons.mpr ⟨gf_Mo_9, List.forall_mem_cons.mpr ⟨gf_Mo_419, List.forall_mem_nil _⟩⟩, List.forall_mem_nil _, List.forall_mem_nil _, List.forall_mem_nil _, List.forall_mem_nil _, GG_pl⟩ (by decide +kernel)
set_option maxHeartbeats 4000000 in
theorem vc_Mo_clear_0_0 (x1 : Int) (x2 : Int) (all_0 : Int → Int) (now_0 : Int → Int) (latest_0 : Int → Int) (k1 : 0 ≤ x1 ∧ x1 ≤ 66297) (k2 : 0 ≤ x2 ∧ x2 ≤ 0) (f0 : RWX (all_0) (now_0) (latest_0) (x1)) (hK_0_3 : ∀ j : Int, 0 ≤ j → j < 4 → 0 ≤ now_0 j ∧ now_0 j ≤ 30) (hK_0_4 : ∀ j : Int, 0 ≤ j → j < 4 → 0 ≤ latest_0 j ∧ latest_0 j ≤ 30) : CL2 (all_0) (now_0) (latest_0) (x1) (x2) := by
  first
    | exact cl2_start ‹RWX _ _ _ _› (by omega)
    | exact cl2_step ‹CL2 _ _ _ _ _› (by omega) (by omega) (by omega) (by assumption) (by omega) (by omega)
set_option maxHeartbeats 4000000 in
theorem vc_Mo_clear_0_1 (x1 : Int) (x2 : Int) (all_0 : Int → Int) (k1 : 0 ≤ x1 ∧ x1 ≤ 66297) (k2 : 0 ≤ x2 ∧ x2 ≤ 0) : CLI (all_0) (x1) (x2) := by
  first
    | exact cli_0 (by omega)
    | exact cli_s ‹CLI _ _ _› (by omega) (by assumption) (by omega) (by omega) (by omega)
def o_Mo_clear_0 : or_T := (2, 3, [(0, (2, 0, 0, [165])), (1, (0, 0, 66297, [])), (2, (0, 0, 0, []))], [(20, [0, 1], [60, 0, 3, 235, 2, 3, 4])], [], [], [(20, [0, 1, 2], [60, 0, 3, 236, 2, 3, 4]), (20, [0, 1, 2], [60, 0, 1, 1036, 2]), (24, [0, 0], []), (24, [1, 1], [])], [], [])
theorem oo_Mo_clear_0 {kA : Nat → ClassId} : or_ok PRD kA GG o_Mo_clear_0 := by
  refine or_mk fun A ta ws vs hD hth hl => ?_
  intro t0 r0 t1 k1 t2 k2 f0
  have cr_0_3 := fdq_142 hD hth r0
  have cr_0_4 := fdq_143 hD hth r0
  have hK_0_3 := elq_80 hD hth cr_0_3
  have hK_0_4 := elq_81 hD hth cr_0_4
  have nf0 : fc_1 PRD (20, [0, 1, 2], [60, 0, 3, 236, 2, 3, 4]) ws (vs) := ⟨nf_in hl rfl, sgq_544 (vc_Mo_clear_0_0 (v_iv (n_v vs 1)) (v_iv (n_v vs 2)) (w_ei ws (w_ar ws (n_v vs 0) 2)) (w_ei ws (w_ar ws (n_v vs 0) 3)) (w_ei ws (w_ar ws (n_v vs 0) 4)) k1 k2 (shm_543 f0) hK_0_3 hK_0_4)⟩
  have nf1 : fc_1 PRD (20, [0, 1, 2], [60, 0, 1, 1036, 2]) ws (vs) := ⟨nf_in hl rfl, sgq_545 (vc_Mo_clear_0_1 (v_iv (n_v vs 1)) (v_iv (n_v vs 2)) (w_ei ws (w_ar ws (n_v vs 0) 2)) k1 k2)⟩
  have nf2 : fc_1 PRD (24, [0, 0], []) ws (vs) := by
    refine ⟨nf_in hl rfl, sgq_1 ?_⟩
    · show n_v vs 0 = n_v vs 0
      first | rfl | simp only [true_and]
  have nf3 : fc_1 PRD (24, [1, 1], []) ws (vs) := by
    refine ⟨nf_in hl rfl, sgq_1 ?_⟩
    · show n_v vs 1 = n_v vs 1
      first | rfl | simp only [true_and]
  refine ⟨(fun _ h => (by cases h)), [], trivial, ?_, (fun _ h => (by cases h))⟩
  rw [List.append_nil]
  exact List.forall_mem_cons.mpr ⟨⟨show (20 : Nat) < 100 from by decide, nf0⟩, List.forall_mem_cons.mpr ⟨⟨show (20 : Nat) < 100 from by decide, nf1⟩, List.forall_mem_cons.mpr ⟨⟨show (24 : Nat) < 100 from by decide, nf2⟩, List.forall_mem_cons.mpr ⟨⟨show (24 : Nat) < 100 from by decide, nf3⟩, (fun _ h => (by cases h))⟩⟩⟩⟩
set_option maxHeartbeats 4000000 in
theorem vc_Mo_clear_1_0 (x1 : Int) (x3 : Int) (x8 : Int) (x9 : Int) (x11 : Int) (x12 : Int) (all_2 : Int → Int) (now_2 : Int → Int) (latest_2 : Int → Int) (all_0 : Int → Int) (all_1 : Int → Int) (now_0 : Int → Int) (now_1 : Int → Int) (latest_0 : Int → Int) (latest_1 : Int → Int) (k1 : 0 ≤ x1 ∧ x1 ≤ 66297) (k3 : 0 ≤ x3 ∧ x3 ≤ 66297) (k8 : 2 ≤ x8 ∧ x8 ≤ 66299) (k9 : 1 ≤ x9 ∧ x9 ≤ 1) (k11 : 531 ≤ x11 ∧ x11 ≤ 66828) (k12 : (-1) ≤ x12 ∧ x12 ≤ (-1)) (d0 : x3 + 531 ≤ x11 ∧ x11 ≤ x3 + 531) (d1 : x1 + (-4294967296) ≤ x11 ∧ x11 ≤ x1 + 531) (d2 : x3 + 2 ≤ x8 ∧ x8 ≤ x3 + 2) (d3 : x1 + (-4294967296) ≤ x8 ∧ x8 ≤ x1 + 2) (d4 : x3 + (-4294967296) ≤ x1 ∧ x1 ≤ x3 + 0) (hE_0_2_1 : ∀ j : Int, 0 ≤ j → (j = x11 → all_0 j = x12) ∧ (j ≠ x11 → all_0 j = all_1 j)) (hE_0_2_2 : ∀ j : Int, 0 ≤ j → (j = x8 → all_1 j = x9) ∧ (j ≠ x8 → all_1 j = all_2 j)) (hE_0_3_1 : ∀ j : Int, now_0 j = now_1 j) (hE_0_3_2 : ∀ j : Int, now_1 j = now_2 j) (hE_0_4_1 : ∀ j : Int, latest_0 j = latest_1 j) (hE_0_4_2 : ∀ j : Int, latest_1 j = latest_2 j) : all_0 ((x1 + 2)) = 1 := by
  have e_hE_0_3_1 := funext hE_0_3_1; subst e_hE_0_3_1
  have e_hE_0_3_2 := funext hE_0_3_2; subst e_hE_0_3_2
  have e_hE_0_4_1 := funext hE_0_4_1; subst e_hE_0_4_1
  have e_hE_0_4_2 := funext hE_0_4_2; subst e_hE_0_4_2
  first
    | omega
    | (have q1 := (hE_0_2_1 (x1 + 2) (by omega)).2 (by omega)
       have q2 := (hE_0_2_2 (x1 + 2) (by omega)).1 (by omega)
       omega)
set_option maxHeartbeats 4000000 in
theorem vc_Mo_clear_1_1 (x1 : Int) (x3 : Int) (x4 : Int) (x8 : Int) (x9 : Int) (x11 : Int) (x12 : Int) (all_2 : Int → Int) (now_2 : Int → Int) (latest_2 : Int → Int) (all_0 : Int → Int) (all_1 : Int → Int) (now_0 : Int → Int) (now_1 : Int → Int) (latest_0 : Int → Int) (latest_1 : Int → Int) (k1 : 0 ≤ x1 ∧ x1 ≤ 66297) (k3 : 0 ≤ x3 ∧ x3 ≤ 66297) (k4 : 539 ≤ x4 ∧ x4 ≤ 539) (k8 : 2 ≤ x8 ∧ x8 ≤ 66299) (k9 : 1 ≤ x9 ∧ x9 ≤ 1) (k11 : 531 ≤ x11 ∧ x11 ≤ 66828) (k12 : (-1) ≤ x12 ∧ x12 ≤ (-1)) (d0 : x3 + 531 ≤ x11 ∧ x11 ≤ x3 + 531) (d1 : x1 + (-4294967296) ≤ x11 ∧ x11 ≤ x1 + 531) (d2 : x3 + 2 ≤ x8 ∧ x8 ≤ x3 + 2) (d3 : x1 + (-4294967296) ≤ x8 ∧ x8 ≤ x1 + 2) (d4 : x3 + (-4294967296) ≤ x1 ∧ x1 ≤ x3 + 0) (f8 : CL2 (all_2) (now_2) (latest_2) (x1) (x4)) (hE_0_2_1 : ∀ j : Int, 0 ≤ j → (j = x11 → all_0 j = x12) ∧ (j ≠ x11 → all_0 j = all_1 j)) (hE_0_2_2 : ∀ j : Int, 0 ≤ j → (j = x8 → all_1 j = x9) ∧ (j ≠ x8 → all_1 j = all_2 j)) (hE_0_3_1 : ∀ j : Int, now_0 j = now_1 j) (hE_0_3_2 : ∀ j : Int, now_1 j = now_2 j) (hE_0_4_1 : ∀ j : Int, latest_0 j = latest_1 j) (hE_0_4_2 : ∀ j : Int, latest_1 j = latest_2 j) : RWX (all_0) (now_0) (latest_0) (x1) := by
  have e_hE_0_3_1 := funext hE_0_3_1; subst e_hE_0_3_1
  have e_hE_0_3_2 := funext hE_0_3_2; subst e_hE_0_3_2
  have e_hE_0_4_1 := funext hE_0_4_1; subst e_hE_0_4_1
  have e_hE_0_4_2 := funext hE_0_4_2; subst e_hE_0_4_2
  exact cl2_end ‹CL2 _ _ _ _ _› (by omega) (by assumption) (by omega) (by assumption) (by omega)
set_option maxHeartbeats 4000000 in
theorem vc_Mo_clear_1_2 (x1 : Int) (x3 : Int) (x4 : Int) (x8 : Int) (x9 : Int) (x11 : Int) (x12 : Int) (all_2 : Int → Int) (now_2 : Int → Int) (latest_2 : Int → Int) (all_0 : Int → Int) (all_1 : Int → Int) (now_0 : Int → Int) (now_1 : Int → Int) (latest_0 : Int → Int) (latest_1 : Int → Int) (k1 : 0 ≤ x1 ∧ x1 ≤ 66297) (k3 : 0 ≤ x3 ∧ x3 ≤ 66297) (k4 : 539 ≤ x4 ∧ x4 ≤ 539) (k8 : 2 ≤ x8 ∧ x8 ≤ 66299) (k9 : 1 ≤ x9 ∧ x9 ≤ 1) (k11 : 531 ≤ x11 ∧ x11 ≤ 66828) (k12 : (-1) ≤ x12 ∧ x12 ≤ (-1)) (d0 : x3 + 531 ≤ x11 ∧ x11 ≤ x3 + 531) (d1 : x1 + (-4294967296) ≤ x11 ∧ x11 ≤ x1 + 531) (d2 : x3 + 2 ≤ x8 ∧ x8 ≤ x3 + 2) (d3 : x1 + (-4294967296) ≤ x8 ∧ x8 ≤ x1 + 2) (d4 : x3 + (-4294967296) ≤ x1 ∧ x1 ≤ x3 + 0) (f9 : CLI (all_2) (x1) (x4)) (hE_0_2_1 : ∀ j : Int, 0 ≤ j → (j = x11 → all_0 j = x12) ∧ (j ≠ x11 → all_0 j = all_1 j)) (hE_0_2_2 : ∀ j : Int, 0 ≤ j → (j = x8 → all_1 j = x9) ∧ (j ≠ x8 → all_1 j = all_2 j)) (hE_0_3_1 : ∀ j : Int, now_0 j = now_1 j) (hE_0_3_2 : ∀ j : Int, now_1 j = now_2 j) (hE_0_4_1 : ∀ j : Int, latest_0 j = latest_1 j) (hE_0_4_2 : ∀ j : Int, latest_1 j = latest_2 j) : CLZ (all_0) (x1) := by
  have e_hE_0_3_1 := funext hE_0_3_1; subst e_hE_0_3_1
  have e_hE_0_3_2 := funext hE_0_3_2; subst e_hE_0_3_2
  have e_hE_0_4_1 := funext hE_0_4_1; subst e_hE_0_4_1
  have e_hE_0_4_2 := funext hE_0_4_2; subst e_hE_0_4_2
  exact cli_e ‹CLI _ _ _› (by omega) (by omega) (by assumption) (by assumption) (by omega) (by omega) (by omega) (by omega)
def o_Mo_clear_1 : or_T := (44, 13, [(0, (2, 0, 0, [165])), (1, (0, 0, 66297, [])), (2, (2, 0, 0, [165])), (3, (0, 0, 66297, [])), (4, (0, 539, 539, [])), (5, (0, 539, 539, [])), (6, (2, 0, 0, [167])), (7, (0, 2, 2, [])), (8, (0, 2, 66299, [])), (9, (0, 1, 1, [])), (10, (0, 531, 531, [])), (11, (0, 531, 66828, [])), (12, (0, -1, -1, []))], [(24, [0, 2], []), (24, [1, 3], []), (100, [6, 11, 12], []), (1, [11, 3, 10], []), (9, [6, 2], [2]), (100, [6, 8, 9], []), (1, [8, 3, 7], []), (7, [4, 5], [3]), (20, [2, 3, 4], [60, 0, 3, 236, 2, 3, 4]), (20, [2, 3, 4], [60, 0, 1, 1036, 2])], [], [], [(20, [0, 1], [50, 0, 1, 2, 1, 9, 3, 0, 2, 4, 2, 1, 1, 0, 2, 0, 1]), (20, [0, 1], [60, 0, 3, 235, 2, 3, 4]), (20, [0, 1], [60, 0, 1, 1035, 2])], [], [(11, 3, 531, 531), (11, 1, -4294967296, 531), (8, 3, 2, 2), (8, 1, -4294967296, 2), (1, 3, -4294967296, 0), (3, 1, -4294967296, 0)])
theorem oo_Mo_clear_1 {kA : Nat → ClassId} : or_ok PRD kA GG o_Mo_clear_1 := by
  refine or_mk fun A ta ws vs hD hth hl => ?_
  intro t0 r0 t1 k1 t2 r2 t3 k3 t4 k4 t5 k5 t6 r6 t7 k7 t8 k8 t9 k9 t10 k10 t11 k11 t12 k12 d0 d1 d2 d3 d4 d5 f0 f1 ta1 w1 le1 s1 f3 f4 ta2 w2 le2 s2 f6 f7 f8 f9
  replace f0 := shm_5 f0
  replace f1 := shm_5 f1
  have s1 : (∀ b j, w_el ws b j = if b = v_ad (n_v vs 6) ∧ j = (v_iv (n_v vs 11)).toNat then v_iv (n_v vs 12) else w_el w1 b j) ∧ ∀ b k, w_fd ws b k = w_fd w1 b k := s1.2
  replace f3 := shm_12 f3
  replace f4 := shm_120 f4
  have s2 : (∀ b j, w_el w1 b j = if b = v_ad (n_v vs 6) ∧ j = (v_iv (n_v vs 8)).toNat then v_iv (n_v vs 9) else w_el w2 b j) ∧ ∀ b k, w_fd w1 b k = w_fd w2 b k := s2.2
  replace f6 := shm_12 f6
  replace f7 := shm_2 f7
  replace f8 := shm_544 f8
  replace f9 := shm_545 f9
  have q2 : n_v vs 2 = n_v vs 0 := f0.symm
  have q3 : n_v vs 3 = n_v vs 1 := f1.symm
  simp only [q3, q2] at f3 f4 f6 f8 f9
  have ar_0_2_1 : w_ar w1 (n_v vs 0) 2 = w_ar ws (n_v vs 0) 2 := congrArg v_ad (s1.2 _ _).symm
  have ar_0_2_2 : w_ar w2 (n_v vs 0) 2 = w_ar ws (n_v vs 0) 2 := by rw [← ar_0_2_1]; show v_ad (w_fd w2 _ _) = v_ad (w_fd w1 _ _); rw [s2.2]
  have cr_0_2 := fdq_10 hD hth r0
  have ar_0_3_1 : w_ar w1 (n_v vs 0) 3 = w_ar ws (n_v vs 0) 3 := congrArg v_ad (s1.2 _ _).symm
  have ar_0_3_2 : w_ar w2 (n_v vs 0) 3 = w_ar ws (n_v vs 0) 3 := by rw [← ar_0_3_1]; show v_ad (w_fd w2 _ _) = v_ad (w_fd w1 _ _); rw [s2.2]
  have cr_0_3 := fdq_142 hD hth r0
  have ar_0_4_1 : w_ar w1 (n_v vs 0) 4 = w_ar ws (n_v vs 0) 4 := congrArg v_ad (s1.2 _ _).symm
  have ar_0_4_2 : w_ar w2 (n_v vs 0) 4 = w_ar ws (n_v vs 0) 4 := by rw [← ar_0_4_1]; show v_ad (w_fd w2 _ _) = v_ad (w_fd w1 _ _); rw [s2.2]
  have cr_0_4 := fdq_143 hD hth r0
  have ad_6 : v_ad (n_v vs 6) = w_ar ws (n_v vs 0) 2 := (congrArg v_ad f4).trans ar_0_2_1
  simp only [ar_0_2_2, ar_0_3_2, ar_0_4_2] at f8 f9
  have hE_0_2_1 : ∀ j : Int, 0 ≤ j → (j = v_iv (n_v vs 11) → w_ei ws (w_ar ws (n_v vs 0) 2) j = v_iv (n_v vs 12)) ∧ (j ≠ v_iv (n_v vs 11) → w_ei ws (w_ar ws (n_v vs 0) 2) j = w_ei w1 (w_ar ws (n_v vs 0) 2) j) := fun j hj => ⟨fun h => by unfold w_ei; rw [s1.1, if_pos ⟨ad_6.symm, by rw [h]⟩], fun h => by unfold w_ei; rw [s1.1, if_neg (fun e => h (by have := e.2; omega))]⟩
  have hE_0_2_2 : ∀ j : Int, 0 ≤ j → (j = v_iv (n_v vs 8) → w_ei w1 (w_ar ws (n_v vs 0) 2) j = v_iv (n_v vs 9)) ∧ (j ≠ v_iv (n_v vs 8) → w_ei w1 (w_ar ws (n_v vs 0) 2) j = w_ei w2 (w_ar ws (n_v vs 0) 2) j) := fun j hj => ⟨fun h => by unfold w_ei; rw [s2.1, if_pos ⟨ad_6.symm, by rw [h]⟩], fun h => by unfold w_ei; rw [s2.1, if_neg (fun e => h (by have := e.2; omega))]⟩
  have hE_0_3_1 : ∀ j : Int, w_ei ws (w_ar ws (n_v vs 0) 3) j = w_ei w1 (w_ar ws (n_v vs 0) 3) j := el_kp s1.1 r6 cr_0_3 (by decide)
  have hE_0_3_2 : ∀ j : Int, w_ei w1 (w_ar ws (n_v vs 0) 3) j = w_ei w2 (w_ar ws (n_v vs 0) 3) j := el_kp s2.1 r6 cr_0_3 (by decide)
  have hK_0_3 := elq_80 hD hth cr_0_3
  have hE_0_4_1 : ∀ j : Int, w_ei ws (w_ar ws (n_v vs 0) 4) j = w_ei w1 (w_ar ws (n_v vs 0) 4) j := el_kp s1.1 r6 cr_0_4 (by decide)
  have hE_0_4_2 : ∀ j : Int, w_ei w1 (w_ar ws (n_v vs 0) 4) j = w_ei w2 (w_ar ws (n_v vs 0) 4) j := el_kp s2.1 r6 cr_0_4 (by decide)
  have hK_0_4 := elq_81 hD hth cr_0_4
  first | have hI0 := (hE_0_2_1 ((v_iv (n_v vs 1) + 2)) (by omega)).2 (by omega) | have hI0 := (hE_0_2_1 ((v_iv (n_v vs 1) + 2)) (by omega)).1 (by omega) | skip
  first | have hI1 := (hE_0_2_2 ((v_iv (n_v vs 1) + 2)) (by omega)).2 (by omega) | have hI1 := (hE_0_2_2 ((v_iv (n_v vs 1) + 2)) (by omega)).1 (by omega) | skip
  have nf0 : fc_1 PRD (20, [0, 1], [50, 0, 1, 2, 1, 9, 3, 0, 2, 4, 2, 1, 1, 0, 2, 0, 1]) ws (vs) := ⟨nf_in hl rfl, sgq_546 (vc_Mo_clear_1_0 (v_iv (n_v vs 1)) (v_iv (n_v vs 3)) (v_iv (n_v vs 8)) (v_iv (n_v vs 9)) (v_iv (n_v vs 11)) (v_iv (n_v vs 12)) (w_ei w2 (w_ar ws (n_v vs 0) 2)) (w_ei w2 (w_ar ws (n_v vs 0) 3)) (w_ei w2 (w_ar ws (n_v vs 0) 4)) (w_ei ws (w_ar ws (n_v vs 0) 2)) (w_ei w1 (w_ar ws (n_v vs 0) 2)) (w_ei ws (w_ar ws (n_v vs 0) 3)) (w_ei w1 (w_ar ws (n_v vs 0) 3)) (w_ei ws (w_ar ws (n_v vs 0) 4)) (w_ei w1 (w_ar ws (n_v vs 0) 4)) k1 k3 k8 k9 k11 k12 d0 d1 d2 d3 d4 hE_0_2_1 hE_0_2_2 hE_0_3_1 hE_0_3_2 hE_0_4_1 hE_0_4_2)⟩
  have nf1 : fc_1 PRD (20, [0, 1], [60, 0, 3, 235, 2, 3, 4]) ws (vs) := ⟨nf_in hl rfl, sgq_543 (vc_Mo_clear_1_1 (v_iv (n_v vs 1)) (v_iv (n_v vs 3)) (v_iv (n_v vs 4)) (v_iv (n_v vs 8)) (v_iv (n_v vs 9)) (v_iv (n_v vs 11)) (v_iv (n_v vs 12)) (w_ei w2 (w_ar ws (n_v vs 0) 2)) (w_ei w2 (w_ar ws (n_v vs 0) 3)) (w_ei w2 (w_ar ws (n_v vs 0) 4)) (w_ei ws (w_ar ws (n_v vs 0) 2)) (w_ei w1 (w_ar ws (n_v vs 0) 2)) (w_ei ws (w_ar ws (n_v vs 0) 3)) (w_ei w1 (w_ar ws (n_v vs 0) 3)) (w_ei ws (w_ar ws (n_v vs 0) 4)) (w_ei w1 (w_ar ws (n_v vs 0) 4)) k1 k3 k4 k8 k9 k11 k12 d0 d1 d2 d3 d4 f8 hE_0_2_1 hE_0_2_2 hE_0_3_1 hE_0_3_2 hE_0_4_1 hE_0_4_2)⟩
  have nf2 : fc_1 PRD (20, [0, 1], [60, 0, 1, 1035, 2]) ws (vs) := ⟨nf_in hl rfl, sgq_547 (vc_Mo_clear_1_2 (v_iv (n_v vs 1)) (v_iv (n_v vs 3)) (v_iv (n_v vs 4)) (v_iv (n_v vs 8)) (v_iv (n_v vs 9)) (v_iv (n_v vs 11)) (v_iv (n_v vs 12)) (w_ei w2 (w_ar ws (n_v vs 0) 2)) (w_ei w2 (w_ar ws (n_v vs 0) 3)) (w_ei w2 (w_ar ws (n_v vs 0) 4)) (w_ei ws (w_ar ws (n_v vs 0) 2)) (w_ei w1 (w_ar ws (n_v vs 0) 2)) (w_ei ws (w_ar ws (n_v vs 0) 3)) (w_ei w1 (w_ar ws (n_v vs 0) 3)) (w_ei ws (w_ar ws (n_v vs 0) 4)) (w_ei w1 (w_ar ws (n_v vs 0) 4)) k1 k3 k4 k8 k9 k11 k12 d0 d1 d2 d3 d4 f9 hE_0_2_1 hE_0_2_2 hE_0_3_1 hE_0_3_2 hE_0_4_1 hE_0_4_2)⟩
  refine ⟨(fun _ h => (by cases h)), [], trivial, ?_, (fun _ h => (by cases h))⟩
  rw [List.append_nil]
  exact List.forall_mem_cons.mpr ⟨⟨show (20 : Nat) < 100 from by decide, nf0⟩, List.forall_mem_cons.mpr ⟨⟨show (20 : Nat) < 100 from by decide, nf1⟩, List.forall_mem_cons.mpr ⟨⟨show (20 : Nat) < 100 from by decide, nf2⟩, (fun _ h => (by cases h))⟩⟩⟩
set_option maxHeartbeats 4000000 in
theorem vc_Mo_clear_2_0 (x1 : Int) (x3 : Int) (x4 : Int) (x7 : Int) (x8 : Int) (x9 : Int) (all_1 : Int → Int) (now_1 : Int → Int) (latest_1 : Int → Int) (all_0 : Int → Int) (now_0 : Int → Int) (latest_0 : Int → Int) (k1 : 0 ≤ x1 ∧ x1 ≤ 66297) (k3 : 0 ≤ x3 ∧ x3 ≤ 66297) (k4 : 0 ≤ x4 ∧ x4 ≤ 538) (k7 : 0 ≤ x7 ∧ x7 ≤ 66835) (k8 : 0 ≤ x8 ∧ x8 ≤ 0) (k9 : 1 ≤ x9 ∧ x9 ≤ 539) (d0 : x4 + 1 ≤ x9 ∧ x9 ≤ x4 + 1) (d2 : x3 + 0 ≤ x7 ∧ x7 ≤ x3 + 538) (d4 : x3 + (-4294967296) ≤ x1 ∧ x1 ≤ x3 + 0) (d5 : x1 + (-4294967296) ≤ x3 ∧ x3 ≤ x1 + 0) (f0 : x9 = x4 + 1) (f4 : x7 = x1 + x4) (f7 : CL2 (all_1) (now_1) (latest_1) (x1) (x4)) (hE_0_2_1 : ∀ j : Int, 0 ≤ j → (j = x7 → all_0 j = x8) ∧ (j ≠ x7 → all_0 j = all_1 j)) (hE_0_3_1 : ∀ j : Int, now_0 j = now_1 j) (hE_0_4_1 : ∀ j : Int, latest_0 j = latest_1 j) : CL2 (all_0) (now_0) (latest_0) (x1) (x9) := by
  have e_hE_0_3_1 := funext hE_0_3_1; subst e_hE_0_3_1
  have e_hE_0_4_1 := funext hE_0_4_1; subst e_hE_0_4_1
  first
    | exact cl2_step ‹CL2 _ _ _ _ _› (by omega) (by omega) (by omega) (by assumption) (by omega) (by omega)
set_option maxHeartbeats 4000000 in
theorem vc_Mo_clear_2_1 (x1 : Int) (x3 : Int) (x4 : Int) (x7 : Int) (x8 : Int) (x9 : Int) (all_1 : Int → Int) (now_1 : Int → Int) (latest_1 : Int → Int) (all_0 : Int → Int) (now_0 : Int → Int) (latest_0 : Int → Int) (k1 : 0 ≤ x1 ∧ x1 ≤ 66297) (k3 : 0 ≤ x3 ∧ x3 ≤ 66297) (k4 : 0 ≤ x4 ∧ x4 ≤ 538) (k7 : 0 ≤ x7 ∧ x7 ≤ 66835) (k8 : 0 ≤ x8 ∧ x8 ≤ 0) (k9 : 1 ≤ x9 ∧ x9 ≤ 539) (d0 : x4 + 1 ≤ x9 ∧ x9 ≤ x4 + 1) (d1 : x4 + 0 ≤ x7 ∧ x7 ≤ x4 + 66297) (d4 : x3 + (-4294967296) ≤ x1 ∧ x1 ≤ x3 + 0) (d5 : x1 + (-4294967296) ≤ x3 ∧ x3 ≤ x1 + 0) (f0 : x9 = x4 + 1) (f4 : x7 = x1 + x4) (f8 : CLI (all_1) (x1) (x4)) (hE_0_2_1 : ∀ j : Int, 0 ≤ j → (j = x7 → all_0 j = x8) ∧ (j ≠ x7 → all_0 j = all_1 j)) (hE_0_3_1 : ∀ j : Int, now_0 j = now_1 j) (hE_0_4_1 : ∀ j : Int, latest_0 j = latest_1 j) : CLI (all_0) (x1) (x9) := by
  have e_hE_0_3_1 := funext hE_0_3_1; subst e_hE_0_3_1
  have e_hE_0_4_1 := funext hE_0_4_1; subst e_hE_0_4_1
  first
    | exact cli_0 (by omega)
    | exact cli_s ‹CLI _ _ _› (by omega) (by assumption) (by omega) (by omega) (by omega)
def o_Mo_clear_2 : or_T := (2, 10, [(0, (2, 0, 0, [165])), (1, (0, 0, 66297, [])), (3, (0, 0, 66297, [])), (4, (0, 0, 538, [])), (6, (2, 0, 0, [167])), (7, (0, 0, 66835, [])), (8, (0, 0, 0, [])), (9, (0, 1, 539, []))], [(6, [9, 4], [1]), (24, [0, 2], []), (24, [1, 3], []), (100, [6, 7, 8], []), (1, [7, 3, 4], []), (9, [6, 2], [2]), (20, [2, 3, 4], [60, 0, 3, 236, 2, 3, 4]), (20, [2, 3, 4], [60, 0, 1, 1036, 2])], [], [], [(20, [2, 3, 9], [60, 0, 3, 236, 2, 3, 4]), (20, [2, 3, 9], [60, 0, 1, 1036, 2])], [], [(9, 4, 1, 1), (7, 4, 0, 66297), (7, 3, 0, 538), (7, 1, -4294967296, 538), (1, 3, -4294967296, 0), (3, 1, -4294967296, 0)])
theorem oo_Mo_clear_2 {kA : Nat → ClassId} : or_ok PRD kA GG o_Mo_clear_2 := by
  refine or_mk fun A ta ws vs hD hth hl => ?_
  intro t0 r0 t1 k1 t3 k3 t4 k4 t6 r6 t7 k7 t8 k8 t9 k9 d0 d1 d2 d3 d4 d5 f0 f1 f2 ta1 w1 le1 s1 f4 f5 f7 f8
  replace f0 := shm_4 f0
  replace f1 := shm_5 f1
  replace f2 := shm_5 f2
  have s1 : (∀ b j, w_el ws b j = if b = v_ad (n_v vs 6) ∧ j = (v_iv (n_v vs 7)).toNat then v_iv (n_v vs 8) else w_el w1 b j) ∧ ∀ b k, w_fd ws b k = w_fd w1 b k := s1.2
  replace f4 := shm_12 f4
  replace f5 := shm_120 f5
  replace f7 := shm_544 f7
  replace f8 := shm_545 f8
  have q2 : n_v vs 2 = n_v vs 0 := f1.symm
  have q3 : n_v vs 3 = n_v vs 1 := f2.symm
  simp only [q3, q2] at f4 f5 f7 f8
  have ar_0_2_1 : w_ar w1 (n_v vs 0) 2 = w_ar ws (n_v vs 0) 2 := congrArg v_ad (s1.2 _ _).symm
  have ar_0_3_1 : w_ar w1 (n_v vs 0) 3 = w_ar ws (n_v vs 0) 3 := congrArg v_ad (s1.2 _ _).symm
  have cr_0_3 := fdq_142 hD hth r0
  have ar_0_4_1 : w_ar w1 (n_v vs 0) 4 = w_ar ws (n_v vs 0) 4 := congrArg v_ad (s1.2 _ _).symm
  have cr_0_4 := fdq_143 hD hth r0
  have ad_6 : v_ad (n_v vs 6) = w_ar ws (n_v vs 0) 2 := (congrArg v_ad f5).trans ar_0_2_1
  simp only [ar_0_2_1, ar_0_3_1, ar_0_4_1] at f7 f8
  have hE_0_2_1 : ∀ j : Int, 0 ≤ j → (j = v_iv (n_v vs 7) → w_ei ws (w_ar ws (n_v vs 0) 2) j = v_iv (n_v vs 8)) ∧ (j ≠ v_iv (n_v vs 7) → w_ei ws (w_ar ws (n_v vs 0) 2) j = w_ei w1 (w_ar ws (n_v vs 0) 2) j) := fun j hj => ⟨fun h => by unfold w_ei; rw [s1.1, if_pos ⟨ad_6.symm, by rw [h]⟩], fun h => by unfold w_ei; rw [s1.1, if_neg (fun e => h (by have := e.2; omega))]⟩
  have hE_0_3_1 : ∀ j : Int, w_ei ws (w_ar ws (n_v vs 0) 3) j = w_ei w1 (w_ar ws (n_v vs 0) 3) j := el_kp s1.1 r6 cr_0_3 (by decide)
  have hE_0_4_1 : ∀ j : Int, w_ei ws (w_ar ws (n_v vs 0) 4) j = w_ei w1 (w_ar ws (n_v vs 0) 4) j := el_kp s1.1 r6 cr_0_4 (by decide)
  have nf0 : fc_1 PRD (20, [2, 3, 9], [60, 0, 3, 236, 2, 3, 4]) ws (vs) := by
    refine ⟨nf_in hl rfl, sgq_544 ?_⟩
    · show CL2 (w_ei ws (w_ar ws (n_v vs 2) 2)) (w_ei ws (w_ar ws (n_v vs 2) 3)) (w_ei ws (w_ar ws (n_v vs 2) 4)) (v_iv (n_v vs 3)) (v_iv (n_v vs 9))
      simp only [q2, q3]
      exact vc_Mo_clear_2_0 (v_iv (n_v vs 1)) (v_iv (n_v vs 3)) (v_iv (n_v vs 4)) (v_iv (n_v vs 7)) (v_iv (n_v vs 8)) (v_iv (n_v vs 9)) (w_ei w1 (w_ar ws (n_v vs 0) 2)) (w_ei w1 (w_ar ws (n_v vs 0) 3)) (w_ei w1 (w_ar ws (n_v vs 0) 4)) (w_ei ws (w_ar ws (n_v vs 0) 2)) (w_ei ws (w_ar ws (n_v vs 0) 3)) (w_ei ws (w_ar ws (n_v vs 0) 4)) k1 k3 k4 k7 k8 k9 d0 d2 d4 d5 f0 f4 f7 hE_0_2_1 hE_0_3_1 hE_0_4_1
  have nf1 : fc_1 PRD (20, [2, 3, 9], [60, 0, 1, 1036, 2]) ws (vs) := by
    refine ⟨nf_in hl rfl, sgq_545 ?_⟩
    · show CLI (w_ei ws (w_ar ws (n_v vs 2) 2)) (v_iv (n_v vs 3)) (v_iv (n_v vs 9))
      simp only [q2, q3]
      exact vc_Mo_clear_2_1 (v_iv (n_v vs 1)) (v_iv (n_v vs 3)) (v_iv (n_v vs 4)) (v_iv (n_v vs 7)) (v_iv (n_v vs 8)) (v_iv (n_v vs 9)) (w_ei w1 (w_ar ws (n_v vs 0) 2)) (w_ei w1 (w_ar ws (n_v vs 0) 3)) (w_ei w1 (w_ar ws (n_v vs 0) 4)) (w_ei ws (w_ar ws (n_v vs 0) 2)) (w_ei ws (w_ar ws (n_v vs 0) 3)) (w_ei ws (w_ar ws (n_v vs 0) 4)) k1 k3 k4 k7 k8 k9 d0 d1 d4 d5 f0 f4 f8 hE_0_2_1 hE_0_3_1 hE_0_4_1
  refine ⟨(fun _ h => (by cases h)), [], trivial, ?_, (fun _ h => (by cases h))⟩
  rw [List.append_nil]
  exact List.forall_mem_cons.mpr ⟨⟨show (20 : Nat) < 100 from by decide, nf0⟩, List.forall_mem_cons.mpr ⟨⟨show (20 : Nat) < 100 from by decide, nf1⟩, (fun _ h => (by cases h))⟩⟩
def n_Mo_clear_an : List an_T := [(2, [(0, (2, 0, 0, [165])), (1, (5, 0, 66297, [539])), (2, (0, 0, 539, []))], [], (0, 0), [(0, 0, 99998), (1, 4, 539), (0, 0, 100000)], [(1, 3, (Int.negSucc 999999999999), 0), (3, 1, (Int.negSucc 999999999999), 0)], [], [(2, 0, 0, [165]), (5, 0, 66297, [539])], 0, [], [(20, [2, 3, 4], [60, 0, 3, 236, 2, 3, 4]), (20, [2, 3, 4], [60, 0, 1, 1036, 2]), (24, [0, 2], []), (24, [1, 3], [])])]
def t_Mo_clear_ct : ct_L := []
set_option maxRecDepth 100000 in
theorem c_Mo_clear_w {l : Launch} {D : va_G} {kA : Nat → ClassId} : ct_ok PRD l D kA GG y_Mo_clear z_Mo_clear e_Mo_clear := chk_all_ok (FT := [(16, 13, 2)]) (PT := []) (CT := t_Mo_clear_ct) (KT := []) (NT := []) (AN := n_Mo_clear_an) (OT := [o_Mo_clear_0, o_Mo_clear_1, o_Mo_clear_2]) 3 200 (List.forall_mem_cons.mpr ⟨oo_Mo_clear_0, List.forall_mem_cons.mpr ⟨oo_Mo_clear_1, List.forall_mem_cons.mpr ⟨oo_Mo_clear_2, List.forall_mem_nil _⟩⟩⟩) (by decide +kernel) ⟨List.forall_mem_cons.mpr ⟨gf_Mo_16, List.forall_mem_nil _⟩, List.forall_mem_nil _, List.forall_mem_nil _, List.forall_mem_nil _, List.forall_mem_nil _, GG_pl⟩ (by decide +kernel)

def o_Mo_closer_0 : or_T := (51, 14, [(0, (2, 0, 0, [165])), (1, (0, 0, 24, [])), (2, (0, 0, 24, [])), (3, (0, 0, 24, [])), (4, (0, 0, 24, [])), (5, (0, 0, 0, [])), (6, (0, 0, 80, [])), (7, (0, 0, 1, [])), (8, (0, 0, 24, [])), (9, (0, 0, 24, [])), (10, (0, -2, 26000060, [])), (11, (2, 0, 0, [192])), (12, (0, 0, 1000001, [])), (13, (0, 0, 1000001, []))], [(10, [13, 11, 2], []), (9, [11, 0], [48]), (10, [12, 11, 1], []), (8, [5], [0]), (8, [5], [0]), (20, [0, 3, 4, 5], [60, 3, 6, 124, 31, 32, 49, 33, 34, 43, 44, 42, 48]), (20, [0, 3, 4, 5, 6, 7, 8, 9], [60, 1, 6, 125, 49, 33, 34, 43, 44, 42, 48]), (20, [0, 7, 10], [60, 1, 1, 128, 31, 48]), (20, [0, 1, 2], [60, 2, 4, 121, 32, 49, 33, 34, 43, 44]), (20, [1, 0], [30, -1, 1, 0, 0, -1, 1, 31]), (20, [2, 0], [30, -1, 1, 0, 0, -1, 1, 31])], [(13, (0, 0, 1000000, []))], [], [], [], [])
theorem oo_Mo_closer_0 {kA : Nat → ClassId} : or_ok PRD kA GG o_Mo_closer_0 := by
  refine or_mk fun A ta ws vs hD hth hl => ?_
  intro t0 r0 t1 k1 t2 k2 t3 k3 t4 k4 t5 k5 t6 k6 t7 k7 t8 k8 t9 k9 t10 k10 t11 r11 t12 k12 t13 k13 f0 f1 f2 f3 f4 f5 f6 f7 f8 f9 f10
  replace f0 := shm_107 f0
  replace f1 := shm_548 f1
  replace f2 := shm_107 f2
  replace f3 := shm_192 f3
  replace f4 := shm_192 f4
  replace f5 := shm_549 f5
  replace f6 := shm_550 f6
  replace f7 := shm_551 f7
  replace f8 := shm_552 f8
  replace f9 := shm_553 f9
  replace f10 := shm_553 f10
  have cr_0_33 := fdq_117 hD hth r0
  have cr_0_34 := fdq_118 hD hth r0
  have cr_0_42 := fdq_136 hD hth r0
  have cr_0_43 := fdq_137 hD hth r0
  have cr_0_44 := fdq_138 hD hth r0
  have cr_0_48 := fdq_144 hD hth r0
  have ad_11 : v_ad (n_v vs 11) = w_ar ws (n_v vs 0) 48 := congrArg v_ad f1
  simp only [ad_11] at f0
  have h0 : v_iv (n_v vs 13) = w_ei ws (w_ar ws (n_v vs 0) 48) (v_iv (n_v vs 2)) := f0
  simp only [ad_11] at f2
  have h2 : v_iv (n_v vs 12) = w_ei ws (w_ar ws (n_v vs 0) 48) (v_iv (n_v vs 1)) := f2
  have br_0_48_1_0 : w_ei ws (w_ar ws (n_v vs 0) 48) (v_iv (n_v vs 1)) = w_el ws (w_ar ws (n_v vs 0) 48) (v_iv (n_v vs 1)).toNat := rfl
  have br_0_48_2_0 : w_ei ws (w_ar ws (n_v vs 0) 48) (v_iv (n_v vs 2)) = w_el ws (w_ar ws (n_v vs 0) 48) (v_iv (n_v vs 2)).toNat := rfl
  have hK_0_33 := elq_60 hD hth cr_0_33
  have hK_0_34 := elq_61 hD hth cr_0_34
  have hK_0_42 := elq_75 hD hth cr_0_42
  have hK_0_43 := elq_76 hD hth cr_0_43
  have hK_0_44 := elq_77 hD hth cr_0_44
  have hK_0_48 := elq_82 hD hth cr_0_48
  have kz_0_31 := fdq_145 hD hth r0
  have kz_0_32 := fdq_140 hD hth r0
  have kz_0_49 := fdq_146 hD hth r0
  first | have hR := tgi_rng (i := v_iv (n_v vs 2)) ‹TGI _ _ _ _ _ _ _ _ _ _ _ _› (by omega) (by omega) | skip
  have rf13 : tv_ok ta (0, 0, 1000000, []) (n_v vs 13) := tv_in t13 (by first | omega | grind) (by first | omega | grind)
  refine ⟨List.forall_mem_cons.mpr ⟨rf13, (fun _ h => (by cases h))⟩, [], trivial, ?_, (fun _ h => (by cases h))⟩
  rw [List.append_nil]
  exact (fun _ h => (by cases h))
def o_Mo_closer_1 : or_T := (69, 17, [(0, (2, 0, 0, [165])), (1, (0, 0, 24, [])), (2, (0, 0, 24, [])), (3, (0, 0, 24, [])), (4, (0, 0, 24, [])), (5, (0, 0, 0, [])), (6, (0, 0, 80, [])), (7, (0, 0, 1, [])), (8, (0, 0, 24, [])), (9, (0, 0, 24, [])), (10, (0, -2, 26000060, [])), (11, (2, 0, 0, [192])), (12, (0, 2, 1000001, [])), (13, (0, 0, 999999, [])), (14, (0, 1, 1, [])), (15, (0, 1, 1000000, [])), (16, (0, 0, 1000001, []))], [(10, [16, 11, 2], []), (9, [11, 0], [48]), (7, [12, 15], [4]), (1, [15, 13, 14], []), (10, [13, 11, 2], []), (10, [12, 11, 1], []), (8, [5], [0]), (8, [5], [0]), (20, [0, 3, 4, 5], [60, 3, 6, 124, 31, 32, 49, 33, 34, 43, 44, 42, 48]), (20, [0, 3, 4, 5, 6, 7, 8, 9], [60, 1, 6, 125, 49, 33, 34, 43, 44, 42, 48]), (20, [0, 7, 10], [60, 1, 1, 128, 31, 48]), (20, [0, 1, 2], [60, 2, 4, 121, 32, 49, 33, 34, 43, 44]), (20, [1, 0], [30, -1, 1, 0, 0, -1, 1, 31]), (20, [2, 0], [30, -1, 1, 0, 0, -1, 1, 31])], [(16, (0, 0, 1000000, []))], [], [], [], [(12, 15, 1, 4294967296), (15, 13, 1, 1)])
theorem oo_Mo_closer_1 {kA : Nat → ClassId} : or_ok PRD kA GG o_Mo_closer_1 := by
  refine or_mk fun A ta ws vs hD hth hl => ?_
  intro t0 r0 t1 k1 t2 k2 t3 k3 t4 k4 t5 k5 t6 k6 t7 k7 t8 k8 t9 k9 t10 k10 t11 r11 t12 k12 t13 k13 t14 k14 t15 k15 t16 k16 d0 d1 f0 f1 f2 f3 f4 f5 f6 f7 f8 f9 f10 f11 f12 f13
  replace f0 := shm_107 f0
  replace f1 := shm_548 f1
  replace f2 := shm_21 f2
  replace f3 := shm_12 f3
  replace f4 := shm_107 f4
  replace f5 := shm_107 f5
  replace f6 := shm_192 f6
  replace f7 := shm_192 f7
  replace f8 := shm_549 f8
  replace f9 := shm_550 f9
  replace f10 := shm_551 f10
  replace f11 := shm_552 f11
  replace f12 := shm_553 f12
  replace f13 := shm_553 f13
  have cr_0_33 := fdq_117 hD hth r0
  have cr_0_34 := fdq_118 hD hth r0
  have cr_0_42 := fdq_136 hD hth r0
  have cr_0_43 := fdq_137 hD hth r0
  have cr_0_44 := fdq_138 hD hth r0
  have cr_0_48 := fdq_144 hD hth r0
  have ad_11 : v_ad (n_v vs 11) = w_ar ws (n_v vs 0) 48 := congrArg v_ad f1
  simp only [ad_11] at f0
  have h0 : v_iv (n_v vs 16) = w_ei ws (w_ar ws (n_v vs 0) 48) (v_iv (n_v vs 2)) := f0
  simp only [ad_11] at f4
  have h4 : v_iv (n_v vs 13) = w_ei ws (w_ar ws (n_v vs 0) 48) (v_iv (n_v vs 2)) := f4
  simp only [ad_11] at f5
  have h5 : v_iv (n_v vs 12) = w_ei ws (w_ar ws (n_v vs 0) 48) (v_iv (n_v vs 1)) := f5
  have br_0_48_1_0 : w_ei ws (w_ar ws (n_v vs 0) 48) (v_iv (n_v vs 1)) = w_el ws (w_ar ws (n_v vs 0) 48) (v_iv (n_v vs 1)).toNat := rfl
  have br_0_48_2_0 : w_ei ws (w_ar ws (n_v vs 0) 48) (v_iv (n_v vs 2)) = w_el ws (w_ar ws (n_v vs 0) 48) (v_iv (n_v vs 2)).toNat := rfl
  have hK_0_33 := elq_60 hD hth cr_0_33
  have hK_0_34 := elq_61 hD hth cr_0_34
  have hK_0_42 := elq_75 hD hth cr_0_42
  have hK_0_43 := elq_76 hD hth cr_0_43
  have hK_0_44 := elq_77 hD hth cr_0_44
  have hK_0_48 := elq_82 hD hth cr_0_48
  have kz_0_31 := fdq_145 hD hth r0
  have kz_0_32 := fdq_140 hD hth r0
  have kz_0_49 := fdq_146 hD hth r0
  first | have hR := tgi_rng (i := v_iv (n_v vs 2)) ‹TGI _ _ _ _ _ _ _ _ _ _ _ _› (by omega) (by omega) | skip
  have rf16 : tv_ok ta (0, 0, 1000000, []) (n_v vs 16) := tv_in t16 (by first | omega | grind) (by first | omega | grind)
  refine ⟨List.forall_mem_cons.mpr ⟨rf16, (fun _ h => (by cases h))⟩, [], trivial, ?_, (fun _ h => (by cases h))⟩
  rw [List.append_nil]
  exact (fun _ h => (by cases h))
set_option maxHeartbeats 4000000 in
theorem vc_Mo_closer_2_0 (x1 : Int) (x2 : Int) (x3 : Int) (x4 : Int) (x5 : Int) (x6 : Int) (x7 : Int) (x8 : Int) (x9 : Int) (x10 : Int) (x12 : Int) (x13 : Int) (x14 : Int) (x15 : Int) (x16 : Int) (x17 : Int) (x18 : Int) (x19 : Int) (pt_0 : Int → Int) (ph_0 : Int → Int) (drawnEdge_0 : Int → Int) (pieceOf_0 : Int → Int) (pm_0 : Int) (onlyPiece_0 : Int) (pn_0 : Int) (toGoal_1 : Int → Int) (pt_1 : Int → Int) (ph_1 : Int → Int) (drawnEdge_1 : Int → Int) (pieceOf_1 : Int → Int) (drawnNode_1 : Int → Int) (pn_1 : Int) (pm_1 : Int) (onlyPiece_1 : Int) (drawnNode_0 : Int → Int) (toGoal_0 : Int → Int) (k1 : 0 ≤ x1 ∧ x1 ≤ 24) (k2 : 0 ≤ x2 ∧ x2 ≤ 24) (k3 : 0 ≤ x3 ∧ x3 ≤ 24) (k4 : 0 ≤ x4 ∧ x4 ≤ 24) (k5 : 0 ≤ x5 ∧ x5 ≤ 0) (k6 : 0 ≤ x6 ∧ x6 ≤ 80) (k7 : 0 ≤ x7 ∧ x7 ≤ 1) (k8 : 0 ≤ x8 ∧ x8 ≤ 24) (k9 : 0 ≤ x9 ∧ x9 ≤ 24) (k10 : (-2) ≤ x10 ∧ x10 ≤ 26000060) (k12 : 2 ≤ x12 ∧ x12 ≤ 1000001) (k13 : 0 ≤ x13 ∧ x13 ≤ 999999) (k14 : 1 ≤ x14 ∧ x14 ≤ 1) (k15 : 1 ≤ x15 ∧ x15 ≤ 1000000) (k16 : 0 ≤ x16 ∧ x16 ≤ 1000000) (k17 : 1 ≤ x17 ∧ x17 ≤ 1) (k18 : 1 ≤ x18 ∧ x18 ≤ 1000001) (k19 : 1 ≤ x19 ∧ x19 ≤ 1) (d0 : x16 + 1 ≤ x18 ∧ x18 ≤ x16 + 1) (d1 : x15 + 1 ≤ x12 ∧ x12 ≤ x15 + 4294967296) (d2 : x13 + 1 ≤ x15 ∧ x15 ≤ x13 + 1) (f0 : ARC (pm_0) (onlyPiece_0) (pt_0) (ph_0) (drawnEdge_0) (pieceOf_0) (x1) (x2)) (f1 : 1 * x1 + ((-1) * pn_0 + 0) ≤ (-1)) (f2 : 1 * x2 + ((-1) * pn_0 + 0) ≤ (-1)) (f4 : x18 = x16 + x17) (h5 : x16 = toGoal_1 (x2)) (f7 : x15 < x12) (f8 : x15 = x13 + x14) (h9 : x13 = toGoal_1 (x2)) (h10 : x12 = toGoal_1 (x1)) (f11 : x5 = 0) (f12 : x5 = 0) (f13 : TGI (pn_1) (pm_1) (onlyPiece_1) (pt_1) (ph_1) (drawnEdge_1) (pieceOf_1) (drawnNode_1) (toGoal_1) (x3) (x4) (x5)) (f14 : TG3 (onlyPiece_1) (pt_1) (ph_1) (drawnEdge_1) (pieceOf_1) (drawnNode_1) (toGoal_1) (x3) (x4) (x5) (x6) (x7) (x8) (x9)) (f15 : SMN (pn_1) (toGoal_1) (x7) (x10)) (f16 : ARC (pm_1) (onlyPiece_1) (pt_1) (ph_1) (drawnEdge_1) (pieceOf_1) (x1) (x2)) (f17 : 1 * x1 + ((-1) * pn_1 + 0) ≤ (-1)) (f18 : 1 * x2 + ((-1) * pn_1 + 0) ≤ (-1)) (fe_0_31_1 : pn_0 = pn_1) (fe_0_32_1 : pm_0 = pm_1) (fe_0_49_1 : onlyPiece_0 = onlyPiece_1) (hE_0_33_1 : ∀ j : Int, pt_0 j = pt_1 j) (hK_0_33 : ∀ j : Int, 0 ≤ j → j < 80 → 0 ≤ pt_0 j ∧ pt_0 j ≤ 24) (hE_0_34_1 : ∀ j : Int, ph_0 j = ph_1 j) (hK_0_34 : ∀ j : Int, 0 ≤ j → j < 80 → 0 ≤ ph_0 j ∧ ph_0 j ≤ 24) (hE_0_42_1 : ∀ j : Int, drawnNode_0 j = drawnNode_1 j) (hK_0_42 : ∀ j : Int, 0 ≤ j → j < 26 → 0 ≤ drawnNode_0 j ∧ drawnNode_0 j ≤ 1) (hE_0_43_1 : ∀ j : Int, drawnEdge_0 j = drawnEdge_1 j) (hK_0_43 : ∀ j : Int, 0 ≤ j → j < 80 → 0 ≤ drawnEdge_0 j ∧ drawnEdge_0 j ≤ 1) (hE_0_44_1 : ∀ j : Int, pieceOf_0 j = pieceOf_1 j) (hK_0_44 : ∀ j : Int, 0 ≤ j → j < 80 → (-1) ≤ pieceOf_0 j ∧ pieceOf_0 j ≤ 79) (hE_0_48_1 : ∀ j : Int, 0 ≤ j → (j = x1 → toGoal_0 j = x18) ∧ (j ≠ x1 → toGoal_0 j = toGoal_1 j)) (hK_0_48 : ∀ j : Int, 0 ≤ j → j < 26 → 0 ≤ toGoal_0 j ∧ toGoal_0 j ≤ 1000001) (kz_0_31 : 0 ≤ pn_0 ∧ pn_0 ≤ 25) (kz_0_32 : 0 ≤ pm_0 ∧ pm_0 ≤ 80) (kz_0_49 : (-1) ≤ onlyPiece_0 ∧ onlyPiece_0 ≤ 79) : TGI (pn_0) (pm_0) (onlyPiece_0) (pt_0) (ph_0) (drawnEdge_0) (pieceOf_0) (drawnNode_0) (toGoal_0) (x3) (x4) (x5) := by
  subst fe_0_31_1
  subst fe_0_32_1
  subst fe_0_49_1
  have e_hE_0_33_1 := funext hE_0_33_1; subst e_hE_0_33_1
  have e_hE_0_34_1 := funext hE_0_34_1; subst e_hE_0_34_1
  have e_hE_0_42_1 := funext hE_0_42_1; subst e_hE_0_42_1
  have e_hE_0_43_1 := funext hE_0_43_1; subst e_hE_0_43_1
  have e_hE_0_44_1 := funext hE_0_44_1; subst e_hE_0_44_1
  first
    | assumption
    | (refine tg_lower (i := x1) (j := x2) ‹TGI _ _ _ _ _ _ _ _ toGoal_1 _ _ _› (by omega) (by omega) (by omega) (by omega) ‹ARC _ _ _ _ _ _ x1 x2› ?_ ?_ (fun y a b => (hE_0_48_1 y a).2 b) ?_ (by omega)
       · exact ⟨by first | exact Or.inl (by omega) | exact Or.inr (Or.inl (by omega)) | exact Or.inr (Or.inr (by omega)), by first | exact Or.inl (by omega) | exact Or.inr (Or.inl (by omega)) | exact Or.inr (Or.inr (by omega))⟩
       · omega
       · rw [(hE_0_48_1 x1 (by omega)).1 rfl]; omega)
set_option maxHeartbeats 4000000 in
theorem vc_Mo_closer_2_1 (x1 : Int) (x2 : Int) (x3 : Int) (x4 : Int) (x5 : Int) (x6 : Int) (x7 : Int) (x8 : Int) (x9 : Int) (x10 : Int) (x12 : Int) (x13 : Int) (x14 : Int) (x15 : Int) (x16 : Int) (x17 : Int) (x18 : Int) (x19 : Int) (pt_0 : Int → Int) (ph_0 : Int → Int) (drawnEdge_0 : Int → Int) (pieceOf_0 : Int → Int) (pm_0 : Int) (onlyPiece_0 : Int) (pn_0 : Int) (toGoal_1 : Int → Int) (pt_1 : Int → Int) (ph_1 : Int → Int) (drawnEdge_1 : Int → Int) (pieceOf_1 : Int → Int) (drawnNode_1 : Int → Int) (pn_1 : Int) (pm_1 : Int) (onlyPiece_1 : Int) (drawnNode_0 : Int → Int) (toGoal_0 : Int → Int) (k1 : 0 ≤ x1 ∧ x1 ≤ 24) (k2 : 0 ≤ x2 ∧ x2 ≤ 24) (k3 : 0 ≤ x3 ∧ x3 ≤ 24) (k4 : 0 ≤ x4 ∧ x4 ≤ 24) (k5 : 0 ≤ x5 ∧ x5 ≤ 0) (k6 : 0 ≤ x6 ∧ x6 ≤ 80) (k7 : 0 ≤ x7 ∧ x7 ≤ 1) (k8 : 0 ≤ x8 ∧ x8 ≤ 24) (k9 : 0 ≤ x9 ∧ x9 ≤ 24) (k10 : (-2) ≤ x10 ∧ x10 ≤ 26000060) (k12 : 2 ≤ x12 ∧ x12 ≤ 1000001) (k13 : 0 ≤ x13 ∧ x13 ≤ 999999) (k14 : 1 ≤ x14 ∧ x14 ≤ 1) (k15 : 1 ≤ x15 ∧ x15 ≤ 1000000) (k16 : 0 ≤ x16 ∧ x16 ≤ 1000000) (k17 : 1 ≤ x17 ∧ x17 ≤ 1) (k18 : 1 ≤ x18 ∧ x18 ≤ 1000001) (k19 : 1 ≤ x19 ∧ x19 ≤ 1) (d0 : x16 + 1 ≤ x18 ∧ x18 ≤ x16 + 1) (d1 : x15 + 1 ≤ x12 ∧ x12 ≤ x15 + 4294967296) (d2 : x13 + 1 ≤ x15 ∧ x15 ≤ x13 + 1) (f0 : ARC (pm_0) (onlyPiece_0) (pt_0) (ph_0) (drawnEdge_0) (pieceOf_0) (x1) (x2)) (f1 : 1 * x1 + ((-1) * pn_0 + 0) ≤ (-1)) (f2 : 1 * x2 + ((-1) * pn_0 + 0) ≤ (-1)) (f4 : x18 = x16 + x17) (h5 : x16 = toGoal_1 (x2)) (f7 : x15 < x12) (f8 : x15 = x13 + x14) (h9 : x13 = toGoal_1 (x2)) (h10 : x12 = toGoal_1 (x1)) (f11 : x5 = 0) (f12 : x5 = 0) (f13 : TGI (pn_1) (pm_1) (onlyPiece_1) (pt_1) (ph_1) (drawnEdge_1) (pieceOf_1) (drawnNode_1) (toGoal_1) (x3) (x4) (x5)) (f14 : TG3 (onlyPiece_1) (pt_1) (ph_1) (drawnEdge_1) (pieceOf_1) (drawnNode_1) (toGoal_1) (x3) (x4) (x5) (x6) (x7) (x8) (x9)) (f15 : SMN (pn_1) (toGoal_1) (x7) (x10)) (f16 : ARC (pm_1) (onlyPiece_1) (pt_1) (ph_1) (drawnEdge_1) (pieceOf_1) (x1) (x2)) (f17 : 1 * x1 + ((-1) * pn_1 + 0) ≤ (-1)) (f18 : 1 * x2 + ((-1) * pn_1 + 0) ≤ (-1)) (fe_0_31_1 : pn_0 = pn_1) (fe_0_32_1 : pm_0 = pm_1) (fe_0_49_1 : onlyPiece_0 = onlyPiece_1) (hE_0_33_1 : ∀ j : Int, pt_0 j = pt_1 j) (hK_0_33 : ∀ j : Int, 0 ≤ j → j < 80 → 0 ≤ pt_0 j ∧ pt_0 j ≤ 24) (hE_0_34_1 : ∀ j : Int, ph_0 j = ph_1 j) (hK_0_34 : ∀ j : Int, 0 ≤ j → j < 80 → 0 ≤ ph_0 j ∧ ph_0 j ≤ 24) (hE_0_42_1 : ∀ j : Int, drawnNode_0 j = drawnNode_1 j) (hK_0_42 : ∀ j : Int, 0 ≤ j → j < 26 → 0 ≤ drawnNode_0 j ∧ drawnNode_0 j ≤ 1) (hE_0_43_1 : ∀ j : Int, drawnEdge_0 j = drawnEdge_1 j) (hK_0_43 : ∀ j : Int, 0 ≤ j → j < 80 → 0 ≤ drawnEdge_0 j ∧ drawnEdge_0 j ≤ 1) (hE_0_44_1 : ∀ j : Int, pieceOf_0 j = pieceOf_1 j) (hK_0_44 : ∀ j : Int, 0 ≤ j → j < 80 → (-1) ≤ pieceOf_0 j ∧ pieceOf_0 j ≤ 79) (hE_0_48_1 : ∀ j : Int, 0 ≤ j → (j = x1 → toGoal_0 j = x18) ∧ (j ≠ x1 → toGoal_0 j = toGoal_1 j)) (hK_0_48 : ∀ j : Int, 0 ≤ j → j < 26 → 0 ≤ toGoal_0 j ∧ toGoal_0 j ≤ 1000001) (kz_0_31 : 0 ≤ pn_0 ∧ pn_0 ≤ 25) (kz_0_32 : 0 ≤ pm_0 ∧ pm_0 ≤ 80) (kz_0_49 : (-1) ≤ onlyPiece_0 ∧ onlyPiece_0 ≤ 79) : CLO (pn_0) (onlyPiece_0) (pt_0) (ph_0) (drawnEdge_0) (pieceOf_0) (drawnNode_0) (toGoal_0) (x1) (x2) (x3) (x4) (x5) (x6) (x7) (x8) (x9) (x10) (x19) := by
  subst fe_0_31_1
  subst fe_0_32_1
  subst fe_0_49_1
  have e_hE_0_33_1 := funext hE_0_33_1; subst e_hE_0_33_1
  have e_hE_0_34_1 := funext hE_0_34_1; subst e_hE_0_34_1
  have e_hE_0_42_1 := funext hE_0_42_1; subst e_hE_0_42_1
  have e_hE_0_43_1 := funext hE_0_43_1; subst e_hE_0_43_1
  have e_hE_0_44_1 := funext hE_0_44_1; subst e_hE_0_44_1
  first
    | (refine ⟨fun _ => ⟨‹TG3 _ _ _ _ _ _ _ _ _ _ _ _ _ _›, fun hc => ?_, ‹SMN _ _ _ _›⟩, fun h => absurd (by omega) h⟩
       first
         | omega
         | (exfalso; unfold cnd at hc; omega))
    | (refine ⟨fun h => absurd h (by omega), fun _ => ?_⟩
       have hS := ‹SMN _ _ _ _›
       unfold SMN at hS
       have v1 := (hE_0_48_1 x1 (by omega)).1 rfl
       have := smlt (n := pn_0) (f := toGoal_0) (g := toGoal_1) (i := x1) (by omega) (by omega) (fun j a b => by
         by_cases q : j = x1
         · rw [q]; omega
         · rw [(hE_0_48_1 j a).2 q]; exact Int.le_refl _) (by omega)
       omega)
def o_Mo_closer_2 : or_T := (73, 20, [(0, (2, 0, 0, [165])), (1, (0, 0, 24, [])), (2, (0, 0, 24, [])), (3, (0, 0, 24, [])), (4, (0, 0, 24, [])), (5, (0, 0, 0, [])), (6, (0, 0, 80, [])), (7, (0, 0, 1, [])), (8, (0, 0, 24, [])), (9, (0, 0, 24, [])), (10, (0, -2, 26000060, [])), (11, (2, 0, 0, [192])), (12, (0, 2, 1000001, [])), (13, (0, 0, 999999, [])), (14, (0, 1, 1, [])), (15, (0, 1, 1000000, [])), (16, (0, 0, 1000000, [])), (17, (0, 1, 1, [])), (18, (0, 1, 1000001, [])), (19, (0, 1, 1, []))], [(20, [0, 1, 2], [60, 2, 4, 121, 32, 49, 33, 34, 43, 44]), (20, [1, 0], [30, -1, 1, 0, 0, -1, 1, 31]), (20, [2, 0], [30, -1, 1, 0, 0, -1, 1, 31]), (100, [11, 1, 18], []), (1, [18, 16, 17], []), (10, [16, 11, 2], []), (9, [11, 0], [48]), (7, [12, 15], [4]), (1, [15, 13, 14], []), (10, [13, 11, 2], []), (10, [12, 11, 1], []), (8, [5], [0]), (8, [5], [0]), (20, [0, 3, 4, 5], [60, 3, 6, 124, 31, 32, 49, 33, 34, 43, 44, 42, 48]), (20, [0, 3, 4, 5, 6, 7, 8, 9], [60, 1, 6, 125, 49, 33, 34, 43, 44, 42, 48]), (20, [0, 7, 10], [60, 1, 1, 128, 31, 48]), (20, [0, 1, 2], [60, 2, 4, 121, 32, 49, 33, 34, 43, 44]), (20, [1, 0], [30, -1, 1, 0, 0, -1, 1, 31]), (20, [2, 0], [30, -1, 1, 0, 0, -1, 1, 31])], [], [], [(20, [0, 3, 4, 5], [60, 3, 6, 124, 31, 32, 49, 33, 34, 43, 44, 42, 48]), (20, [0, 1, 2, 3, 4, 5, 6, 7, 8, 9, 10, 19], [60, 2, 6, 129, 31, 49, 33, 34, 43, 44, 42, 48])], [], [(18, 16, 1, 1), (12, 15, 1, 4294967296), (15, 13, 1, 1)])
theorem oo_Mo_closer_2 {kA : Nat → ClassId} : or_ok PRD kA GG o_Mo_closer_2 := by
  refine or_mk fun A ta ws vs hD hth hl => ?_
  intro t0 r0 t1 k1 t2 k2 t3 k3 t4 k4 t5 k5 t6 k6 t7 k7 t8 k8 t9 k9 t10 k10 t11 r11 t12 k12 t13 k13 t14 k14 t15 k15 t16 k16 t17 k17 t18 k18 t19 k19 d0 d1 d2 f0 f1 f2 ta1 w1 le1 s1 f4 f5 f6 f7 f8 f9 f10 f11 f12 f13 f14 f15 f16 f17 f18
  have s1 : (∀ b j, w_el ws b j = if b = v_ad (n_v vs 11) ∧ j = (v_iv (n_v vs 1)).toNat then v_iv (n_v vs 18) else w_el w1 b j) ∧ ∀ b k, w_fd ws b k = w_fd w1 b k := s1.2
  replace f5 := shm_107 f5
  replace f6 := shm_548 f6
  replace f9 := shm_107 f9
  replace f10 := shm_107 f10
  replace f13 := shm_549 f13
  replace f14 := shm_550 f14
  replace f15 := shm_551 f15
  replace f16 := shm_552 f16
  have ar_0_33_1 : w_ar w1 (n_v vs 0) 33 = w_ar ws (n_v vs 0) 33 := congrArg v_ad (s1.2 _ _).symm
  have cr_0_33 := fdq_117 hD hth r0
  have ar_0_34_1 : w_ar w1 (n_v vs 0) 34 = w_ar ws (n_v vs 0) 34 := congrArg v_ad (s1.2 _ _).symm
  have cr_0_34 := fdq_118 hD hth r0
  have ar_0_42_1 : w_ar w1 (n_v vs 0) 42 = w_ar ws (n_v vs 0) 42 := congrArg v_ad (s1.2 _ _).symm
  have cr_0_42 := fdq_136 hD hth r0
  have ar_0_43_1 : w_ar w1 (n_v vs 0) 43 = w_ar ws (n_v vs 0) 43 := congrArg v_ad (s1.2 _ _).symm
  have cr_0_43 := fdq_137 hD hth r0
  have ar_0_44_1 : w_ar w1 (n_v vs 0) 44 = w_ar ws (n_v vs 0) 44 := congrArg v_ad (s1.2 _ _).symm
  have cr_0_44 := fdq_138 hD hth r0
  have ar_0_48_1 : w_ar w1 (n_v vs 0) 48 = w_ar ws (n_v vs 0) 48 := congrArg v_ad (s1.2 _ _).symm
  have cr_0_48 := fdq_144 hD hth r0
  have ad_11 : v_ad (n_v vs 11) = w_ar ws (n_v vs 0) 48 := (congrArg v_ad f6).trans ar_0_48_1
  simp only [ad_11] at f5
  have h5 : v_iv (n_v vs 16) = w_ei w1 (w_ar ws (n_v vs 0) 48) (v_iv (n_v vs 2)) := f5
  simp only [ad_11] at f9
  have h9 : v_iv (n_v vs 13) = w_ei w1 (w_ar ws (n_v vs 0) 48) (v_iv (n_v vs 2)) := f9
  simp only [ad_11] at f10
  have h10 : v_iv (n_v vs 12) = w_ei w1 (w_ar ws (n_v vs 0) 48) (v_iv (n_v vs 1)) := f10
  simp only [ar_0_33_1, ar_0_34_1, ar_0_42_1, ar_0_43_1, ar_0_44_1, ar_0_48_1] at f13 f14 f15 f16
  have fe_0_31_1 : w_fi ws (n_v vs 0) 31 = w_fi w1 (n_v vs 0) 31 := congrArg v_iv (s1.2 _ _)
  have fe_0_32_1 : w_fi ws (n_v vs 0) 32 = w_fi w1 (n_v vs 0) 32 := congrArg v_iv (s1.2 _ _)
  have fe_0_49_1 : w_fi ws (n_v vs 0) 49 = w_fi w1 (n_v vs 0) 49 := congrArg v_iv (s1.2 _ _)
  have hE_0_33_1 : ∀ j : Int, w_ei ws (w_ar ws (n_v vs 0) 33) j = w_ei w1 (w_ar ws (n_v vs 0) 33) j := el_kp s1.1 r11 cr_0_33 (by decide)
  have hK_0_33 := elq_60 hD hth cr_0_33
  have hE_0_34_1 : ∀ j : Int, w_ei ws (w_ar ws (n_v vs 0) 34) j = w_ei w1 (w_ar ws (n_v vs 0) 34) j := el_kp s1.1 r11 cr_0_34 (by decide)
  have hK_0_34 := elq_61 hD hth cr_0_34
  have hE_0_42_1 : ∀ j : Int, w_ei ws (w_ar ws (n_v vs 0) 42) j = w_ei w1 (w_ar ws (n_v vs 0) 42) j := el_kp s1.1 r11 cr_0_42 (by decide)
  have hK_0_42 := elq_75 hD hth cr_0_42
  have hE_0_43_1 : ∀ j : Int, w_ei ws (w_ar ws (n_v vs 0) 43) j = w_ei w1 (w_ar ws (n_v vs 0) 43) j := el_kp s1.1 r11 cr_0_43 (by decide)
  have hK_0_43 := elq_76 hD hth cr_0_43
  have hE_0_44_1 : ∀ j : Int, w_ei ws (w_ar ws (n_v vs 0) 44) j = w_ei w1 (w_ar ws (n_v vs 0) 44) j := el_kp s1.1 r11 cr_0_44 (by decide)
  have hK_0_44 := elq_77 hD hth cr_0_44
  have hE_0_48_1 : ∀ j : Int, 0 ≤ j → (j = v_iv (n_v vs 1) → w_ei ws (w_ar ws (n_v vs 0) 48) j = v_iv (n_v vs 18)) ∧ (j ≠ v_iv (n_v vs 1) → w_ei ws (w_ar ws (n_v vs 0) 48) j = w_ei w1 (w_ar ws (n_v vs 0) 48) j) := fun j hj => ⟨fun h => by unfold w_ei; rw [s1.1, if_pos ⟨ad_11.symm, by rw [h]⟩], fun h => by unfold w_ei; rw [s1.1, if_neg (fun e => h (by have := e.2; omega))]⟩
  have hK_0_48 := elq_82 hD hth cr_0_48
  have kz_0_31 := fdq_145 hD hth r0
  have kz_0_32 := fdq_140 hD hth r0
  have kz_0_49 := fdq_146 hD hth r0
  have nf0 : fc_1 PRD (20, [0, 3, 4, 5], [60, 3, 6, 124, 31, 32, 49, 33, 34, 43, 44, 42, 48]) ws (vs) := ⟨nf_in hl rfl, sgq_549 (vc_Mo_closer_2_0 (v_iv (n_v vs 1)) (v_iv (n_v vs 2)) (v_iv (n_v vs 3)) (v_iv (n_v vs 4)) (v_iv (n_v vs 5)) (v_iv (n_v vs 6)) (v_iv (n_v vs 7)) (v_iv (n_v vs 8)) (v_iv (n_v vs 9)) (v_iv (n_v vs 10)) (v_iv (n_v vs 12)) (v_iv (n_v vs 13)) (v_iv (n_v vs 14)) (v_iv (n_v vs 15)) (v_iv (n_v vs 16)) (v_iv (n_v vs 17)) (v_iv (n_v vs 18)) (v_iv (n_v vs 19)) (w_ei ws (w_ar ws (n_v vs 0) 33)) (w_ei ws (w_ar ws (n_v vs 0) 34)) (w_ei ws (w_ar ws (n_v vs 0) 43)) (w_ei ws (w_ar ws (n_v vs 0) 44)) (w_fi ws (n_v vs 0) 32) (w_fi ws (n_v vs 0) 49) (w_fi ws (n_v vs 0) 31) (w_ei w1 (w_ar ws (n_v vs 0) 48)) (w_ei w1 (w_ar ws (n_v vs 0) 33)) (w_ei w1 (w_ar ws (n_v vs 0) 34)) (w_ei w1 (w_ar ws (n_v vs 0) 43)) (w_ei w1 (w_ar ws (n_v vs 0) 44)) (w_ei w1 (w_ar ws (n_v vs 0) 42)) (w_fi w1 (n_v vs 0) 31) (w_fi w1 (n_v vs 0) 32) (w_fi w1 (n_v vs 0) 49) (w_ei ws (w_ar ws (n_v vs 0) 42)) (w_ei ws (w_ar ws (n_v vs 0) 48)) k1 k2 k3 k4 k5 k6 k7 k8 k9 k10 k12 k13 k14 k15 k16 k17 k18 k19 d0 d1 d2 (shm_552 f0) (shm_553 f1) (shm_553 f2) (shm_12 f4) h5 (shm_21 f7) (shm_12 f8) h9 h10 (shm_192 f11) (shm_192 f12) f13 f14 f15 f16 (shm_553 f17) (shm_553 f18) fe_0_31_1 fe_0_32_1 fe_0_49_1 hE_0_33_1 hK_0_33 hE_0_34_1 hK_0_34 hE_0_42_1 hK_0_42 hE_0_43_1 hK_0_43 hE_0_44_1 hK_0_44 hE_0_48_1 hK_0_48 kz_0_31 kz_0_32 kz_0_49)⟩
  have nf1 : fc_1 PRD (20, [0, 1, 2, 3, 4, 5, 6, 7, 8, 9, 10, 19], [60, 2, 6, 129, 31, 49, 33, 34, 43, 44, 42, 48]) ws (vs) := ⟨nf_in hl rfl, sgq_554 (vc_Mo_closer_2_1 (v_iv (n_v vs 1)) (v_iv (n_v vs 2)) (v_iv (n_v vs 3)) (v_iv (n_v vs 4)) (v_iv (n_v vs 5)) (v_iv (n_v vs 6)) (v_iv (n_v vs 7)) (v_iv (n_v vs 8)) (v_iv (n_v vs 9)) (v_iv (n_v vs 10)) (v_iv (n_v vs 12)) (v_iv (n_v vs 13)) (v_iv (n_v vs 14)) (v_iv (n_v vs 15)) (v_iv (n_v vs 16)) (v_iv (n_v vs 17)) (v_iv (n_v vs 18)) (v_iv (n_v vs 19)) (w_ei ws (w_ar ws (n_v vs 0) 33)) (w_ei ws (w_ar ws (n_v vs 0) 34)) (w_ei ws (w_ar ws (n_v vs 0) 43)) (w_ei ws (w_ar ws (n_v vs 0) 44)) (w_fi ws (n_v vs 0) 32) (w_fi ws (n_v vs 0) 49) (w_fi ws (n_v vs 0) 31) (w_ei w1 (w_ar ws (n_v vs 0) 48)) (w_ei w1 (w_ar ws (n_v vs 0) 33)) (w_ei w1 (w_ar ws (n_v vs 0) 34)) (w_ei w1 (w_ar ws (n_v vs 0) 43)) (w_ei w1 (w_ar ws (n_v vs 0) 44)) (w_ei w1 (w_ar ws (n_v vs 0) 42)) (w_fi w1 (n_v vs 0) 31) (w_fi w1 (n_v vs 0) 32) (w_fi w1 (n_v vs 0) 49) (w_ei ws (w_ar ws (n_v vs 0) 42)) (w_ei ws (w_ar ws (n_v vs 0) 48)) k1 k2 k3 k4 k5 k6 k7 k8 k9 k10 k12 k13 k14 k15 k16 k17 k18 k19 d0 d1 d2 (shm_552 f0) (shm_553 f1) (shm_553 f2) (shm_12 f4) h5 (shm_21 f7) (shm_12 f8) h9 h10 (shm_192 f11) (shm_192 f12) f13 f14 f15 f16 (shm_553 f17) (shm_553 f18) fe_0_31_1 fe_0_32_1 fe_0_49_1 hE_0_33_1 hK_0_33 hE_0_34_1 hK_0_34 hE_0_42_1 hK_0_42 hE_0_43_1 hK_0_43 hE_0_44_1 hK_0_44 hE_0_48_1 hK_0_48 kz_0_31 kz_0_32 kz_0_49)⟩
  refine ⟨(fun _ h => (by cases h)), [], trivial, ?_, (fun _ h => (by cases h))⟩
  rw [List.append_nil]
  exact List.forall_mem_cons.mpr ⟨⟨show (20 : Nat) < 100 from by decide, nf0⟩, List.forall_mem_cons.mpr ⟨⟨show (20 : Nat) < 100 from by decide, nf1⟩, (fun _ h => (by cases h))⟩⟩
set_option maxHeartbeats 4000000 in
theorem vc_Mo_closer_3_0 (x1 : Int) (x2 : Int) (x3 : Int) (x4 : Int) (x5 : Int) (x6 : Int) (x7 : Int) (x8 : Int) (x9 : Int) (x10 : Int) (x12 : Int) (x13 : Int) (x14 : Int) (x15 : Int) (x16 : Int) (toGoal_0 : Int → Int) (pt_0 : Int → Int) (ph_0 : Int → Int) (drawnEdge_0 : Int → Int) (pieceOf_0 : Int → Int) (drawnNode_0 : Int → Int) (pn_0 : Int) (pm_0 : Int) (onlyPiece_0 : Int) (k1 : 0 ≤ x1 ∧ x1 ≤ 24) (k2 : 0 ≤ x2 ∧ x2 ≤ 24) (k3 : 0 ≤ x3 ∧ x3 ≤ 24) (k4 : 0 ≤ x4 ∧ x4 ≤ 24) (k5 : 0 ≤ x5 ∧ x5 ≤ 0) (k6 : 0 ≤ x6 ∧ x6 ≤ 80) (k7 : 0 ≤ x7 ∧ x7 ≤ 1) (k8 : 0 ≤ x8 ∧ x8 ≤ 24) (k9 : 0 ≤ x9 ∧ x9 ≤ 24) (k10 : (-2) ≤ x10 ∧ x10 ≤ 26000060) (k12 : 0 ≤ x12 ∧ x12 ≤ 1000001) (k13 : 0 ≤ x13 ∧ x13 ≤ 1000000) (k14 : 1 ≤ x14 ∧ x14 ≤ 1) (k15 : 1 ≤ x15 ∧ x15 ≤ 1000001) (k16 : 0 ≤ x16 ∧ x16 ≤ 0) (d0 : x15 + (-4294967296) ≤ x12 ∧ x12 ≤ x15 + 0) (d1 : x13 + 1 ≤ x15 ∧ x15 ≤ x13 + 1) (f0 : x12 ≤ x15) (f1 : x15 = x13 + x14) (h2 : x13 = toGoal_0 (x2)) (h4 : x12 = toGoal_0 (x1)) (f5 : x5 = 0) (f6 : x5 = 0) (f7 : TGI (pn_0) (pm_0) (onlyPiece_0) (pt_0) (ph_0) (drawnEdge_0) (pieceOf_0) (drawnNode_0) (toGoal_0) (x3) (x4) (x5)) (f8 : TG3 (onlyPiece_0) (pt_0) (ph_0) (drawnEdge_0) (pieceOf_0) (drawnNode_0) (toGoal_0) (x3) (x4) (x5) (x6) (x7) (x8) (x9)) (f9 : SMN (pn_0) (toGoal_0) (x7) (x10)) (f10 : ARC (pm_0) (onlyPiece_0) (pt_0) (ph_0) (drawnEdge_0) (pieceOf_0) (x1) (x2)) (f11 : 1 * x1 + ((-1) * pn_0 + 0) ≤ (-1)) (f12 : 1 * x2 + ((-1) * pn_0 + 0) ≤ (-1)) (hK_0_33 : ∀ j : Int, 0 ≤ j → j < 80 → 0 ≤ pt_0 j ∧ pt_0 j ≤ 24) (hK_0_34 : ∀ j : Int, 0 ≤ j → j < 80 → 0 ≤ ph_0 j ∧ ph_0 j ≤ 24) (hK_0_42 : ∀ j : Int, 0 ≤ j → j < 26 → 0 ≤ drawnNode_0 j ∧ drawnNode_0 j ≤ 1) (hK_0_43 : ∀ j : Int, 0 ≤ j → j < 80 → 0 ≤ drawnEdge_0 j ∧ drawnEdge_0 j ≤ 1) (hK_0_44 : ∀ j : Int, 0 ≤ j → j < 80 → (-1) ≤ pieceOf_0 j ∧ pieceOf_0 j ≤ 79) (hK_0_48 : ∀ j : Int, 0 ≤ j → j < 26 → 0 ≤ toGoal_0 j ∧ toGoal_0 j ≤ 1000001) (kz_0_31 : 0 ≤ pn_0 ∧ pn_0 ≤ 25) (kz_0_32 : 0 ≤ pm_0 ∧ pm_0 ≤ 80) (kz_0_49 : (-1) ≤ onlyPiece_0 ∧ onlyPiece_0 ≤ 79) : CLO (pn_0) (onlyPiece_0) (pt_0) (ph_0) (drawnEdge_0) (pieceOf_0) (drawnNode_0) (toGoal_0) (x1) (x2) (x3) (x4) (x5) (x6) (x7) (x8) (x9) (x10) (x16) := by
  first
    | (refine ⟨fun _ => ⟨‹TG3 _ _ _ _ _ _ _ _ _ _ _ _ _ _›, fun hc => ?_, ‹SMN _ _ _ _›⟩, fun h => absurd (by omega) h⟩
       first
         | omega
         | (exfalso; unfold cnd at hc; omega))
    | (refine ⟨fun h => absurd h (by omega), fun _ => ?_⟩
       have hS := ‹SMN _ _ _ _›
       unfold SMN at hS
       have v1 := (hE_0_48_1 x1 (by omega)).1 rfl
       have := smlt (n := pn_0) (f := toGoal_0) (g := toGoal_1) (i := x1) (by omega) (by omega) (fun j a b => by
         by_cases q : j = x1
         · rw [q]; omega
         · rw [(hE_0_48_1 j a).2 q]; exact Int.le_refl _) (by omega)
       omega)
def o_Mo_closer_3 : or_T := (57, 17, [(0, (2, 0, 0, [165])), (1, (0, 0, 24, [])), (2, (0, 0, 24, [])), (3, (0, 0, 24, [])), (4, (0, 0, 24, [])), (5, (0, 0, 0, [])), (6, (0, 0, 80, [])), (7, (0, 0, 1, [])), (8, (0, 0, 24, [])), (9, (0, 0, 24, [])), (10, (0, -2, 26000060, [])), (11, (2, 0, 0, [192])), (12, (0, 0, 1000001, [])), (13, (0, 0, 1000000, [])), (14, (0, 1, 1, [])), (15, (0, 1, 1000001, [])), (16, (0, 0, 0, []))], [(7, [12, 15], [5]), (1, [15, 13, 14], []), (10, [13, 11, 2], []), (9, [11, 0], [48]), (10, [12, 11, 1], []), (8, [5], [0]), (8, [5], [0]), (20, [0, 3, 4, 5], [60, 3, 6, 124, 31, 32, 49, 33, 34, 43, 44, 42, 48]), (20, [0, 3, 4, 5, 6, 7, 8, 9], [60, 1, 6, 125, 49, 33, 34, 43, 44, 42, 48]), (20, [0, 7, 10], [60, 1, 1, 128, 31, 48]), (20, [0, 1, 2], [60, 2, 4, 121, 32, 49, 33, 34, 43, 44]), (20, [1, 0], [30, -1, 1, 0, 0, -1, 1, 31]), (20, [2, 0], [30, -1, 1, 0, 0, -1, 1, 31])], [], [], [(20, [0, 1, 2, 3, 4, 5, 6, 7, 8, 9, 10, 16], [60, 2, 6, 129, 31, 49, 33, 34, 43, 44, 42, 48])], [], [(12, 15, -4294967296, 0), (15, 13, 1, 1)])
theorem oo_Mo_closer_3 {kA : Nat → ClassId} : or_ok PRD kA GG o_Mo_closer_3 := by
  refine or_mk fun A ta ws vs hD hth hl => ?_
  intro t0 r0 t1 k1 t2 k2 t3 k3 t4 k4 t5 k5 t6 k6 t7 k7 t8 k8 t9 k9 t10 k10 t11 r11 t12 k12 t13 k13 t14 k14 t15 k15 t16 k16 d0 d1 f0 f1 f2 f3 f4 f5 f6 f7 f8 f9 f10 f11 f12
  replace f2 := shm_107 f2
  replace f3 := shm_548 f3
  replace f4 := shm_107 f4
  have cr_0_33 := fdq_117 hD hth r0
  have cr_0_34 := fdq_118 hD hth r0
  have cr_0_42 := fdq_136 hD hth r0
  have cr_0_43 := fdq_137 hD hth r0
  have cr_0_44 := fdq_138 hD hth r0
  have cr_0_48 := fdq_144 hD hth r0
  have ad_11 : v_ad (n_v vs 11) = w_ar ws (n_v vs 0) 48 := congrArg v_ad f3
  simp only [ad_11] at f2
  have h2 : v_iv (n_v vs 13) = w_ei ws (w_ar ws (n_v vs 0) 48) (v_iv (n_v vs 2)) := f2
  simp only [ad_11] at f4
  have h4 : v_iv (n_v vs 12) = w_ei ws (w_ar ws (n_v vs 0) 48) (v_iv (n_v vs 1)) := f4
  have hK_0_33 := elq_60 hD hth cr_0_33
  have hK_0_34 := elq_61 hD hth cr_0_34
  have hK_0_42 := elq_75 hD hth cr_0_42
  have hK_0_43 := elq_76 hD hth cr_0_43
  have hK_0_44 := elq_77 hD hth cr_0_44
  have hK_0_48 := elq_82 hD hth cr_0_48
  have kz_0_31 := fdq_145 hD hth r0
  have kz_0_32 := fdq_140 hD hth r0
  have kz_0_49 := fdq_146 hD hth r0
  have nf0 : fc_1 PRD (20, [0, 1, 2, 3, 4, 5, 6, 7, 8, 9, 10, 16], [60, 2, 6, 129, 31, 49, 33, 34, 43, 44, 42, 48]) ws (vs) := ⟨nf_in hl rfl, sgq_554 (vc_Mo_closer_3_0 (v_iv (n_v vs 1)) (v_iv (n_v vs 2)) (v_iv (n_v vs 3)) (v_iv (n_v vs 4)) (v_iv (n_v vs 5)) (v_iv (n_v vs 6)) (v_iv (n_v vs 7)) (v_iv (n_v vs 8)) (v_iv (n_v vs 9)) (v_iv (n_v vs 10)) (v_iv (n_v vs 12)) (v_iv (n_v vs 13)) (v_iv (n_v vs 14)) (v_iv (n_v vs 15)) (v_iv (n_v vs 16)) (w_ei ws (w_ar ws (n_v vs 0) 48)) (w_ei ws (w_ar ws (n_v vs 0) 33)) (w_ei ws (w_ar ws (n_v vs 0) 34)) (w_ei ws (w_ar ws (n_v vs 0) 43)) (w_ei ws (w_ar ws (n_v vs 0) 44)) (w_ei ws (w_ar ws (n_v vs 0) 42)) (w_fi ws (n_v vs 0) 31) (w_fi ws (n_v vs 0) 32) (w_fi ws (n_v vs 0) 49) k1 k2 k3 k4 k5 k6 k7 k8 k9 k10 k12 k13 k14 k15 k16 d0 d1 (shm_24 f0) (shm_12 f1) h2 h4 (shm_192 f5) (shm_192 f6) (shm_549 f7) (shm_550 f8) (shm_551 f9) (shm_552 f10) (shm_553 f11) (shm_553 f12) hK_0_33 hK_0_34 hK_0_42 hK_0_43 hK_0_44 hK_0_48 kz_0_31 kz_0_32 kz_0_49)⟩
  refine ⟨(fun _ h => (by cases h)), [], trivial, ?_, (fun _ h => (by cases h))⟩
  rw [List.append_nil]
  exact List.forall_mem_cons.mpr ⟨⟨show (20 : Nat) < 100 from by decide, nf0⟩, (fun _ h => (by cases h))⟩
def o_Mo_closer_4 : or_T := (51, 14, [(0, (2, 0, 0, [165])), (1, (0, 0, 24, [])), (2, (0, 0, 24, [])), (3, (0, 0, 24, [])), (4, (0, 0, 24, [])), (5, (0, 1, 1, [])), (6, (0, 0, 80, [])), (7, (0, 0, 1, [])), (8, (0, 0, 24, [])), (9, (0, 0, 24, [])), (10, (0, -2, 26000060, [])), (11, (2, 0, 0, [192])), (12, (0, 0, 1000001, [])), (13, (0, 0, 1000001, []))], [(10, [13, 11, 2], []), (9, [11, 0], [48]), (10, [12, 11, 1], []), (7, [1, 3], [0]), (8, [5], [1]), (7, [2, 4], [0]), (8, [5], [1]), (20, [0, 3, 4, 5], [60, 3, 6, 124, 31, 32, 49, 33, 34, 43, 44, 42, 48]), (20, [0, 3, 4, 5, 6, 7, 8, 9], [60, 1, 6, 125, 49, 33, 34, 43, 44, 42, 48]), (20, [0, 7, 10], [60, 1, 1, 128, 31, 48]), (20, [0, 1, 2], [60, 2, 4, 121, 32, 49, 33, 34, 43, 44]), (20, [1, 0], [30, -1, 1, 0, 0, -1, 1, 31]), (20, [2, 0], [30, -1, 1, 0, 0, -1, 1, 31])], [(13, (0, 0, 1000000, []))], [], [], [], [(1, 3, 0, 0), (2, 4, 0, 0)])
theorem oo_Mo_closer_4 {kA : Nat → ClassId} : or_ok PRD kA GG o_Mo_closer_4 := by
  refine or_mk fun A ta ws vs hD hth hl => ?_
  intro t0 r0 t1 k1 t2 k2 t3 k3 t4 k4 t5 k5 t6 k6 t7 k7 t8 k8 t9 k9 t10 k10 t11 r11 t12 k12 t13 k13 d0 d1 f0 f1 f2 f3 f4 f5 f6 f7 f8 f9 f10 f11 f12
  replace f0 := shm_107 f0
  replace f1 := shm_548 f1
  replace f2 := shm_107 f2
  replace f3 := shm_37 f3
  replace f4 := shm_142 f4
  replace f5 := shm_37 f5
  replace f6 := shm_142 f6
  replace f7 := shm_549 f7
  replace f8 := shm_550 f8
  replace f9 := shm_551 f9
  replace f10 := shm_552 f10
  replace f11 := shm_553 f11
  replace f12 := shm_553 f12
  have cr_0_33 := fdq_117 hD hth r0
  have cr_0_34 := fdq_118 hD hth r0
  have cr_0_42 := fdq_136 hD hth r0
  have cr_0_43 := fdq_137 hD hth r0
  have cr_0_44 := fdq_138 hD hth r0
  have cr_0_48 := fdq_144 hD hth r0
  have ad_11 : v_ad (n_v vs 11) = w_ar ws (n_v vs 0) 48 := congrArg v_ad f1
  simp only [ad_11] at f0
  have h0 : v_iv (n_v vs 13) = w_ei ws (w_ar ws (n_v vs 0) 48) (v_iv (n_v vs 2)) := f0
  simp only [ad_11] at f2
  have h2 : v_iv (n_v vs 12) = w_ei ws (w_ar ws (n_v vs 0) 48) (v_iv (n_v vs 1)) := f2
  have br_0_48_1_0 : w_ei ws (w_ar ws (n_v vs 0) 48) (v_iv (n_v vs 1)) = w_el ws (w_ar ws (n_v vs 0) 48) (v_iv (n_v vs 1)).toNat := rfl
  have br_0_48_2_0 : w_ei ws (w_ar ws (n_v vs 0) 48) (v_iv (n_v vs 2)) = w_el ws (w_ar ws (n_v vs 0) 48) (v_iv (n_v vs 2)).toNat := rfl
  have hK_0_33 := elq_60 hD hth cr_0_33
  have hK_0_34 := elq_61 hD hth cr_0_34
  have hK_0_42 := elq_75 hD hth cr_0_42
  have hK_0_43 := elq_76 hD hth cr_0_43
  have hK_0_44 := elq_77 hD hth cr_0_44
  have hK_0_48 := elq_82 hD hth cr_0_48
  have kz_0_31 := fdq_145 hD hth r0
  have kz_0_32 := fdq_140 hD hth r0
  have kz_0_49 := fdq_146 hD hth r0
  first | have hR := tgi_rng (i := v_iv (n_v vs 2)) ‹TGI _ _ _ _ _ _ _ _ _ _ _ _› (by omega) (by omega) | skip
  have rf13 : tv_ok ta (0, 0, 1000000, []) (n_v vs 13) := tv_in t13 (by first | omega | grind) (by first | omega | grind)
  refine ⟨List.forall_mem_cons.mpr ⟨rf13, (fun _ h => (by cases h))⟩, [], trivial, ?_, (fun _ h => (by cases h))⟩
  rw [List.append_nil]
  exact (fun _ h => (by cases h))
def o_Mo_closer_5 : or_T := (69, 17, [(0, (2, 0, 0, [165])), (1, (0, 0, 24, [])), (2, (0, 0, 24, [])), (3, (0, 0, 24, [])), (4, (0, 0, 24, [])), (5, (0, 1, 1, [])), (6, (0, 0, 80, [])), (7, (0, 0, 1, [])), (8, (0, 0, 24, [])), (9, (0, 0, 24, [])), (10, (0, -2, 26000060, [])), (11, (2, 0, 0, [192])), (12, (0, 2, 1000001, [])), (13, (0, 0, 999999, [])), (14, (0, 1, 1, [])), (15, (0, 1, 1000000, [])), (16, (0, 0, 1000001, []))], [(10, [16, 11, 2], []), (9, [11, 0], [48]), (7, [12, 15], [4]), (1, [15, 13, 14], []), (10, [13, 11, 2], []), (10, [12, 11, 1], []), (7, [1, 3], [0]), (8, [5], [1]), (7, [2, 4], [0]), (8, [5], [1]), (20, [0, 3, 4, 5], [60, 3, 6, 124, 31, 32, 49, 33, 34, 43, 44, 42, 48]), (20, [0, 3, 4, 5, 6, 7, 8, 9], [60, 1, 6, 125, 49, 33, 34, 43, 44, 42, 48]), (20, [0, 7, 10], [60, 1, 1, 128, 31, 48]), (20, [0, 1, 2], [60, 2, 4, 121, 32, 49, 33, 34, 43, 44]), (20, [1, 0], [30, -1, 1, 0, 0, -1, 1, 31]), (20, [2, 0], [30, -1, 1, 0, 0, -1, 1, 31])], [(16, (0, 0, 1000000, []))], [], [], [], [(12, 15, 1, 4294967296), (15, 13, 1, 1), (1, 3, 0, 0), (2, 4, 0, 0)])
theorem oo_Mo_closer_5 {kA : Nat → ClassId} : or_ok PRD kA GG o_Mo_closer_5 := by
  refine or_mk fun A ta ws vs hD hth hl => ?_
  intro t0 r0 t1 k1 t2 k2 t3 k3 t4 k4 t5 k5 t6 k6 t7 k7 t8 k8 t9 k9 t10 k10 t11 r11 t12 k12 t13 k13 t14 k14 t15 k15 t16 k16 d0 d1 d2 d3 f0 f1 f2 f3 f4 f5 f6 f7 f8 f9 f10 f11 f12 f13 f14 f15
  replace f0 := shm_107 f0
  replace f1 := shm_548 f1
  replace f2 := shm_21 f2
  replace f3 := shm_12 f3
  replace f4 := shm_107 f4
  replace f5 := shm_107 f5
  replace f6 := shm_37 f6
  replace f7 := shm_142 f7
  replace f8 := shm_37 f8
  replace f9 := shm_142 f9
  replace f10 := shm_549 f10
  replace f11 := shm_550 f11
  replace f12 := shm_551 f12
  replace f13 := shm_552 f13
  replace f14 := shm_553 f14
  replace f15 := shm_553 f15
  have cr_0_33 := fdq_117 hD hth r0
  have cr_0_34 := fdq_118 hD hth r0
  have cr_0_42 := fdq_136 hD hth r0
  have cr_0_43 := fdq_137 hD hth r0
  have cr_0_44 := fdq_138 hD hth r0
  have cr_0_48 := fdq_144 hD hth r0
  have ad_11 : v_ad (n_v vs 11) = w_ar ws (n_v vs 0) 48 := congrArg v_ad f1
  simp only [ad_11] at f0
  have h0 : v_iv (n_v vs 16) = w_ei ws (w_ar ws (n_v vs 0) 48) (v_iv (n_v vs 2)) := f0
  simp only [ad_11] at f4
  have h4 : v_iv (n_v vs 13) = w_ei ws (w_ar ws (n_v vs 0) 48) (v_iv (n_v vs 2)) := f4
  simp only [ad_11] at f5
  have h5 : v_iv (n_v vs 12) = w_ei ws (w_ar ws (n_v vs 0) 48) (v_iv (n_v vs 1)) := f5
  have br_0_48_1_0 : w_ei ws (w_ar ws (n_v vs 0) 48) (v_iv (n_v vs 1)) = w_el ws (w_ar ws (n_v vs 0) 48) (v_iv (n_v vs 1)).toNat := rfl
  have br_0_48_2_0 : w_ei ws (w_ar ws (n_v vs 0) 48) (v_iv (n_v vs 2)) = w_el ws (w_ar ws (n_v vs 0) 48) (v_iv (n_v vs 2)).toNat := rfl
  have hK_0_33 := elq_60 hD hth cr_0_33
  have hK_0_34 := elq_61 hD hth cr_0_34
  have hK_0_42 := elq_75 hD hth cr_0_42
  have hK_0_43 := elq_76 hD hth cr_0_43
  have hK_0_44 := elq_77 hD hth cr_0_44
  have hK_0_48 := elq_82 hD hth cr_0_48
  have kz_0_31 := fdq_145 hD hth r0
  have kz_0_32 := fdq_140 hD hth r0
  have kz_0_49 := fdq_146 hD hth r0
  first | have hR := tgi_rng (i := v_iv (n_v vs 2)) ‹TGI _ _ _ _ _ _ _ _ _ _ _ _› (by omega) (by omega) | skip
  have rf16 : tv_ok ta (0, 0, 1000000, []) (n_v vs 16) := tv_in t16 (by first | omega | grind) (by first | omega | grind)
  refine ⟨List.forall_mem_cons.mpr ⟨rf16, (fun _ h => (by cases h))⟩, [], trivial, ?_, (fun _ h => (by cases h))⟩
  rw [List.append_nil]
  exact (fun _ h => (by cases h))
set_option maxHeartbeats 4000000 in
theorem vc_Mo_closer_6_0 (x1 : Int) (x2 : Int) (x3 : Int) (x4 : Int) (x5 : Int) (x6 : Int) (x7 : Int) (x8 : Int) (x9 : Int) (x10 : Int) (x12 : Int) (x13 : Int) (x14 : Int) (x15 : Int) (x16 : Int) (x17 : Int) (x18 : Int) (x19 : Int) (pt_0 : Int → Int) (ph_0 : Int → Int) (drawnEdge_0 : Int → Int) (pieceOf_0 : Int → Int) (pm_0 : Int) (onlyPiece_0 : Int) (pn_0 : Int) (toGoal_1 : Int → Int) (pt_1 : Int → Int) (ph_1 : Int → Int) (drawnEdge_1 : Int → Int) (pieceOf_1 : Int → Int) (drawnNode_1 : Int → Int) (pn_1 : Int) (pm_1 : Int) (onlyPiece_1 : Int) (drawnNode_0 : Int → Int) (toGoal_0 : Int → Int) (k1 : 0 ≤ x1 ∧ x1 ≤ 24) (k2 : 0 ≤ x2 ∧ x2 ≤ 24) (k3 : 0 ≤ x3 ∧ x3 ≤ 24) (k4 : 0 ≤ x4 ∧ x4 ≤ 24) (k5 : 1 ≤ x5 ∧ x5 ≤ 1) (k6 : 0 ≤ x6 ∧ x6 ≤ 80) (k7 : 0 ≤ x7 ∧ x7 ≤ 1) (k8 : 0 ≤ x8 ∧ x8 ≤ 24) (k9 : 0 ≤ x9 ∧ x9 ≤ 24) (k10 : (-2) ≤ x10 ∧ x10 ≤ 26000060) (k12 : 2 ≤ x12 ∧ x12 ≤ 1000001) (k13 : 0 ≤ x13 ∧ x13 ≤ 999999) (k14 : 1 ≤ x14 ∧ x14 ≤ 1) (k15 : 1 ≤ x15 ∧ x15 ≤ 1000000) (k16 : 0 ≤ x16 ∧ x16 ≤ 1000000) (k17 : 1 ≤ x17 ∧ x17 ≤ 1) (k18 : 1 ≤ x18 ∧ x18 ≤ 1000001) (k19 : 1 ≤ x19 ∧ x19 ≤ 1) (d0 : x16 + 1 ≤ x18 ∧ x18 ≤ x16 + 1) (d1 : x15 + 1 ≤ x12 ∧ x12 ≤ x15 + 4294967296) (d2 : x13 + 1 ≤ x15 ∧ x15 ≤ x13 + 1) (d3 : x3 + 0 ≤ x1 ∧ x1 ≤ x3 + 0) (d4 : x4 + 0 ≤ x2 ∧ x2 ≤ x4 + 0) (f0 : ARC (pm_0) (onlyPiece_0) (pt_0) (ph_0) (drawnEdge_0) (pieceOf_0) (x1) (x2)) (f1 : 1 * x1 + ((-1) * pn_0 + 0) ≤ (-1)) (f2 : 1 * x2 + ((-1) * pn_0 + 0) ≤ (-1)) (f4 : x18 = x16 + x17) (h5 : x16 = toGoal_1 (x2)) (f7 : x15 < x12) (f8 : x15 = x13 + x14) (h9 : x13 = toGoal_1 (x2)) (h10 : x12 = toGoal_1 (x1)) (f11 : x1 = x3) (f12 : x5 ≠ 0) (f13 : x2 = x4) (f14 : x5 ≠ 0) (f15 : TGI (pn_1) (pm_1) (onlyPiece_1) (pt_1) (ph_1) (drawnEdge_1) (pieceOf_1) (drawnNode_1) (toGoal_1) (x3) (x4) (x5)) (f16 : TG3 (onlyPiece_1) (pt_1) (ph_1) (drawnEdge_1) (pieceOf_1) (drawnNode_1) (toGoal_1) (x3) (x4) (x5) (x6) (x7) (x8) (x9)) (f17 : SMN (pn_1) (toGoal_1) (x7) (x10)) (f18 : ARC (pm_1) (onlyPiece_1) (pt_1) (ph_1) (drawnEdge_1) (pieceOf_1) (x1) (x2)) (f19 : 1 * x1 + ((-1) * pn_1 + 0) ≤ (-1)) (f20 : 1 * x2 + ((-1) * pn_1 + 0) ≤ (-1)) (fe_0_31_1 : pn_0 = pn_1) (fe_0_32_1 : pm_0 = pm_1) (fe_0_49_1 : onlyPiece_0 = onlyPiece_1) (hE_0_33_1 : ∀ j : Int, pt_0 j = pt_1 j) (hK_0_33 : ∀ j : Int, 0 ≤ j → j < 80 → 0 ≤ pt_0 j ∧ pt_0 j ≤ 24) (hE_0_34_1 : ∀ j : Int, ph_0 j = ph_1 j) (hK_0_34 : ∀ j : Int, 0 ≤ j → j < 80 → 0 ≤ ph_0 j ∧ ph_0 j ≤ 24) (hE_0_42_1 : ∀ j : Int, drawnNode_0 j = drawnNode_1 j) (hK_0_42 : ∀ j : Int, 0 ≤ j → j < 26 → 0 ≤ drawnNode_0 j ∧ drawnNode_0 j ≤ 1) (hE_0_43_1 : ∀ j : Int, drawnEdge_0 j = drawnEdge_1 j) (hK_0_43 : ∀ j : Int, 0 ≤ j → j < 80 → 0 ≤ drawnEdge_0 j ∧ drawnEdge_0 j ≤ 1) (hE_0_44_1 : ∀ j : Int, pieceOf_0 j = pieceOf_1 j) (hK_0_44 : ∀ j : Int, 0 ≤ j → j < 80 → (-1) ≤ pieceOf_0 j ∧ pieceOf_0 j ≤ 79) (hE_0_48_1 : ∀ j : Int, 0 ≤ j → (j = x1 → toGoal_0 j = x18) ∧ (j ≠ x1 → toGoal_0 j = toGoal_1 j)) (hK_0_48 : ∀ j : Int, 0 ≤ j → j < 26 → 0 ≤ toGoal_0 j ∧ toGoal_0 j ≤ 1000001) (kz_0_31 : 0 ≤ pn_0 ∧ pn_0 ≤ 25) (kz_0_32 : 0 ≤ pm_0 ∧ pm_0 ≤ 80) (kz_0_49 : (-1) ≤ onlyPiece_0 ∧ onlyPiece_0 ≤ 79) : TGI (pn_0) (pm_0) (onlyPiece_0) (pt_0) (ph_0) (drawnEdge_0) (pieceOf_0) (drawnNode_0) (toGoal_0) (x3) (x4) (x5) := by
  subst fe_0_31_1
  subst fe_0_32_1
  subst fe_0_49_1
  have e_hE_0_33_1 := funext hE_0_33_1; subst e_hE_0_33_1
  have e_hE_0_34_1 := funext hE_0_34_1; subst e_hE_0_34_1
  have e_hE_0_42_1 := funext hE_0_42_1; subst e_hE_0_42_1
  have e_hE_0_43_1 := funext hE_0_43_1; subst e_hE_0_43_1
  have e_hE_0_44_1 := funext hE_0_44_1; subst e_hE_0_44_1
  first
    | assumption
    | (refine tg_lower (i := x1) (j := x2) ‹TGI _ _ _ _ _ _ _ _ toGoal_1 _ _ _› (by omega) (by omega) (by omega) (by omega) ‹ARC _ _ _ _ _ _ x1 x2› ?_ ?_ (fun y a b => (hE_0_48_1 y a).2 b) ?_ (by omega)
       · exact ⟨by first | exact Or.inl (by omega) | exact Or.inr (Or.inl (by omega)) | exact Or.inr (Or.inr (by omega)), by first | exact Or.inl (by omega) | exact Or.inr (Or.inl (by omega)) | exact Or.inr (Or.inr (by omega))⟩
       · omega
       · rw [(hE_0_48_1 x1 (by omega)).1 rfl]; omega)
set_option maxHeartbeats 4000000 in
theorem vc_Mo_closer_6_1 (x1 : Int) (x2 : Int) (x3 : Int) (x4 : Int) (x5 : Int) (x6 : Int) (x7 : Int) (x8 : Int) (x9 : Int) (x10 : Int) (x12 : Int) (x13 : Int) (x14 : Int) (x15 : Int) (x16 : Int) (x17 : Int) (x18 : Int) (x19 : Int) (pt_0 : Int → Int) (ph_0 : Int → Int) (drawnEdge_0 : Int → Int) (pieceOf_0 : Int → Int) (pm_0 : Int) (onlyPiece_0 : Int) (pn_0 : Int) (toGoal_1 : Int → Int) (pt_1 : Int → Int) (ph_1 : Int → Int) (drawnEdge_1 : Int → Int) (pieceOf_1 : Int → Int) (drawnNode_1 : Int → Int) (pn_1 : Int) (pm_1 : Int) (onlyPiece_1 : Int) (drawnNode_0 : Int → Int) (toGoal_0 : Int → Int) (k1 : 0 ≤ x1 ∧ x1 ≤ 24) (k2 : 0 ≤ x2 ∧ x2 ≤ 24) (k3 : 0 ≤ x3 ∧ x3 ≤ 24) (k4 : 0 ≤ x4 ∧ x4 ≤ 24) (k5 : 1 ≤ x5 ∧ x5 ≤ 1) (k6 : 0 ≤ x6 ∧ x6 ≤ 80) (k7 : 0 ≤ x7 ∧ x7 ≤ 1) (k8 : 0 ≤ x8 ∧ x8 ≤ 24) (k9 : 0 ≤ x9 ∧ x9 ≤ 24) (k10 : (-2) ≤ x10 ∧ x10 ≤ 26000060) (k12 : 2 ≤ x12 ∧ x12 ≤ 1000001) (k13 : 0 ≤ x13 ∧ x13 ≤ 999999) (k14 : 1 ≤ x14 ∧ x14 ≤ 1) (k15 : 1 ≤ x15 ∧ x15 ≤ 1000000) (k16 : 0 ≤ x16 ∧ x16 ≤ 1000000) (k17 : 1 ≤ x17 ∧ x17 ≤ 1) (k18 : 1 ≤ x18 ∧ x18 ≤ 1000001) (k19 : 1 ≤ x19 ∧ x19 ≤ 1) (d0 : x16 + 1 ≤ x18 ∧ x18 ≤ x16 + 1) (d1 : x15 + 1 ≤ x12 ∧ x12 ≤ x15 + 4294967296) (d2 : x13 + 1 ≤ x15 ∧ x15 ≤ x13 + 1) (d3 : x3 + 0 ≤ x1 ∧ x1 ≤ x3 + 0) (d4 : x4 + 0 ≤ x2 ∧ x2 ≤ x4 + 0) (f0 : ARC (pm_0) (onlyPiece_0) (pt_0) (ph_0) (drawnEdge_0) (pieceOf_0) (x1) (x2)) (f1 : 1 * x1 + ((-1) * pn_0 + 0) ≤ (-1)) (f2 : 1 * x2 + ((-1) * pn_0 + 0) ≤ (-1)) (f4 : x18 = x16 + x17) (h5 : x16 = toGoal_1 (x2)) (f7 : x15 < x12) (f8 : x15 = x13 + x14) (h9 : x13 = toGoal_1 (x2)) (h10 : x12 = toGoal_1 (x1)) (f11 : x1 = x3) (f12 : x5 ≠ 0) (f13 : x2 = x4) (f14 : x5 ≠ 0) (f15 : TGI (pn_1) (pm_1) (onlyPiece_1) (pt_1) (ph_1) (drawnEdge_1) (pieceOf_1) (drawnNode_1) (toGoal_1) (x3) (x4) (x5)) (f16 : TG3 (onlyPiece_1) (pt_1) (ph_1) (drawnEdge_1) (pieceOf_1) (drawnNode_1) (toGoal_1) (x3) (x4) (x5) (x6) (x7) (x8) (x9)) (f17 : SMN (pn_1) (toGoal_1) (x7) (x10)) (f18 : ARC (pm_1) (onlyPiece_1) (pt_1) (ph_1) (drawnEdge_1) (pieceOf_1) (x1) (x2)) (f19 : 1 * x1 + ((-1) * pn_1 + 0) ≤ (-1)) (f20 : 1 * x2 + ((-1) * pn_1 + 0) ≤ (-1)) (fe_0_31_1 : pn_0 = pn_1) (fe_0_32_1 : pm_0 = pm_1) (fe_0_49_1 : onlyPiece_0 = onlyPiece_1) (hE_0_33_1 : ∀ j : Int, pt_0 j = pt_1 j) (hK_0_33 : ∀ j : Int, 0 ≤ j → j < 80 → 0 ≤ pt_0 j ∧ pt_0 j ≤ 24) (hE_0_34_1 : ∀ j : Int, ph_0 j = ph_1 j) (hK_0_34 : ∀ j : Int, 0 ≤ j → j < 80 → 0 ≤ ph_0 j ∧ ph_0 j ≤ 24) (hE_0_42_1 : ∀ j : Int, drawnNode_0 j = drawnNode_1 j) (hK_0_42 : ∀ j : Int, 0 ≤ j → j < 26 → 0 ≤ drawnNode_0 j ∧ drawnNode_0 j ≤ 1) (hE_0_43_1 : ∀ j : Int, drawnEdge_0 j = drawnEdge_1 j) (hK_0_43 : ∀ j : Int, 0 ≤ j → j < 80 → 0 ≤ drawnEdge_0 j ∧ drawnEdge_0 j ≤ 1) (hE_0_44_1 : ∀ j : Int, pieceOf_0 j = pieceOf_1 j) (hK_0_44 : ∀ j : Int, 0 ≤ j → j < 80 → (-1) ≤ pieceOf_0 j ∧ pieceOf_0 j ≤ 79) (hE_0_48_1 : ∀ j : Int, 0 ≤ j → (j = x1 → toGoal_0 j = x18) ∧ (j ≠ x1 → toGoal_0 j = toGoal_1 j)) (hK_0_48 : ∀ j : Int, 0 ≤ j → j < 26 → 0 ≤ toGoal_0 j ∧ toGoal_0 j ≤ 1000001) (kz_0_31 : 0 ≤ pn_0 ∧ pn_0 ≤ 25) (kz_0_32 : 0 ≤ pm_0 ∧ pm_0 ≤ 80) (kz_0_49 : (-1) ≤ onlyPiece_0 ∧ onlyPiece_0 ≤ 79) : CLO (pn_0) (onlyPiece_0) (pt_0) (ph_0) (drawnEdge_0) (pieceOf_0) (drawnNode_0) (toGoal_0) (x1) (x2) (x3) (x4) (x5) (x6) (x7) (x8) (x9) (x10) (x19) := by
  subst fe_0_31_1
  subst fe_0_32_1
  subst fe_0_49_1
  have e_hE_0_33_1 := funext hE_0_33_1; subst e_hE_0_33_1
  have e_hE_0_34_1 := funext hE_0_34_1; subst e_hE_0_34_1
  have e_hE_0_42_1 := funext hE_0_42_1; subst e_hE_0_42_1
  have e_hE_0_43_1 := funext hE_0_43_1; subst e_hE_0_43_1
  have e_hE_0_44_1 := funext hE_0_44_1; subst e_hE_0_44_1
  first
    | (refine ⟨fun _ => ⟨‹TG3 _ _ _ _ _ _ _ _ _ _ _ _ _ _›, fun hc => ?_, ‹SMN _ _ _ _›⟩, fun h => absurd (by omega) h⟩
       first
         | omega
         | (exfalso; unfold cnd at hc; omega))
    | (refine ⟨fun h => absurd h (by omega), fun _ => ?_⟩
       have hS := ‹SMN _ _ _ _›
       unfold SMN at hS
       have v1 := (hE_0_48_1 x1 (by omega)).1 rfl
       have := smlt (n := pn_0) (f := toGoal_0) (g := toGoal_1) (i := x1) (by omega) (by omega) (fun j a b => by
         by_cases q : j = x1
         · rw [q]; omega
         · rw [(hE_0_48_1 j a).2 q]; exact Int.le_refl _) (by omega)
       omega)
def o_Mo_closer_6 : or_T := (73, 20, [(0, (2, 0, 0, [165])), (1, (0, 0, 24, [])), (2, (0, 0, 24, [])), (3, (0, 0, 24, [])), (4, (0, 0, 24, [])), (5, (0, 1, 1, [])), (6, (0, 0, 80, [])), (7, (0, 0, 1, [])), (8, (0, 0, 24, [])), (9, (0, 0, 24, [])), (10, (0, -2, 26000060, [])), (11, (2, 0, 0, [192])), (12, (0, 2, 1000001, [])), (13, (0, 0, 999999, [])), (14, (0, 1, 1, [])), (15, (0, 1, 1000000, [])), (16, (0, 0, 1000000, [])), (17, (0, 1, 1, [])), (18, (0, 1, 1000001, [])), (19, (0, 1, 1, []))], [(20, [0, 1, 2], [60, 2, 4, 121, 32, 49, 33, 34, 43, 44]), (20, [1, 0], [30, -1, 1, 0, 0, -1, 1, 31]), (20, [2, 0], [30, -1, 1, 0, 0, -1, 1, 31]), (100, [11, 1, 18], []), (1, [18, 16, 17], []), (10, [16, 11, 2], []), (9, [11, 0], [48]), (7, [12, 15], [4]), (1, [15, 13, 14], []), (10, [13, 11, 2], []), (10, [12, 11, 1], []), (7, [1, 3], [0]), (8, [5], [1]), (7, [2, 4], [0]), (8, [5], [1]), (20, [0, 3, 4, 5], [60, 3, 6, 124, 31, 32, 49, 33, 34, 43, 44, 42, 48]), (20, [0, 3, 4, 5, 6, 7, 8, 9], [60, 1, 6, 125, 49, 33, 34, 43, 44, 42, 48]), (20, [0, 7, 10], [60, 1, 1, 128, 31, 48]), (20, [0, 1, 2], [60, 2, 4, 121, 32, 49, 33, 34, 43, 44]), (20, [1, 0], [30, -1, 1, 0, 0, -1, 1, 31]), (20, [2, 0], [30, -1, 1, 0, 0, -1, 1, 31])], [], [], [(20, [0, 3, 4, 5], [60, 3, 6, 124, 31, 32, 49, 33, 34, 43, 44, 42, 48]), (20, [0, 1, 2, 3, 4, 5, 6, 7, 8, 9, 10, 19], [60, 2, 6, 129, 31, 49, 33, 34, 43, 44, 42, 48])], [], [(18, 16, 1, 1), (12, 15, 1, 4294967296), (15, 13, 1, 1), (1, 3, 0, 0), (2, 4, 0, 0)])
theorem oo_Mo_closer_6 {kA : Nat → ClassId} : or_ok PRD kA GG o_Mo_closer_6 := by
  refine or_mk fun A ta ws vs hD hth hl => ?_
  intro t0 r0 t1 k1 t2 k2 t3 k3 t4 k4 t5 k5 t6 k6 t7 k7 t8 k8 t9 k9 t10 k10 t11 r11 t12 k12 t13 k13 t14 k14 t15 k15 t16 k16 t17 k17 t18 k18 t19 k19 d0 d1 d2 d3 d4 f0 f1 f2 ta1 w1 le1 s1 f4 f5 f6 f7 f8 f9 f10 f11 f12 f13 f14 f15 f16 f17 f18 f19 f20
  have s1 : (∀ b j, w_el ws b j = if b = v_ad (n_v vs 11) ∧ j = (v_iv (n_v vs 1)).toNat then v_iv (n_v vs 18) else w_el w1 b j) ∧ ∀ b k, w_fd ws b k = w_fd w1 b k := s1.2
  replace f5 := shm_107 f5
  replace f6 := shm_548 f6
  replace f9 := shm_107 f9
  replace f10 := shm_107 f10
  replace f15 := shm_549 f15
  replace f16 := shm_550 f16
  replace f17 := shm_551 f17
  replace f18 := shm_552 f18
  have ar_0_33_1 : w_ar w1 (n_v vs 0) 33 = w_ar ws (n_v vs 0) 33 := congrArg v_ad (s1.2 _ _).symm
  have cr_0_33 := fdq_117 hD hth r0
  have ar_0_34_1 : w_ar w1 (n_v vs 0) 34 = w_ar ws (n_v vs 0) 34 := congrArg v_ad (s1.2 _ _).symm
  have cr_0_34 := fdq_118 hD hth r0
  have ar_0_42_1 : w_ar w1 (n_v vs 0) 42 = w_ar ws (n_v vs 0) 42 := congrArg v_ad (s1.2 _ _).symm
  have cr_0_42 := fdq_136 hD hth r0
  have ar_0_43_1 : w_ar w1 (n_v vs 0) 43 = w_ar ws (n_v vs 0) 43 := congrArg v_ad (s1.2 _ _).symm
  have cr_0_43 := fdq_137 hD hth r0
  have ar_0_44_1 : w_ar w1 (n_v vs 0) 44 = w_ar ws (n_v vs 0) 44 := congrArg v_ad (s1.2 _ _).symm
  have cr_0_44 := fdq_138 hD hth r0
  have ar_0_48_1 : w_ar w1 (n_v vs 0) 48 = w_ar ws (n_v vs 0) 48 := congrArg v_ad (s1.2 _ _).symm
  have cr_0_48 := fdq_144 hD hth r0
  have ad_11 : v_ad (n_v vs 11) = w_ar ws (n_v vs 0) 48 := (congrArg v_ad f6).trans ar_0_48_1
  simp only [ad_11] at f5
  have h5 : v_iv (n_v vs 16) = w_ei w1 (w_ar ws (n_v vs 0) 48) (v_iv (n_v vs 2)) := f5
  simp only [ad_11] at f9
  have h9 : v_iv (n_v vs 13) = w_ei w1 (w_ar ws (n_v vs 0) 48) (v_iv (n_v vs 2)) := f9
  simp only [ad_11] at f10
  have h10 : v_iv (n_v vs 12) = w_ei w1 (w_ar ws (n_v vs 0) 48) (v_iv (n_v vs 1)) := f10
  simp only [ar_0_33_1, ar_0_34_1, ar_0_42_1, ar_0_43_1, ar_0_44_1, ar_0_48_1] at f15 f16 f17 f18
  have fe_0_31_1 : w_fi ws (n_v vs 0) 31 = w_fi w1 (n_v vs 0) 31 := congrArg v_iv (s1.2 _ _)
  have fe_0_32_1 : w_fi ws (n_v vs 0) 32 = w_fi w1 (n_v vs 0) 32 := congrArg v_iv (s1.2 _ _)
  have fe_0_49_1 : w_fi ws (n_v vs 0) 49 = w_fi w1 (n_v vs 0) 49 := congrArg v_iv (s1.2 _ _)
  have hE_0_33_1 : ∀ j : Int, w_ei ws (w_ar ws (n_v vs 0) 33) j = w_ei w1 (w_ar ws (n_v vs 0) 33) j := el_kp s1.1 r11 cr_0_33 (by decide)
  have hK_0_33 := elq_60 hD hth cr_0_33
  have hE_0_34_1 : ∀ j : Int, w_ei ws (w_ar ws (n_v vs 0) 34) j = w_ei w1 (w_ar ws (n_v vs 0) 34) j := el_kp s1.1 r11 cr_0_34 (by decide)
  have hK_0_34 := elq_61 hD hth cr_0_34
  have hE_0_42_1 : ∀ j : Int, w_ei ws (w_ar ws (n_v vs 0) 42) j = w_ei w1 (w_ar ws (n_v vs 0) 42) j := el_kp s1.1 r11 cr_0_42 (by decide)
  have hK_0_42 := elq_75 hD hth cr_0_42
  have hE_0_43_1 : ∀ j : Int, w_ei ws (w_ar ws (n_v vs 0) 43) j = w_ei w1 (w_ar ws (n_v vs 0) 43) j := el_kp s1.1 r11 cr_0_43 (by decide)
  have hK_0_43 := elq_76 hD hth cr_0_43
  have hE_0_44_1 : ∀ j : Int, w_ei ws (w_ar ws (n_v vs 0) 44) j = w_ei w1 (w_ar ws (n_v vs 0) 44) j := el_kp s1.1 r11 cr_0_44 (by decide)
  have hK_0_44 := elq_77 hD hth cr_0_44
  have hE_0_48_1 : ∀ j : Int, 0 ≤ j → (j = v_iv (n_v vs 1) → w_ei ws (w_ar ws (n_v vs 0) 48) j = v_iv (n_v vs 18)) ∧ (j ≠ v_iv (n_v vs 1) → w_ei ws (w_ar ws (n_v vs 0) 48) j = w_ei w1 (w_ar ws (n_v vs 0) 48) j) := fun j hj => ⟨fun h => by unfold w_ei; rw [s1.1, if_pos ⟨ad_11.symm, by rw [h]⟩], fun h => by unfold w_ei; rw [s1.1, if_neg (fun e => h (by have := e.2; omega))]⟩
  have hK_0_48 := elq_82 hD hth cr_0_48
  have kz_0_31 := fdq_145 hD hth r0
  have kz_0_32 := fdq_140 hD hth r0
  have kz_0_49 := fdq_146 hD hth r0
  have nf0 : fc_1 PRD (20, [0, 3, 4, 5], [60, 3, 6, 124, 31, 32, 49, 33, 34, 43, 44, 42, 48]) ws (vs) := ⟨nf_in hl rfl, sgq_549 (vc_Mo_closer_6_0 (v_iv (n_v vs 1)) (v_iv (n_v vs 2)) (v_iv (n_v vs 3)) (v_iv (n_v vs 4)) (v_iv (n_v vs 5)) (v_iv (n_v vs 6)) (v_iv (n_v vs 7)) (v_iv (n_v vs 8)) (v_iv (n_v vs 9)) (v_iv (n_v vs 10)) (v_iv (n_v vs 12)) (v_iv (n_v vs 13)) (v_iv (n_v vs 14)) (v_iv (n_v vs 15)) (v_iv (n_v vs 16)) (v_iv (n_v vs 17)) (v_iv (n_v vs 18)) (v_iv (n_v vs 19)) (w_ei ws (w_ar ws (n_v vs 0) 33)) (w_ei ws (w_ar ws (n_v vs 0) 34)) (w_ei ws (w_ar ws (n_v vs 0) 43)) (w_ei ws (w_ar ws (n_v vs 0) 44)) (w_fi ws (n_v vs 0) 32) (w_fi ws (n_v vs 0) 49) (w_fi ws (n_v vs 0) 31) (w_ei w1 (w_ar ws (n_v vs 0) 48)) (w_ei w1 (w_ar ws (n_v vs 0) 33)) (w_ei w1 (w_ar ws (n_v vs 0) 34)) (w_ei w1 (w_ar ws (n_v vs 0) 43)) (w_ei w1 (w_ar ws (n_v vs 0) 44)) (w_ei w1 (w_ar ws (n_v vs 0) 42)) (w_fi w1 (n_v vs 0) 31) (w_fi w1 (n_v vs 0) 32) (w_fi w1 (n_v vs 0) 49) (w_ei ws (w_ar ws (n_v vs 0) 42)) (w_ei ws (w_ar ws (n_v vs 0) 48)) k1 k2 k3 k4 k5 k6 k7 k8 k9 k10 k12 k13 k14 k15 k16 k17 k18 k19 d0 d1 d2 d3 d4 (shm_552 f0) (shm_553 f1) (shm_553 f2) (shm_12 f4) h5 (shm_21 f7) (shm_12 f8) h9 h10 (shm_37 f11) (shm_142 f12) (shm_37 f13) (shm_142 f14) f15 f16 f17 f18 (shm_553 f19) (shm_553 f20) fe_0_31_1 fe_0_32_1 fe_0_49_1 hE_0_33_1 hK_0_33 hE_0_34_1 hK_0_34 hE_0_42_1 hK_0_42 hE_0_43_1 hK_0_43 hE_0_44_1 hK_0_44 hE_0_48_1 hK_0_48 kz_0_31 kz_0_32 kz_0_49)⟩
  have nf1 : fc_1 PRD (20, [0, 1, 2, 3, 4, 5, 6, 7, 8, 9, 10, 19], [60, 2, 6, 129, 31, 49, 33, 34, 43, 44, 42, 48]) ws (vs) := ⟨nf_in hl rfl, sgq_554 (vc_Mo_closer_6_1 (v_iv (n_v vs 1)) (v_iv (n_v vs 2)) (v_iv (n_v vs 3)) (v_iv (n_v vs 4)) (v_iv (n_v vs 5)) (v_iv (n_v vs 6)) (v_iv (n_v vs 7)) (v_iv (n_v vs 8)) (v_iv (n_v vs 9)) (v_iv (n_v vs 10)) (v_iv (n_v vs 12)) (v_iv (n_v vs 13)) (v_iv (n_v vs 14)) (v_iv (n_v vs 15)) (v_iv (n_v vs 16)) (v_iv (n_v vs 17)) (v_iv (n_v vs 18)) (v_iv (n_v vs 19)) (w_ei ws (w_ar ws (n_v vs 0) 33)) (w_ei ws (w_ar ws (n_v vs 0) 34)) (w_ei ws (w_ar ws (n_v vs 0) 43)) (w_ei ws (w_ar ws (n_v vs 0) 44)) (w_fi ws (n_v vs 0) 32) (w_fi ws (n_v vs 0) 49) (w_fi ws (n_v vs 0) 31) (w_ei w1 (w_ar ws (n_v vs 0) 48)) (w_ei w1 (w_ar ws (n_v vs 0) 33)) (w_ei w1 (w_ar ws (n_v vs 0) 34)) (w_ei w1 (w_ar ws (n_v vs 0) 43)) (w_ei w1 (w_ar ws (n_v vs 0) 44)) (w_ei w1 (w_ar ws (n_v vs 0) 42)) (w_fi w1 (n_v vs 0) 31) (w_fi w1 (n_v vs 0) 32) (w_fi w1 (n_v vs 0) 49) (w_ei ws (w_ar ws (n_v vs 0) 42)) (w_ei ws (w_ar ws (n_v vs 0) 48)) k1 k2 k3 k4 k5 k6 k7 k8 k9 k10 k12 k13 k14 k15 k16 k17 k18 k19 d0 d1 d2 d3 d4 (shm_552 f0) (shm_553 f1) (shm_553 f2) (shm_12 f4) h5 (shm_21 f7) (shm_12 f8) h9 h10 (shm_37 f11) (shm_142 f12) (shm_37 f13) (shm_142 f14) f15 f16 f17 f18 (shm_553 f19) (shm_553 f20) fe_0_31_1 fe_0_32_1 fe_0_49_1 hE_0_33_1 hK_0_33 hE_0_34_1 hK_0_34 hE_0_42_1 hK_0_42 hE_0_43_1 hK_0_43 hE_0_44_1 hK_0_44 hE_0_48_1 hK_0_48 kz_0_31 kz_0_32 kz_0_49)⟩
  refine ⟨(fun _ h => (by cases h)), [], trivial, ?_, (fun _ h => (by cases h))⟩
  rw [List.append_nil]
  exact List.forall_mem_cons.mpr ⟨⟨show (20 : Nat) < 100 from by decide, nf0⟩, List.forall_mem_cons.mpr ⟨⟨show (20 : Nat) < 100 from by decide, nf1⟩, (fun _ h => (by cases h))⟩⟩
set_option maxHeartbeats 4000000 in
theorem vc_Mo_closer_7_0 (x1 : Int) (x2 : Int) (x3 : Int) (x4 : Int) (x5 : Int) (x6 : Int) (x7 : Int) (x8 : Int) (x9 : Int) (x10 : Int) (x12 : Int) (x13 : Int) (x14 : Int) (x15 : Int) (x16 : Int) (toGoal_0 : Int → Int) (pt_0 : Int → Int) (ph_0 : Int → Int) (drawnEdge_0 : Int → Int) (pieceOf_0 : Int → Int) (drawnNode_0 : Int → Int) (pn_0 : Int) (pm_0 : Int) (onlyPiece_0 : Int) (k1 : 0 ≤ x1 ∧ x1 ≤ 24) (k2 : 0 ≤ x2 ∧ x2 ≤ 24) (k3 : 0 ≤ x3 ∧ x3 ≤ 24) (k4 : 0 ≤ x4 ∧ x4 ≤ 24) (k5 : 1 ≤ x5 ∧ x5 ≤ 1) (k6 : 0 ≤ x6 ∧ x6 ≤ 80) (k7 : 0 ≤ x7 ∧ x7 ≤ 1) (k8 : 0 ≤ x8 ∧ x8 ≤ 24) (k9 : 0 ≤ x9 ∧ x9 ≤ 24) (k10 : (-2) ≤ x10 ∧ x10 ≤ 26000060) (k12 : 0 ≤ x12 ∧ x12 ≤ 1000001) (k13 : 0 ≤ x13 ∧ x13 ≤ 1000000) (k14 : 1 ≤ x14 ∧ x14 ≤ 1) (k15 : 1 ≤ x15 ∧ x15 ≤ 1000001) (k16 : 0 ≤ x16 ∧ x16 ≤ 0) (d0 : x15 + (-4294967296) ≤ x12 ∧ x12 ≤ x15 + 0) (d1 : x13 + 1 ≤ x15 ∧ x15 ≤ x13 + 1) (d2 : x3 + 0 ≤ x1 ∧ x1 ≤ x3 + 0) (d3 : x4 + 0 ≤ x2 ∧ x2 ≤ x4 + 0) (f0 : x12 ≤ x15) (f1 : x15 = x13 + x14) (h2 : x13 = toGoal_0 (x2)) (h4 : x12 = toGoal_0 (x1)) (f5 : x1 = x3) (f6 : x5 ≠ 0) (f7 : x2 = x4) (f8 : x5 ≠ 0) (f9 : TGI (pn_0) (pm_0) (onlyPiece_0) (pt_0) (ph_0) (drawnEdge_0) (pieceOf_0) (drawnNode_0) (toGoal_0) (x3) (x4) (x5)) (f10 : TG3 (onlyPiece_0) (pt_0) (ph_0) (drawnEdge_0) (pieceOf_0) (drawnNode_0) (toGoal_0) (x3) (x4) (x5) (x6) (x7) (x8) (x9)) (f11 : SMN (pn_0) (toGoal_0) (x7) (x10)) (f12 : ARC (pm_0) (onlyPiece_0) (pt_0) (ph_0) (drawnEdge_0) (pieceOf_0) (x1) (x2)) (f13 : 1 * x1 + ((-1) * pn_0 + 0) ≤ (-1)) (f14 : 1 * x2 + ((-1) * pn_0 + 0) ≤ (-1)) (hK_0_33 : ∀ j : Int, 0 ≤ j → j < 80 → 0 ≤ pt_0 j ∧ pt_0 j ≤ 24) (hK_0_34 : ∀ j : Int, 0 ≤ j → j < 80 → 0 ≤ ph_0 j ∧ ph_0 j ≤ 24) (hK_0_42 : ∀ j : Int, 0 ≤ j → j < 26 → 0 ≤ drawnNode_0 j ∧ drawnNode_0 j ≤ 1) (hK_0_43 : ∀ j : Int, 0 ≤ j → j < 80 → 0 ≤ drawnEdge_0 j ∧ drawnEdge_0 j ≤ 1) (hK_0_44 : ∀ j : Int, 0 ≤ j → j < 80 → (-1) ≤ pieceOf_0 j ∧ pieceOf_0 j ≤ 79) (hK_0_48 : ∀ j : Int, 0 ≤ j → j < 26 → 0 ≤ toGoal_0 j ∧ toGoal_0 j ≤ 1000001) (kz_0_31 : 0 ≤ pn_0 ∧ pn_0 ≤ 25) (kz_0_32 : 0 ≤ pm_0 ∧ pm_0 ≤ 80) (kz_0_49 : (-1) ≤ onlyPiece_0 ∧ onlyPiece_0 ≤ 79) : CLO (pn_0) (onlyPiece_0) (pt_0) (ph_0) (drawnEdge_0) (pieceOf_0) (drawnNode_0) (toGoal_0) (x1) (x2) (x3) (x4) (x5) (x6) (x7) (x8) (x9) (x10) (x16) := by
  first
    | (refine ⟨fun _ => ⟨‹TG3 _ _ _ _ _ _ _ _ _ _ _ _ _ _›, fun hc => ?_, ‹SMN _ _ _ _›⟩, fun h => absurd (by omega) h⟩
       first
         | omega
         | (exfalso; unfold cnd at hc; omega))
    | (refine ⟨fun h => absurd h (by omega), fun _ => ?_⟩
       have hS := ‹SMN _ _ _ _›
       unfold SMN at hS
       have v1 := (hE_0_48_1 x1 (by omega)).1 rfl
       have := smlt (n := pn_0) (f := toGoal_0) (g := toGoal_1) (i := x1) (by omega) (by omega) (fun j a b => by
         by_cases q : j = x1
         · rw [q]; omega
         · rw [(hE_0_48_1 j a).2 q]; exact Int.le_refl _) (by omega)
       omega)
def o_Mo_closer_7 : or_T := (57, 17, [(0, (2, 0, 0, [165])), (1, (0, 0, 24, [])), (2, (0, 0, 24, [])), (3, (0, 0, 24, [])), (4, (0, 0, 24, [])), (5, (0, 1, 1, [])), (6, (0, 0, 80, [])), (7, (0, 0, 1, [])), (8, (0, 0, 24, [])), (9, (0, 0, 24, [])), (10, (0, -2, 26000060, [])), (11, (2, 0, 0, [192])), (12, (0, 0, 1000001, [])), (13, (0, 0, 1000000, [])), (14, (0, 1, 1, [])), (15, (0, 1, 1000001, [])), (16, (0, 0, 0, []))], [(7, [12, 15], [5]), (1, [15, 13, 14], []), (10, [13, 11, 2], []), (9, [11, 0], [48]), (10, [12, 11, 1], []), (7, [1, 3], [0]), (8, [5], [1]), (7, [2, 4], [0]), (8, [5], [1]), (20, [0, 3, 4, 5], [60, 3, 6, 124, 31, 32, 49, 33, 34, 43, 44, 42, 48]), (20, [0, 3, 4, 5, 6, 7, 8, 9], [60, 1, 6, 125, 49, 33, 34, 43, 44, 42, 48]), (20, [0, 7, 10], [60, 1, 1, 128, 31, 48]), (20, [0, 1, 2], [60, 2, 4, 121, 32, 49, 33, 34, 43, 44]), (20, [1, 0], [30, -1, 1, 0, 0, -1, 1, 31]), (20, [2, 0], [30, -1, 1, 0, 0, -1, 1, 31])], [], [], [(20, [0, 1, 2, 3, 4, 5, 6, 7, 8, 9, 10, 16], [60, 2, 6, 129, 31, 49, 33, 34, 43, 44, 42, 48])], [], [(12, 15, -4294967296, 0), (15, 13, 1, 1), (1, 3, 0, 0), (2, 4, 0, 0)])
theorem oo_Mo_closer_7 {kA : Nat → ClassId} : or_ok PRD kA GG o_Mo_closer_7 := by
  refine or_mk fun A ta ws vs hD hth hl => ?_
  intro t0 r0 t1 k1 t2 k2 t3 k3 t4 k4 t5 k5 t6 k6 t7 k7 t8 k8 t9 k9 t10 k10 t11 r11 t12 k12 t13 k13 t14 k14 t15 k15 t16 k16 d0 d1 d2 d3 f0 f1 f2 f3 f4 f5 f6 f7 f8 f9 f10 f11 f12 f13 f14
  replace f2 := shm_107 f2
  replace f3 := shm_548 f3
  replace f4 := shm_107 f4
  have cr_0_33 := fdq_117 hD hth r0
  have cr_0_34 := fdq_118 hD hth r0
  have cr_0_42 := fdq_136 hD hth r0
  have cr_0_43 := fdq_137 hD hth r0
  have cr_0_44 := fdq_138 hD hth r0
  have cr_0_48 := fdq_144 hD hth r0
  have ad_11 : v_ad (n_v vs 11) = w_ar ws (n_v vs 0) 48 := congrArg v_ad f3
  simp only [ad_11] at f2
  have h2 : v_iv (n_v vs 13) = w_ei ws (w_ar ws (n_v vs 0) 48) (v_iv (n_v vs 2)) := f2
  simp only [ad_11] at f4
  have h4 : v_iv (n_v vs 12) = w_ei ws (w_ar ws (n_v vs 0) 48) (v_iv (n_v vs 1)) := f4
  have hK_0_33 := elq_60 hD hth cr_0_33
  have hK_0_34 := elq_61 hD hth cr_0_34
  have hK_0_42 := elq_75 hD hth cr_0_42
  have hK_0_43 := elq_76 hD hth cr_0_43
  have hK_0_44 := elq_77 hD hth cr_0_44
  have hK_0_48 := elq_82 hD hth cr_0_48
  have kz_0_31 := fdq_145 hD hth r0
  have kz_0_32 := fdq_140 hD hth r0
  have kz_0_49 := fdq_146 hD hth r0
  have nf0 : fc_1 PRD (20, [0, 1, 2, 3, 4, 5, 6, 7, 8, 9, 10, 16], [60, 2, 6, 129, 31, 49, 33, 34, 43, 44, 42, 48]) ws (vs) := ⟨nf_in hl rfl, sgq_554 (vc_Mo_closer_7_0 (v_iv (n_v vs 1)) (v_iv (n_v vs 2)) (v_iv (n_v vs 3)) (v_iv (n_v vs 4)) (v_iv (n_v vs 5)) (v_iv (n_v vs 6)) (v_iv (n_v vs 7)) (v_iv (n_v vs 8)) (v_iv (n_v vs 9)) (v_iv (n_v vs 10)) (v_iv (n_v vs 12)) (v_iv (n_v vs 13)) (v_iv (n_v vs 14)) (v_iv (n_v vs 15)) (v_iv (n_v vs 16)) (w_ei ws (w_ar ws (n_v vs 0) 48)) (w_ei ws (w_ar ws (n_v vs 0) 33)) (w_ei ws (w_ar ws (n_v vs 0) 34)) (w_ei ws (w_ar ws (n_v vs 0) 43)) (w_ei ws (w_ar ws (n_v vs 0) 44)) (w_ei ws (w_ar ws (n_v vs 0) 42)) (w_fi ws (n_v vs 0) 31) (w_fi ws (n_v vs 0) 32) (w_fi ws (n_v vs 0) 49) k1 k2 k3 k4 k5 k6 k7 k8 k9 k10 k12 k13 k14 k15 k16 d0 d1 d2 d3 (shm_24 f0) (shm_12 f1) h2 h4 (shm_37 f5) (shm_142 f6) (shm_37 f7) (shm_142 f8) (shm_549 f9) (shm_550 f10) (shm_551 f11) (shm_552 f12) (shm_553 f13) (shm_553 f14) hK_0_33 hK_0_34 hK_0_42 hK_0_43 hK_0_44 hK_0_48 kz_0_31 kz_0_32 kz_0_49)⟩
  refine ⟨(fun _ h => (by cases h)), [], trivial, ?_, (fun _ h => (by cases h))⟩
  rw [List.append_nil]
  exact List.forall_mem_cons.mpr ⟨⟨show (20 : Nat) < 100 from by decide, nf0⟩, (fun _ h => (by cases h))⟩
set_option maxHeartbeats 4000000 in
theorem vc_Mo_closer_8_0 (x1 : Int) (x2 : Int) (x3 : Int) (x4 : Int) (x5 : Int) (x6 : Int) (x7 : Int) (x8 : Int) (x9 : Int) (x10 : Int) (x12 : Int) (x13 : Int) (drawnNode_0 : Int → Int) (pt_0 : Int → Int) (ph_0 : Int → Int) (drawnEdge_0 : Int → Int) (pieceOf_0 : Int → Int) (toGoal_0 : Int → Int) (pn_0 : Int) (pm_0 : Int) (onlyPiece_0 : Int) (k1 : 0 ≤ x1 ∧ x1 ≤ 24) (k2 : 0 ≤ x2 ∧ x2 ≤ 24) (k3 : 0 ≤ x3 ∧ x3 ≤ 24) (k4 : 0 ≤ x4 ∧ x4 ≤ 24) (k5 : 1 ≤ x5 ∧ x5 ≤ 1) (k6 : 0 ≤ x6 ∧ x6 ≤ 80) (k7 : 0 ≤ x7 ∧ x7 ≤ 1) (k8 : 0 ≤ x8 ∧ x8 ≤ 24) (k9 : 0 ≤ x9 ∧ x9 ≤ 24) (k10 : (-2) ≤ x10 ∧ x10 ≤ 26000060) (k12 : 1 ≤ x12 ∧ x12 ≤ 1) (k13 : 0 ≤ x13 ∧ x13 ≤ 0) (d0 : x4 + 0 ≤ x2 ∧ x2 ≤ x4 + 0) (f0 : x12 ≠ 0) (h1 : x12 = drawnNode_0 (x1)) (f3 : x1 ≠ x3) (f4 : x5 ≠ 0) (f5 : x2 = x4) (f6 : x5 ≠ 0) (f7 : TGI (pn_0) (pm_0) (onlyPiece_0) (pt_0) (ph_0) (drawnEdge_0) (pieceOf_0) (drawnNode_0) (toGoal_0) (x3) (x4) (x5)) (f8 : TG3 (onlyPiece_0) (pt_0) (ph_0) (drawnEdge_0) (pieceOf_0) (drawnNode_0) (toGoal_0) (x3) (x4) (x5) (x6) (x7) (x8) (x9)) (f9 : SMN (pn_0) (toGoal_0) (x7) (x10)) (f10 : ARC (pm_0) (onlyPiece_0) (pt_0) (ph_0) (drawnEdge_0) (pieceOf_0) (x1) (x2)) (f11 : 1 * x1 + ((-1) * pn_0 + 0) ≤ (-1)) (f12 : 1 * x2 + ((-1) * pn_0 + 0) ≤ (-1)) (hK_0_33 : ∀ j : Int, 0 ≤ j → j < 80 → 0 ≤ pt_0 j ∧ pt_0 j ≤ 24) (hK_0_34 : ∀ j : Int, 0 ≤ j → j < 80 → 0 ≤ ph_0 j ∧ ph_0 j ≤ 24) (hK_0_42 : ∀ j : Int, 0 ≤ j → j < 26 → 0 ≤ drawnNode_0 j ∧ drawnNode_0 j ≤ 1) (hK_0_43 : ∀ j : Int, 0 ≤ j → j < 80 → 0 ≤ drawnEdge_0 j ∧ drawnEdge_0 j ≤ 1) (hK_0_44 : ∀ j : Int, 0 ≤ j → j < 80 → (-1) ≤ pieceOf_0 j ∧ pieceOf_0 j ≤ 79) (hK_0_48 : ∀ j : Int, 0 ≤ j → j < 26 → 0 ≤ toGoal_0 j ∧ toGoal_0 j ≤ 1000001) (kz_0_31 : 0 ≤ pn_0 ∧ pn_0 ≤ 25) (kz_0_32 : 0 ≤ pm_0 ∧ pm_0 ≤ 80) (kz_0_49 : (-1) ≤ onlyPiece_0 ∧ onlyPiece_0 ≤ 79) : CLO (pn_0) (onlyPiece_0) (pt_0) (ph_0) (drawnEdge_0) (pieceOf_0) (drawnNode_0) (toGoal_0) (x1) (x2) (x3) (x4) (x5) (x6) (x7) (x8) (x9) (x10) (x13) := by
  first
    | (refine ⟨fun _ => ⟨‹TG3 _ _ _ _ _ _ _ _ _ _ _ _ _ _›, fun hc => ?_, ‹SMN _ _ _ _›⟩, fun h => absurd (by omega) h⟩
       first
         | omega
         | (exfalso; unfold cnd at hc; omega))
    | (refine ⟨fun h => absurd h (by omega), fun _ => ?_⟩
       have hS := ‹SMN _ _ _ _›
       unfold SMN at hS
       have v1 := (hE_0_48_1 x1 (by omega)).1 rfl
       have := smlt (n := pn_0) (f := toGoal_0) (g := toGoal_1) (i := x1) (by omega) (by omega) (fun j a b => by
         by_cases q : j = x1
         · rw [q]; omega
         · rw [(hE_0_48_1 j a).2 q]; exact Int.le_refl _) (by omega)
       omega)
def o_Mo_closer_8 : or_T := (57, 14, [(0, (2, 0, 0, [165])), (1, (0, 0, 24, [])), (2, (0, 0, 24, [])), (3, (0, 0, 24, [])), (4, (0, 0, 24, [])), (5, (0, 1, 1, [])), (6, (0, 0, 80, [])), (7, (0, 0, 1, [])), (8, (0, 0, 24, [])), (9, (0, 0, 24, [])), (10, (0, -2, 26000060, [])), (11, (2, 0, 0, [188])), (12, (0, 1, 1, [])), (13, (0, 0, 0, []))], [(8, [12], [1]), (10, [12, 11, 1], []), (9, [11, 0], [42]), (7, [1, 3], [1]), (8, [5], [1]), (7, [2, 4], [0]), (8, [5], [1]), (20, [0, 3, 4, 5], [60, 3, 6, 124, 31, 32, 49, 33, 34, 43, 44, 42, 48]), (20, [0, 3, 4, 5, 6, 7, 8, 9], [60, 1, 6, 125, 49, 33, 34, 43, 44, 42, 48]), (20, [0, 7, 10], [60, 1, 1, 128, 31, 48]), (20, [0, 1, 2], [60, 2, 4, 121, 32, 49, 33, 34, 43, 44]), (20, [1, 0], [30, -1, 1, 0, 0, -1, 1, 31]), (20, [2, 0], [30, -1, 1, 0, 0, -1, 1, 31])], [], [], [(20, [0, 1, 2, 3, 4, 5, 6, 7, 8, 9, 10, 13], [60, 2, 6, 129, 31, 49, 33, 34, 43, 44, 42, 48])], [], [(2, 4, 0, 0)])
theorem oo_Mo_closer_8 {kA : Nat → ClassId} : or_ok PRD kA GG o_Mo_closer_8 := by
  refine or_mk fun A ta ws vs hD hth hl => ?_
  intro t0 r0 t1 k1 t2 k2 t3 k3 t4 k4 t5 k5 t6 k6 t7 k7 t8 k8 t9 k9 t10 k10 t11 r11 t12 k12 t13 k13 d0 f0 f1 f2 f3 f4 f5 f6 f7 f8 f9 f10 f11 f12
  replace f1 := shm_107 f1
  replace f2 := shm_531 f2
  have cr_0_33 := fdq_117 hD hth r0
  have cr_0_34 := fdq_118 hD hth r0
  have cr_0_42 := fdq_136 hD hth r0
  have cr_0_43 := fdq_137 hD hth r0
  have cr_0_44 := fdq_138 hD hth r0
  have cr_0_48 := fdq_144 hD hth r0
  have ad_11 : v_ad (n_v vs 11) = w_ar ws (n_v vs 0) 42 := congrArg v_ad f2
  simp only [ad_11] at f1
  have h1 : v_iv (n_v vs 12) = w_ei ws (w_ar ws (n_v vs 0) 42) (v_iv (n_v vs 1)) := f1
  have hK_0_33 := elq_60 hD hth cr_0_33
  have hK_0_34 := elq_61 hD hth cr_0_34
  have hK_0_42 := elq_75 hD hth cr_0_42
  have hK_0_43 := elq_76 hD hth cr_0_43
  have hK_0_44 := elq_77 hD hth cr_0_44
  have hK_0_48 := elq_82 hD hth cr_0_48
  have kz_0_31 := fdq_145 hD hth r0
  have kz_0_32 := fdq_140 hD hth r0
  have kz_0_49 := fdq_146 hD hth r0
  have nf0 : fc_1 PRD (20, [0, 1, 2, 3, 4, 5, 6, 7, 8, 9, 10, 13], [60, 2, 6, 129, 31, 49, 33, 34, 43, 44, 42, 48]) ws (vs) := ⟨nf_in hl rfl, sgq_554 (vc_Mo_closer_8_0 (v_iv (n_v vs 1)) (v_iv (n_v vs 2)) (v_iv (n_v vs 3)) (v_iv (n_v vs 4)) (v_iv (n_v vs 5)) (v_iv (n_v vs 6)) (v_iv (n_v vs 7)) (v_iv (n_v vs 8)) (v_iv (n_v vs 9)) (v_iv (n_v vs 10)) (v_iv (n_v vs 12)) (v_iv (n_v vs 13)) (w_ei ws (w_ar ws (n_v vs 0) 42)) (w_ei ws (w_ar ws (n_v vs 0) 33)) (w_ei ws (w_ar ws (n_v vs 0) 34)) (w_ei ws (w_ar ws (n_v vs 0) 43)) (w_ei ws (w_ar ws (n_v vs 0) 44)) (w_ei ws (w_ar ws (n_v vs 0) 48)) (w_fi ws (n_v vs 0) 31) (w_fi ws (n_v vs 0) 32) (w_fi ws (n_v vs 0) 49) k1 k2 k3 k4 k5 k6 k7 k8 k9 k10 k12 k13 d0 (shm_142 f0) h1 (shm_40 f3) (shm_142 f4) (shm_37 f5) (shm_142 f6) (shm_549 f7) (shm_550 f8) (shm_551 f9) (shm_552 f10) (shm_553 f11) (shm_553 f12) hK_0_33 hK_0_34 hK_0_42 hK_0_43 hK_0_44 hK_0_48 kz_0_31 kz_0_32 kz_0_49)⟩
  refine ⟨(fun _ h => (by cases h)), [], trivial, ?_, (fun _ h => (by cases h))⟩
  rw [List.append_nil]
  exact List.forall_mem_cons.mpr ⟨⟨show (20 : Nat) < 100 from by decide, nf0⟩, (fun _ h => (by cases h))⟩
def o_Mo_closer_9 : or_T := (51, 16, [(0, (2, 0, 0, [165])), (1, (0, 0, 24, [])), (2, (0, 0, 24, [])), (3, (0, 0, 24, [])), (4, (0, 0, 24, [])), (5, (0, 1, 1, [])), (6, (0, 0, 80, [])), (7, (0, 0, 1, [])), (8, (0, 0, 24, [])), (9, (0, 0, 24, [])), (10, (0, -2, 26000060, [])), (11, (2, 0, 0, [188])), (12, (0, 0, 0, [])), (13, (2, 0, 0, [192])), (14, (0, 0, 1000001, [])), (15, (0, 0, 1000001, []))], [(10, [15, 13, 2], []), (9, [13, 0], [48]), (10, [14, 13, 1], []), (8, [12], [0]), (10, [12, 11, 1], []), (9, [11, 0], [42]), (7, [1, 3], [1]), (8, [5], [1]), (7, [2, 4], [0]), (8, [5], [1]), (20, [0, 3, 4, 5], [60, 3, 6, 124, 31, 32, 49, 33, 34, 43, 44, 42, 48]), (20, [0, 3, 4, 5, 6, 7, 8, 9], [60, 1, 6, 125, 49, 33, 34, 43, 44, 42, 48]), (20, [0, 7, 10], [60, 1, 1, 128, 31, 48]), (20, [0, 1, 2], [60, 2, 4, 121, 32, 49, 33, 34, 43, 44]), (20, [1, 0], [30, -1, 1, 0, 0, -1, 1, 31]), (20, [2, 0], [30, -1, 1, 0, 0, -1, 1, 31])], [(15, (0, 0, 1000000, []))], [], [], [], [(2, 4, 0, 0)])
theorem oo_Mo_closer_9 {kA : Nat → ClassId} : or_ok PRD kA GG o_Mo_closer_9 := by
  refine or_mk fun A ta ws vs hD hth hl => ?_
  intro t0 r0 t1 k1 t2 k2 t3 k3 t4 k4 t5 k5 t6 k6 t7 k7 t8 k8 t9 k9 t10 k10 t11 r11 t12 k12 t13 r13 t14 k14 t15 k15 d0 f0 f1 f2 f3 f4 f5 f6 f7 f8 f9 f10 f11 f12 f13 f14 f15
  replace f0 := shm_107 f0
  replace f1 := shm_548 f1
  replace f2 := shm_107 f2
  replace f3 := shm_192 f3
  replace f4 := shm_107 f4
  replace f5 := shm_531 f5
  replace f6 := shm_40 f6
  replace f7 := shm_142 f7
  replace f8 := shm_37 f8
  replace f9 := shm_142 f9
  replace f10 := shm_549 f10
  replace f11 := shm_550 f11
  replace f12 := shm_551 f12
  replace f13 := shm_552 f13
  replace f14 := shm_553 f14
  replace f15 := shm_553 f15
  have cr_0_33 := fdq_117 hD hth r0
  have cr_0_34 := fdq_118 hD hth r0
  have cr_0_42 := fdq_136 hD hth r0
  have cr_0_43 := fdq_137 hD hth r0
  have cr_0_44 := fdq_138 hD hth r0
  have cr_0_48 := fdq_144 hD hth r0
  have ad_13 : v_ad (n_v vs 13) = w_ar ws (n_v vs 0) 48 := congrArg v_ad f1
  have ad_11 : v_ad (n_v vs 11) = w_ar ws (n_v vs 0) 42 := congrArg v_ad f5
  simp only [ad_13] at f0
  have h0 : v_iv (n_v vs 15) = w_ei ws (w_ar ws (n_v vs 0) 48) (v_iv (n_v vs 2)) := f0
  simp only [ad_13] at f2
  have h2 : v_iv (n_v vs 14) = w_ei ws (w_ar ws (n_v vs 0) 48) (v_iv (n_v vs 1)) := f2
  simp only [ad_11] at f4
  have h4 : v_iv (n_v vs 12) = w_ei ws (w_ar ws (n_v vs 0) 42) (v_iv (n_v vs 1)) := f4
  have br_0_42_1_0 : w_ei ws (w_ar ws (n_v vs 0) 42) (v_iv (n_v vs 1)) = w_el ws (w_ar ws (n_v vs 0) 42) (v_iv (n_v vs 1)).toNat := rfl
  have br_0_48_1_0 : w_ei ws (w_ar ws (n_v vs 0) 48) (v_iv (n_v vs 1)) = w_el ws (w_ar ws (n_v vs 0) 48) (v_iv (n_v vs 1)).toNat := rfl
  have br_0_48_2_0 : w_ei ws (w_ar ws (n_v vs 0) 48) (v_iv (n_v vs 2)) = w_el ws (w_ar ws (n_v vs 0) 48) (v_iv (n_v vs 2)).toNat := rfl
  have hK_0_33 := elq_60 hD hth cr_0_33
  have hK_0_34 := elq_61 hD hth cr_0_34
  have hK_0_42 := elq_75 hD hth cr_0_42
  have hK_0_43 := elq_76 hD hth cr_0_43
  have hK_0_44 := elq_77 hD hth cr_0_44
  have hK_0_48 := elq_82 hD hth cr_0_48
  have kz_0_31 := fdq_145 hD hth r0
  have kz_0_32 := fdq_140 hD hth r0
  have kz_0_49 := fdq_146 hD hth r0
  first | have hR := tgi_rng (i := v_iv (n_v vs 2)) ‹TGI _ _ _ _ _ _ _ _ _ _ _ _› (by omega) (by omega) | skip
  have rf15 : tv_ok ta (0, 0, 1000000, []) (n_v vs 15) := tv_in t15 (by first | omega | grind) (by first | omega | grind)
  refine ⟨List.forall_mem_cons.mpr ⟨rf15, (fun _ h => (by cases h))⟩, [], trivial, ?_, (fun _ h => (by cases h))⟩
  rw [List.append_nil]
  exact (fun _ h => (by cases h))
def o_Mo_closer_10 : or_T := (69, 19, [(0, (2, 0, 0, [165])), (1, (0, 0, 24, [])), (2, (0, 0, 24, [])), (3, (0, 0, 24, [])), (4, (0, 0, 24, [])), (5, (0, 1, 1, [])), (6, (0, 0, 80, [])), (7, (0, 0, 1, [])), (8, (0, 0, 24, [])), (9, (0, 0, 24, [])), (10, (0, -2, 26000060, [])), (11, (2, 0, 0, [188])), (12, (0, 0, 0, [])), (13, (2, 0, 0, [192])), (14, (0, 2, 1000001, [])), (15, (0, 0, 999999, [])), (16, (0, 1, 1, [])), (17, (0, 1, 1000000, [])), (18, (0, 0, 1000001, []))], [(10, [18, 13, 2], []), (9, [13, 0], [48]), (7, [14, 17], [4]), (1, [17, 15, 16], []), (10, [15, 13, 2], []), (10, [14, 13, 1], []), (8, [12], [0]), (10, [12, 11, 1], []), (9, [11, 0], [42]), (7, [1, 3], [1]), (8, [5], [1]), (7, [2, 4], [0]), (8, [5], [1]), (20, [0, 3, 4, 5], [60, 3, 6, 124, 31, 32, 49, 33, 34, 43, 44, 42, 48]), (20, [0, 3, 4, 5, 6, 7, 8, 9], [60, 1, 6, 125, 49, 33, 34, 43, 44, 42, 48]), (20, [0, 7, 10], [60, 1, 1, 128, 31, 48]), (20, [0, 1, 2], [60, 2, 4, 121, 32, 49, 33, 34, 43, 44]), (20, [1, 0], [30, -1, 1, 0, 0, -1, 1, 31]), (20, [2, 0], [30, -1, 1, 0, 0, -1, 1, 31])], [(18, (0, 0, 1000000, []))], [], [], [], [(14, 17, 1, 4294967296), (17, 15, 1, 1), (2, 4, 0, 0)])
theorem oo_Mo_closer_10 {kA : Nat → ClassId} : or_ok PRD kA GG o_Mo_closer_10 := by
  refine or_mk fun A ta ws vs hD hth hl => ?_
  intro t0 r0 t1 k1 t2 k2 t3 k3 t4 k4 t5 k5 t6 k6 t7 k7 t8 k8 t9 k9 t10 k10 t11 r11 t12 k12 t13 r13 t14 k14 t15 k15 t16 k16 t17 k17 t18 k18 d0 d1 d2 f0 f1 f2 f3 f4 f5 f6 f7 f8 f9 f10 f11 f12 f13 f14 f15 f16 f17 f18
  replace f0 := shm_107 f0
  replace f1 := shm_548 f1
  replace f2 := shm_21 f2
  replace f3 := shm_12 f3
  replace f4 := shm_107 f4
  replace f5 := shm_107 f5
  replace f6 := shm_192 f6
  replace f7 := shm_107 f7
  replace f8 := shm_531 f8
  replace f9 := shm_40 f9
  replace f10 := shm_142 f10
  replace f11 := shm_37 f11
  replace f12 := shm_142 f12
  replace f13 := shm_549 f13
  replace f14 := shm_550 f14
  replace f15 := shm_551 f15
  replace f16 := shm_552 f16
  replace f17 := shm_553 f17
  replace f18 := shm_553 f18
  have cr_0_33 := fdq_117 hD hth r0
  have cr_0_34 := fdq_118 hD hth r0
  have cr_0_42 := fdq_136 hD hth r0
  have cr_0_43 := fdq_137 hD hth r0
  have cr_0_44 := fdq_138 hD hth r0
  have cr_0_48 := fdq_144 hD hth r0
  have ad_13 : v_ad (n_v vs 13) = w_ar ws (n_v vs 0) 48 := congrArg v_ad f1
  have ad_11 : v_ad (n_v vs 11) = w_ar ws (n_v vs 0) 42 := congrArg v_ad f8
  simp only [ad_13] at f0
  have h0 : v_iv (n_v vs 18) = w_ei ws (w_ar ws (n_v vs 0) 48) (v_iv (n_v vs 2)) := f0
  simp only [ad_13] at f4
  have h4 : v_iv (n_v vs 15) = w_ei ws (w_ar ws (n_v vs 0) 48) (v_iv (n_v vs 2)) := f4
  simp only [ad_13] at f5
  have h5 : v_iv (n_v vs 14) = w_ei ws (w_ar ws (n_v vs 0) 48) (v_iv (n_v vs 1)) := f5
  simp only [ad_11] at f7
  have h7 : v_iv (n_v vs 12) = w_ei ws (w_ar ws (n_v vs 0) 42) (v_iv (n_v vs 1)) := f7
  have br_0_42_1_0 : w_ei ws (w_ar ws (n_v vs 0) 42) (v_iv (n_v vs 1)) = w_el ws (w_ar ws (n_v vs 0) 42) (v_iv (n_v vs 1)).toNat := rfl
  have br_0_48_1_0 : w_ei ws (w_ar ws (n_v vs 0) 48) (v_iv (n_v vs 1)) = w_el ws (w_ar ws (n_v vs 0) 48) (v_iv (n_v vs 1)).toNat := rfl
  have br_0_48_2_0 : w_ei ws (w_ar ws (n_v vs 0) 48) (v_iv (n_v vs 2)) = w_el ws (w_ar ws (n_v vs 0) 48) (v_iv (n_v vs 2)).toNat := rfl
  have hK_0_33 := elq_60 hD hth cr_0_33
  have hK_0_34 := elq_61 hD hth cr_0_34
  have hK_0_42 := elq_75 hD hth cr_0_42
  have hK_0_43 := elq_76 hD hth cr_0_43
  have hK_0_44 := elq_77 hD hth cr_0_44
  have hK_0_48 := elq_82 hD hth cr_0_48
  have kz_0_31 := fdq_145 hD hth r0
  have kz_0_32 := fdq_140 hD hth r0
  have kz_0_49 := fdq_146 hD hth r0
  first | have hR := tgi_rng (i := v_iv (n_v vs 2)) ‹TGI _ _ _ _ _ _ _ _ _ _ _ _› (by omega) (by omega) | skip
  have rf18 : tv_ok ta (0, 0, 1000000, []) (n_v vs 18) := tv_in t18 (by first | omega | grind) (by first | omega | grind)
  refine ⟨List.forall_mem_cons.mpr ⟨rf18, (fun _ h => (by cases h))⟩, [], trivial, ?_, (fun _ h => (by cases h))⟩
  rw [List.append_nil]
  exact (fun _ h => (by cases h))
set_option maxHeartbeats 4000000 in
theorem vc_Mo_closer_11_0 (x1 : Int) (x2 : Int) (x3 : Int) (x4 : Int) (x5 : Int) (x6 : Int) (x7 : Int) (x8 : Int) (x9 : Int) (x10 : Int) (x12 : Int) (x14 : Int) (x15 : Int) (x16 : Int) (x17 : Int) (x18 : Int) (x19 : Int) (x20 : Int) (x21 : Int) (pt_0 : Int → Int) (ph_0 : Int → Int) (drawnEdge_0 : Int → Int) (pieceOf_0 : Int → Int) (pm_0 : Int) (onlyPiece_0 : Int) (pn_0 : Int) (toGoal_1 : Int → Int) (drawnNode_1 : Int → Int) (pt_1 : Int → Int) (ph_1 : Int → Int) (drawnEdge_1 : Int → Int) (pieceOf_1 : Int → Int) (pn_1 : Int) (pm_1 : Int) (onlyPiece_1 : Int) (drawnNode_0 : Int → Int) (toGoal_0 : Int → Int) (k1 : 0 ≤ x1 ∧ x1 ≤ 24) (k2 : 0 ≤ x2 ∧ x2 ≤ 24) (k3 : 0 ≤ x3 ∧ x3 ≤ 24) (k4 : 0 ≤ x4 ∧ x4 ≤ 24) (k5 : 1 ≤ x5 ∧ x5 ≤ 1) (k6 : 0 ≤ x6 ∧ x6 ≤ 80) (k7 : 0 ≤ x7 ∧ x7 ≤ 1) (k8 : 0 ≤ x8 ∧ x8 ≤ 24) (k9 : 0 ≤ x9 ∧ x9 ≤ 24) (k10 : (-2) ≤ x10 ∧ x10 ≤ 26000060) (k12 : 0 ≤ x12 ∧ x12 ≤ 0) (k14 : 2 ≤ x14 ∧ x14 ≤ 1000001) (k15 : 0 ≤ x15 ∧ x15 ≤ 999999) (k16 : 1 ≤ x16 ∧ x16 ≤ 1) (k17 : 1 ≤ x17 ∧ x17 ≤ 1000000) (k18 : 0 ≤ x18 ∧ x18 ≤ 1000000) (k19 : 1 ≤ x19 ∧ x19 ≤ 1) (k20 : 1 ≤ x20 ∧ x20 ≤ 1000001) (k21 : 1 ≤ x21 ∧ x21 ≤ 1) (d0 : x18 + 1 ≤ x20 ∧ x20 ≤ x18 + 1) (d1 : x17 + 1 ≤ x14 ∧ x14 ≤ x17 + 4294967296) (d2 : x15 + 1 ≤ x17 ∧ x17 ≤ x15 + 1) (d3 : x4 + 0 ≤ x2 ∧ x2 ≤ x4 + 0) (f0 : ARC (pm_0) (onlyPiece_0) (pt_0) (ph_0) (drawnEdge_0) (pieceOf_0) (x1) (x2)) (f1 : 1 * x1 + ((-1) * pn_0 + 0) ≤ (-1)) (f2 : 1 * x2 + ((-1) * pn_0 + 0) ≤ (-1)) (f4 : x20 = x18 + x19) (h5 : x18 = toGoal_1 (x2)) (f7 : x17 < x14) (f8 : x17 = x15 + x16) (h9 : x15 = toGoal_1 (x2)) (h10 : x14 = toGoal_1 (x1)) (f11 : x12 = 0) (h12 : x12 = drawnNode_1 (x1)) (f14 : x1 ≠ x3) (f15 : x5 ≠ 0) (f16 : x2 = x4) (f17 : x5 ≠ 0) (f18 : TGI (pn_1) (pm_1) (onlyPiece_1) (pt_1) (ph_1) (drawnEdge_1) (pieceOf_1) (drawnNode_1) (toGoal_1) (x3) (x4) (x5)) (f19 : TG3 (onlyPiece_1) (pt_1) (ph_1) (drawnEdge_1) (pieceOf_1) (drawnNode_1) (toGoal_1) (x3) (x4) (x5) (x6) (x7) (x8) (x9)) (f20 : SMN (pn_1) (toGoal_1) (x7) (x10)) (f21 : ARC (pm_1) (onlyPiece_1) (pt_1) (ph_1) (drawnEdge_1) (pieceOf_1) (x1) (x2)) (f22 : 1 * x1 + ((-1) * pn_1 + 0) ≤ (-1)) (f23 : 1 * x2 + ((-1) * pn_1 + 0) ≤ (-1)) (fe_0_31_1 : pn_0 = pn_1) (fe_0_32_1 : pm_0 = pm_1) (fe_0_49_1 : onlyPiece_0 = onlyPiece_1) (hE_0_33_1 : ∀ j : Int, pt_0 j = pt_1 j) (hK_0_33 : ∀ j : Int, 0 ≤ j → j < 80 → 0 ≤ pt_0 j ∧ pt_0 j ≤ 24) (hE_0_34_1 : ∀ j : Int, ph_0 j = ph_1 j) (hK_0_34 : ∀ j : Int, 0 ≤ j → j < 80 → 0 ≤ ph_0 j ∧ ph_0 j ≤ 24) (hE_0_42_1 : ∀ j : Int, drawnNode_0 j = drawnNode_1 j) (hK_0_42 : ∀ j : Int, 0 ≤ j → j < 26 → 0 ≤ drawnNode_0 j ∧ drawnNode_0 j ≤ 1) (hE_0_43_1 : ∀ j : Int, drawnEdge_0 j = drawnEdge_1 j) (hK_0_43 : ∀ j : Int, 0 ≤ j → j < 80 → 0 ≤ drawnEdge_0 j ∧ drawnEdge_0 j ≤ 1) (hE_0_44_1 : ∀ j : Int, pieceOf_0 j = pieceOf_1 j) (hK_0_44 : ∀ j : Int, 0 ≤ j → j < 80 → (-1) ≤ pieceOf_0 j ∧ pieceOf_0 j ≤ 79) (hE_0_48_1 : ∀ j : Int, 0 ≤ j → (j = x1 → toGoal_0 j = x20) ∧ (j ≠ x1 → toGoal_0 j = toGoal_1 j)) (hK_0_48 : ∀ j : Int, 0 ≤ j → j < 26 → 0 ≤ toGoal_0 j ∧ toGoal_0 j ≤ 1000001) (kz_0_31 : 0 ≤ pn_0 ∧ pn_0 ≤ 25) (kz_0_32 : 0 ≤ pm_0 ∧ pm_0 ≤ 80) (kz_0_49 : (-1) ≤ onlyPiece_0 ∧ onlyPiece_0 ≤ 79) : TGI (pn_0) (pm_0) (onlyPiece_0) (pt_0) (ph_0) (drawnEdge_0) (pieceOf_0) (drawnNode_0) (toGoal_0) (x3) (x4) (x5) := by
  subst fe_0_31_1
  subst fe_0_32_1
  subst fe_0_49_1
  have e_hE_0_33_1 := funext hE_0_33_1; subst e_hE_0_33_1
  have e_hE_0_34_1 := funext hE_0_34_1; subst e_hE_0_34_1
  have e_hE_0_42_1 := funext hE_0_42_1; subst e_hE_0_42_1
  have e_hE_0_43_1 := funext hE_0_43_1; subst e_hE_0_43_1
  have e_hE_0_44_1 := funext hE_0_44_1; subst e_hE_0_44_1
  first
    | assumption
    | (refine tg_lower (i := x1) (j := x2) ‹TGI _ _ _ _ _ _ _ _ toGoal_1 _ _ _› (by omega) (by omega) (by omega) (by omega) ‹ARC _ _ _ _ _ _ x1 x2› ?_ ?_ (fun y a b => (hE_0_48_1 y a).2 b) ?_ (by omega)
       · exact ⟨by first | exact Or.inl (by omega) | exact Or.inr (Or.inl (by omega)) | exact Or.inr (Or.inr (by omega)), by first | exact Or.inl (by omega) | exact Or.inr (Or.inl (by omega)) | exact Or.inr (Or.inr (by omega))⟩
       · omega
       · rw [(hE_0_48_1 x1 (by omega)).1 rfl]; omega)
set_option maxHeartbeats 4000000 in
theorem vc_Mo_closer_11_1 (x1 : Int) (x2 : Int) (x3 : Int) (x4 : Int) (x5 : Int) (x6 : Int) (x7 : Int) (x8 : Int) (x9 : Int) (x10 : Int) (x12 : Int) (x14 : Int) (x15 : Int) (x16 : Int) (x17 : Int) (x18 : Int) (x19 : Int) (x20 : Int) (x21 : Int) (pt_0 : Int → Int) (ph_0 : Int → Int) (drawnEdge_0 : Int → Int) (pieceOf_0 : Int → Int) (pm_0 : Int) (onlyPiece_0 : Int) (pn_0 : Int) (toGoal_1 : Int → Int) (drawnNode_1 : Int → Int) (pt_1 : Int → Int) (ph_1 : Int → Int) (drawnEdge_1 : Int → Int) (pieceOf_1 : Int → Int) (pn_1 : Int) (pm_1 : Int) (onlyPiece_1 : Int) (drawnNode_0 : Int → Int) (toGoal_0 : Int → Int) (k1 : 0 ≤ x1 ∧ x1 ≤ 24) (k2 : 0 ≤ x2 ∧ x2 ≤ 24) (k3 : 0 ≤ x3 ∧ x3 ≤ 24) (k4 : 0 ≤ x4 ∧ x4 ≤ 24) (k5 : 1 ≤ x5 ∧ x5 ≤ 1) (k6 : 0 ≤ x6 ∧ x6 ≤ 80) (k7 : 0 ≤ x7 ∧ x7 ≤ 1) (k8 : 0 ≤ x8 ∧ x8 ≤ 24) (k9 : 0 ≤ x9 ∧ x9 ≤ 24) (k10 : (-2) ≤ x10 ∧ x10 ≤ 26000060) (k12 : 0 ≤ x12 ∧ x12 ≤ 0) (k14 : 2 ≤ x14 ∧ x14 ≤ 1000001) (k15 : 0 ≤ x15 ∧ x15 ≤ 999999) (k16 : 1 ≤ x16 ∧ x16 ≤ 1) (k17 : 1 ≤ x17 ∧ x17 ≤ 1000000) (k18 : 0 ≤ x18 ∧ x18 ≤ 1000000) (k19 : 1 ≤ x19 ∧ x19 ≤ 1) (k20 : 1 ≤ x20 ∧ x20 ≤ 1000001) (k21 : 1 ≤ x21 ∧ x21 ≤ 1) (d0 : x18 + 1 ≤ x20 ∧ x20 ≤ x18 + 1) (d1 : x17 + 1 ≤ x14 ∧ x14 ≤ x17 + 4294967296) (d2 : x15 + 1 ≤ x17 ∧ x17 ≤ x15 + 1) (d3 : x4 + 0 ≤ x2 ∧ x2 ≤ x4 + 0) (f0 : ARC (pm_0) (onlyPiece_0) (pt_0) (ph_0) (drawnEdge_0) (pieceOf_0) (x1) (x2)) (f1 : 1 * x1 + ((-1) * pn_0 + 0) ≤ (-1)) (f2 : 1 * x2 + ((-1) * pn_0 + 0) ≤ (-1)) (f4 : x20 = x18 + x19) (h5 : x18 = toGoal_1 (x2)) (f7 : x17 < x14) (f8 : x17 = x15 + x16) (h9 : x15 = toGoal_1 (x2)) (h10 : x14 = toGoal_1 (x1)) (f11 : x12 = 0) (h12 : x12 = drawnNode_1 (x1)) (f14 : x1 ≠ x3) (f15 : x5 ≠ 0) (f16 : x2 = x4) (f17 : x5 ≠ 0) (f18 : TGI (pn_1) (pm_1) (onlyPiece_1) (pt_1) (ph_1) (drawnEdge_1) (pieceOf_1) (drawnNode_1) (toGoal_1) (x3) (x4) (x5)) (f19 : TG3 (onlyPiece_1) (pt_1) (ph_1) (drawnEdge_1) (pieceOf_1) (drawnNode_1) (toGoal_1) (x3) (x4) (x5) (x6) (x7) (x8) (x9)) (f20 : SMN (pn_1) (toGoal_1) (x7) (x10)) (f21 : ARC (pm_1) (onlyPiece_1) (pt_1) (ph_1) (drawnEdge_1) (pieceOf_1) (x1) (x2)) (f22 : 1 * x1 + ((-1) * pn_1 + 0) ≤ (-1)) (f23 : 1 * x2 + ((-1) * pn_1 + 0) ≤ (-1)) (fe_0_31_1 : pn_0 = pn_1) (fe_0_32_1 : pm_0 = pm_1) (fe_0_49_1 : onlyPiece_0 = onlyPiece_1) (hE_0_33_1 : ∀ j : Int, pt_0 j = pt_1 j) (hK_0_33 : ∀ j : Int, 0 ≤ j → j < 80 → 0 ≤ pt_0 j ∧ pt_0 j ≤ 24) (hE_0_34_1 : ∀ j : Int, ph_0 j = ph_1 j) (hK_0_34 : ∀ j : Int, 0 ≤ j → j < 80 → 0 ≤ ph_0 j ∧ ph_0 j ≤ 24) (hE_0_42_1 : ∀ j : Int, drawnNode_0 j = drawnNode_1 j) (hK_0_42 : ∀ j : Int, 0 ≤ j → j < 26 → 0 ≤ drawnNode_0 j ∧ drawnNode_0 j ≤ 1) (hE_0_43_1 : ∀ j : Int, drawnEdge_0 j = drawnEdge_1 j) (hK_0_43 : ∀ j : Int, 0 ≤ j → j < 80 → 0 ≤ drawnEdge_0 j ∧ drawnEdge_0 j ≤ 1) (hE_0_44_1 : ∀ j : Int, pieceOf_0 j = pieceOf_1 j) (hK_0_44 : ∀ j : Int, 0 ≤ j → j < 80 → (-1) ≤ pieceOf_0 j ∧ pieceOf_0 j ≤ 79) (hE_0_48_1 : ∀ j : Int, 0 ≤ j → (j = x1 → toGoal_0 j = x20) ∧ (j ≠ x1 → toGoal_0 j = toGoal_1 j)) (hK_0_48 : ∀ j : Int, 0 ≤ j → j < 26 → 0 ≤ toGoal_0 j ∧ toGoal_0 j ≤ 1000001) (kz_0_31 : 0 ≤ pn_0 ∧ pn_0 ≤ 25) (kz_0_32 : 0 ≤ pm_0 ∧ pm_0 ≤ 80) (kz_0_49 : (-1) ≤ onlyPiece_0 ∧ onlyPiece_0 ≤ 79) : CLO (pn_0) (onlyPiece_0) (pt_0) (ph_0) (drawnEdge_0) (pieceOf_0) (drawnNode_0) (toGoal_0) (x1) (x2) (x3) (x4) (x5) (x6) (x7) (x8) (x9) (x10) (x21) := by
  subst fe_0_31_1
  subst fe_0_32_1
  subst fe_0_49_1
  have e_hE_0_33_1 := funext hE_0_33_1; subst e_hE_0_33_1
  have e_hE_0_34_1 := funext hE_0_34_1; subst e_hE_0_34_1
  have e_hE_0_42_1 := funext hE_0_42_1; subst e_hE_0_42_1
  have e_hE_0_43_1 := funext hE_0_43_1; subst e_hE_0_43_1
  have e_hE_0_44_1 := funext hE_0_44_1; subst e_hE_0_44_1
  first
    | (refine ⟨fun _ => ⟨‹TG3 _ _ _ _ _ _ _ _ _ _ _ _ _ _›, fun hc => ?_, ‹SMN _ _ _ _›⟩, fun h => absurd (by omega) h⟩
       first
         | omega
         | (exfalso; unfold cnd at hc; omega))
    | (refine ⟨fun h => absurd h (by omega), fun _ => ?_⟩
       have hS := ‹SMN _ _ _ _›
       unfold SMN at hS
       have v1 := (hE_0_48_1 x1 (by omega)).1 rfl
       have := smlt (n := pn_0) (f := toGoal_0) (g := toGoal_1) (i := x1) (by omega) (by omega) (fun j a b => by
         by_cases q : j = x1
         · rw [q]; omega
         · rw [(hE_0_48_1 j a).2 q]; exact Int.le_refl _) (by omega)
       omega)
def o_Mo_closer_11 : or_T := (73, 22, [(0, (2, 0, 0, [165])), (1, (0, 0, 24, [])), (2, (0, 0, 24, [])), (3, (0, 0, 24, [])), (4, (0, 0, 24, [])), (5, (0, 1, 1, [])), (6, (0, 0, 80, [])), (7, (0, 0, 1, [])), (8, (0, 0, 24, [])), (9, (0, 0, 24, [])), (10, (0, -2, 26000060, [])), (11, (2, 0, 0, [188])), (12, (0, 0, 0, [])), (13, (2, 0, 0, [192])), (14, (0, 2, 1000001, [])), (15, (0, 0, 999999, [])), (16, (0, 1, 1, [])), (17, (0, 1, 1000000, [])), (18, (0, 0, 1000000, [])), (19, (0, 1, 1, [])), (20, (0, 1, 1000001, [])), (21, (0, 1, 1, []))], [(20, [0, 1, 2], [60, 2, 4, 121, 32, 49, 33, 34, 43, 44]), (20, [1, 0], [30, -1, 1, 0, 0, -1, 1, 31]), (20, [2, 0], [30, -1, 1, 0, 0, -1, 1, 31]), (100, [13, 1, 20], []), (1, [20, 18, 19], []), (10, [18, 13, 2], []), (9, [13, 0], [48]), (7, [14, 17], [4]), (1, [17, 15, 16], []), (10, [15, 13, 2], []), (10, [14, 13, 1], []), (8, [12], [0]), (10, [12, 11, 1], []), (9, [11, 0], [42]), (7, [1, 3], [1]), (8, [5], [1]), (7, [2, 4], [0]), (8, [5], [1]), (20, [0, 3, 4, 5], [60, 3, 6, 124, 31, 32, 49, 33, 34, 43, 44, 42, 48]), (20, [0, 3, 4, 5, 6, 7, 8, 9], [60, 1, 6, 125, 49, 33, 34, 43, 44, 42, 48]), (20, [0, 7, 10], [60, 1, 1, 128, 31, 48]), (20, [0, 1, 2], [60, 2, 4, 121, 32, 49, 33, 34, 43, 44]), (20, [1, 0], [30, -1, 1, 0, 0, -1, 1, 31]), (20, [2, 0], [30, -1, 1, 0, 0, -1, 1, 31])], [], [], [(20, [0, 3, 4, 5], [60, 3, 6, 124, 31, 32, 49, 33, 34, 43, 44, 42, 48]), (20, [0, 1, 2, 3, 4, 5, 6, 7, 8, 9, 10, 21], [60, 2, 6, 129, 31, 49, 33, 34, 43, 44, 42, 48])], [], [(20, 18, 1, 1), (14, 17, 1, 4294967296), (17, 15, 1, 1), (2, 4, 0, 0)])
theorem oo_Mo_closer_11 {kA : Nat → ClassId} : or_ok PRD kA GG o_Mo_closer_11 := by
  refine or_mk fun A ta ws vs hD hth hl => ?_
  intro t0 r0 t1 k1 t2 k2 t3 k3 t4 k4 t5 k5 t6 k6 t7 k7 t8 k8 t9 k9 t10 k10 t11 r11 t12 k12 t13 r13 t14 k14 t15 k15 t16 k16 t17 k17 t18 k18 t19 k19 t20 k20 t21 k21 d0 d1 d2 d3 f0 f1 f2 ta1 w1 le1 s1 f4 f5 f6 f7 f8 f9 f10 f11 f12 f13 f14 f15 f16 f17 f18 f19 f20 f21 f22 f23
  have s1 : (∀ b j, w_el ws b j = if b = v_ad (n_v vs 13) ∧ j = (v_iv (n_v vs 1)).toNat then v_iv (n_v vs 20) else w_el w1 b j) ∧ ∀ b k, w_fd ws b k = w_fd w1 b k := s1.2
  replace f5 := shm_107 f5
  replace f6 := shm_548 f6
  replace f9 := shm_107 f9
  replace f10 := shm_107 f10
  replace f12 := shm_107 f12
  replace f13 := shm_531 f13
  replace f18 := shm_549 f18
  replace f19 := shm_550 f19
  replace f20 := shm_551 f20
  replace f21 := shm_552 f21
  have ar_0_33_1 : w_ar w1 (n_v vs 0) 33 = w_ar ws (n_v vs 0) 33 := congrArg v_ad (s1.2 _ _).symm
  have cr_0_33 := fdq_117 hD hth r0
  have ar_0_34_1 : w_ar w1 (n_v vs 0) 34 = w_ar ws (n_v vs 0) 34 := congrArg v_ad (s1.2 _ _).symm
  have cr_0_34 := fdq_118 hD hth r0
  have ar_0_42_1 : w_ar w1 (n_v vs 0) 42 = w_ar ws (n_v vs 0) 42 := congrArg v_ad (s1.2 _ _).symm
  have cr_0_42 := fdq_136 hD hth r0
  have ar_0_43_1 : w_ar w1 (n_v vs 0) 43 = w_ar ws (n_v vs 0) 43 := congrArg v_ad (s1.2 _ _).symm
  have cr_0_43 := fdq_137 hD hth r0
  have ar_0_44_1 : w_ar w1 (n_v vs 0) 44 = w_ar ws (n_v vs 0) 44 := congrArg v_ad (s1.2 _ _).symm
  have cr_0_44 := fdq_138 hD hth r0
  have ar_0_48_1 : w_ar w1 (n_v vs 0) 48 = w_ar ws (n_v vs 0) 48 := congrArg v_ad (s1.2 _ _).symm
  have cr_0_48 := fdq_144 hD hth r0
  have ad_13 : v_ad (n_v vs 13) = w_ar ws (n_v vs 0) 48 := (congrArg v_ad f6).trans ar_0_48_1
  have ad_11 : v_ad (n_v vs 11) = w_ar ws (n_v vs 0) 42 := (congrArg v_ad f13).trans ar_0_42_1
  simp only [ad_13] at f5
  have h5 : v_iv (n_v vs 18) = w_ei w1 (w_ar ws (n_v vs 0) 48) (v_iv (n_v vs 2)) := f5
  simp only [ad_13] at f9
  have h9 : v_iv (n_v vs 15) = w_ei w1 (w_ar ws (n_v vs 0) 48) (v_iv (n_v vs 2)) := f9
  simp only [ad_13] at f10
  have h10 : v_iv (n_v vs 14) = w_ei w1 (w_ar ws (n_v vs 0) 48) (v_iv (n_v vs 1)) := f10
  simp only [ad_11] at f12
  have h12 : v_iv (n_v vs 12) = w_ei w1 (w_ar ws (n_v vs 0) 42) (v_iv (n_v vs 1)) := f12
  simp only [ar_0_33_1, ar_0_34_1, ar_0_42_1, ar_0_43_1, ar_0_44_1, ar_0_48_1] at f18 f19 f20 f21
  have fe_0_31_1 : w_fi ws (n_v vs 0) 31 = w_fi w1 (n_v vs 0) 31 := congrArg v_iv (s1.2 _ _)
  have fe_0_32_1 : w_fi ws (n_v vs 0) 32 = w_fi w1 (n_v vs 0) 32 := congrArg v_iv (s1.2 _ _)
  have fe_0_49_1 : w_fi ws (n_v vs 0) 49 = w_fi w1 (n_v vs 0) 49 := congrArg v_iv (s1.2 _ _)
  have hE_0_33_1 : ∀ j : Int, w_ei ws (w_ar ws (n_v vs 0) 33) j = w_ei w1 (w_ar ws (n_v vs 0) 33) j := el_kp s1.1 r13 cr_0_33 (by decide)
  have hK_0_33 := elq_60 hD hth cr_0_33
  have hE_0_34_1 : ∀ j : Int, w_ei ws (w_ar ws (n_v vs 0) 34) j = w_ei w1 (w_ar ws (n_v vs 0) 34) j := el_kp s1.1 r13 cr_0_34 (by decide)
  have hK_0_34 := elq_61 hD hth cr_0_34
  have hE_0_42_1 : ∀ j : Int, w_ei ws (w_ar ws (n_v vs 0) 42) j = w_ei w1 (w_ar ws (n_v vs 0) 42) j := el_kp s1.1 r13 cr_0_42 (by decide)
  have hK_0_42 := elq_75 hD hth cr_0_42
  have hE_0_43_1 : ∀ j : Int, w_ei ws (w_ar ws (n_v vs 0) 43) j = w_ei w1 (w_ar ws (n_v vs 0) 43) j := el_kp s1.1 r13 cr_0_43 (by decide)
  have hK_0_43 := elq_76 hD hth cr_0_43
  have hE_0_44_1 : ∀ j : Int, w_ei ws (w_ar ws (n_v vs 0) 44) j = w_ei w1 (w_ar ws (n_v vs 0) 44) j := el_kp s1.1 r13 cr_0_44 (by decide)
  have hK_0_44 := elq_77 hD hth cr_0_44
  have hE_0_48_1 : ∀ j : Int, 0 ≤ j → (j = v_iv (n_v vs 1) → w_ei ws (w_ar ws (n_v vs 0) 48) j = v_iv (n_v vs 20)) ∧ (j ≠ v_iv (n_v vs 1) → w_ei ws (w_ar ws (n_v vs 0) 48) j = w_ei w1 (w_ar ws (n_v vs 0) 48) j) := fun j hj => ⟨fun h => by unfold w_ei; rw [s1.1, if_pos ⟨ad_13.symm, by rw [h]⟩], fun h => by unfold w_ei; rw [s1.1, if_neg (fun e => h (by have := e.2; omega))]⟩
  have hK_0_48 := elq_82 hD hth cr_0_48
  have kz_0_31 := fdq_145 hD hth r0
  have kz_0_32 := fdq_140 hD hth r0
  have kz_0_49 := fdq_146 hD hth r0
  have nf0 : fc_1 PRD (20, [0, 3, 4, 5], [60, 3, 6, 124, 31, 32, 49, 33, 34, 43, 44, 42, 48]) ws (vs) := ⟨nf_in hl rfl, sgq_549 (vc_Mo_closer_11_0 (v_iv (n_v vs 1)) (v_iv (n_v vs 2)) (v_iv (n_v vs 3)) (v_iv (n_v vs 4)) (v_iv (n_v vs 5)) (v_iv (n_v vs 6)) (v_iv (n_v vs 7)) (v_iv (n_v vs 8)) (v_iv (n_v vs 9)) (v_iv (n_v vs 10)) (v_iv (n_v vs 12)) (v_iv (n_v vs 14)) (v_iv (n_v vs 15)) (v_iv (n_v vs 16)) (v_iv (n_v vs 17)) (v_iv (n_v vs 18)) (v_iv (n_v vs 19)) (v_iv (n_v vs 20)) (v_iv (n_v vs 21)) (w_ei ws (w_ar ws (n_v vs 0) 33)) (w_ei ws (w_ar ws (n_v vs 0) 34)) (w_ei ws (w_ar ws (n_v vs 0) 43)) (w_ei ws (w_ar ws (n_v vs 0) 44)) (w_fi ws (n_v vs 0) 32) (w_fi ws (n_v vs 0) 49) (w_fi ws (n_v vs 0) 31) (w_ei w1 (w_ar ws (n_v vs 0) 48)) (w_ei w1 (w_ar ws (n_v vs 0) 42)) (w_ei w1 (w_ar ws (n_v vs 0) 33)) (w_ei w1 (w_ar ws (n_v vs 0) 34)) (w_ei w1 (w_ar ws (n_v vs 0) 43)) (w_ei w1 (w_ar ws (n_v vs 0) 44)) (w_fi w1 (n_v vs 0) 31) (w_fi w1 (n_v vs 0) 32) (w_fi w1 (n_v vs 0) 49) (w_ei ws (w_ar ws (n_v vs 0) 42)) (w_ei ws (w_ar ws (n_v vs 0) 48)) k1 k2 k3 k4 k5 k6 k7 k8 k9 k10 k12 k14 k15 k16 k17 k18 k19 k20 k21 d0 d1 d2 d3 (shm_552 f0) (shm_553 f1) (shm_553 f2) (shm_12 f4) h5 (shm_21 f7) (shm_12 f8) h9 h10 (shm_192 f11) h12 (shm_40 f14) (shm_142 f15) (shm_37 f16) (shm_142 f17) f18 f19 f20 f21 (shm_553 f22) (shm_553 f23) fe_0_31_1 fe_0_32_1 fe_0_49_1 hE_0_33_1 hK_0_33 hE_0_34_1 hK_0_34 hE_0_42_1 hK_0_42 hE_0_43_1 hK_0_43 hE_0_44_1 hK_0_44 hE_0_48_1 hK_0_48 kz_0_31 kz_0_32 kz_0_49)⟩
  have nf1 : fc_1 PRD (20, [0, 1, 2, 3, 4, 5, 6, 7, 8, 9, 10, 21], [60, 2, 6, 129, 31, 49, 33, 34, 43, 44, 42, 48]) ws (vs) := ⟨nf_in hl rfl, sgq_554 (vc_Mo_closer_11_1 (v_iv (n_v vs 1)) (v_iv (n_v vs 2)) (v_iv (n_v vs 3)) (v_iv (n_v vs 4)) (v_iv (n_v vs 5)) (v_iv (n_v vs 6)) (v_iv (n_v vs 7)) (v_iv (n_v vs 8)) (v_iv (n_v vs 9)) (v_iv (n_v vs 10)) (v_iv (n_v vs 12)) (v_iv (n_v vs 14)) (v_iv (n_v vs 15)) (v_iv (n_v vs 16)) (v_iv (n_v vs 17)) (v_iv (n_v vs 18)) (v_iv (n_v vs 19)) (v_iv (n_v vs 20)) (v_iv (n_v vs 21)) (w_ei ws (w_ar ws (n_v vs 0) 33)) (w_ei ws (w_ar ws (n_v vs 0) 34)) (w_ei ws (w_ar ws (n_v vs 0) 43)) (w_ei ws (w_ar ws (n_v vs 0) 44)) (w_fi ws (n_v vs 0) 32) (w_fi ws (n_v vs 0) 49) (w_fi ws (n_v vs 0) 31) (w_ei w1 (w_ar ws (n_v vs 0) 48)) (w_ei w1 (w_ar ws (n_v vs 0) 42)) (w_ei w1 (w_ar ws (n_v vs 0) 33)) (w_ei w1 (w_ar ws (n_v vs 0) 34)) (w_ei w1 (w_ar ws (n_v vs 0) 43)) (w_ei w1 (w_ar ws (n_v vs 0) 44)) (w_fi w1 (n_v vs 0) 31) (w_fi w1 (n_v vs 0) 32) (w_fi w1 (n_v vs 0) 49) (w_ei ws (w_ar ws (n_v vs 0) 42)) (w_ei ws (w_ar ws (n_v vs 0) 48)) k1 k2 k3 k4 k5 k6 k7 k8 k9 k10 k12 k14 k15 k16 k17 k18 k19 k20 k21 d0 d1 d2 d3 (shm_552 f0) (shm_553 f1) (shm_553 f2) (shm_12 f4) h5 (shm_21 f7) (shm_12 f8) h9 h10 (shm_192 f11) h12 (shm_40 f14) (shm_142 f15) (shm_37 f16) (shm_142 f17) f18 f19 f20 f21 (shm_553 f22) (shm_553 f23) fe_0_31_1 fe_0_32_1 fe_0_49_1 hE_0_33_1 hK_0_33 hE_0_34_1 hK_0_34 hE_0_42_1 hK_0_42 hE_0_43_1 hK_0_43 hE_0_44_1 hK_0_44 hE_0_48_1 hK_0_48 kz_0_31 kz_0_32 kz_0_49)⟩
  refine ⟨(fun _ h => (by cases h)), [], trivial, ?_, (fun _ h => (by cases h))⟩
  rw [List.append_nil]
  exact List.forall_mem_cons.mpr ⟨⟨show (20 : Nat) < 100 from by decide, nf0⟩, List.forall_mem_cons.mpr ⟨⟨show (20 : Nat) < 100 from by decide, nf1⟩, (fun _ h => (by cases h))⟩⟩
set_option maxHeartbeats 4000000 in
theorem vc_Mo_closer_12_0 (x1 : Int) (x2 : Int) (x3 : Int) (x4 : Int) (x5 : Int) (x6 : Int) (x7 : Int) (x8 : Int) (x9 : Int) (x10 : Int) (x12 : Int) (x14 : Int) (x15 : Int) (x16 : Int) (x17 : Int) (x18 : Int) (toGoal_0 : Int → Int) (drawnNode_0 : Int → Int) (pt_0 : Int → Int) (ph_0 : Int → Int) (drawnEdge_0 : Int → Int) (pieceOf_0 : Int → Int) (pn_0 : Int) (pm_0 : Int) (onlyPiece_0 : Int) (k1 : 0 ≤ x1 ∧ x1 ≤ 24) (k2 : 0 ≤ x2 ∧ x2 ≤ 24) (k3 : 0 ≤ x3 ∧ x3 ≤ 24) (k4 : 0 ≤ x4 ∧ x4 ≤ 24) (k5 : 1 ≤ x5 ∧ x5 ≤ 1) (k6 : 0 ≤ x6 ∧ x6 ≤ 80) (k7 : 0 ≤ x7 ∧ x7 ≤ 1) (k8 : 0 ≤ x8 ∧ x8 ≤ 24) (k9 : 0 ≤ x9 ∧ x9 ≤ 24) (k10 : (-2) ≤ x10 ∧ x10 ≤ 26000060) (k12 : 0 ≤ x12 ∧ x12 ≤ 0) (k14 : 0 ≤ x14 ∧ x14 ≤ 1000001) (k15 : 0 ≤ x15 ∧ x15 ≤ 1000000) (k16 : 1 ≤ x16 ∧ x16 ≤ 1) (k17 : 1 ≤ x17 ∧ x17 ≤ 1000001) (k18 : 0 ≤ x18 ∧ x18 ≤ 0) (d0 : x17 + (-4294967296) ≤ x14 ∧ x14 ≤ x17 + 0) (d1 : x15 + 1 ≤ x17 ∧ x17 ≤ x15 + 1) (d2 : x4 + 0 ≤ x2 ∧ x2 ≤ x4 + 0) (f0 : x14 ≤ x17) (f1 : x17 = x15 + x16) (h2 : x15 = toGoal_0 (x2)) (h4 : x14 = toGoal_0 (x1)) (f5 : x12 = 0) (h6 : x12 = drawnNode_0 (x1)) (f8 : x1 ≠ x3) (f9 : x5 ≠ 0) (f10 : x2 = x4) (f11 : x5 ≠ 0) (f12 : TGI (pn_0) (pm_0) (onlyPiece_0) (pt_0) (ph_0) (drawnEdge_0) (pieceOf_0) (drawnNode_0) (toGoal_0) (x3) (x4) (x5)) (f13 : TG3 (onlyPiece_0) (pt_0) (ph_0) (drawnEdge_0) (pieceOf_0) (drawnNode_0) (toGoal_0) (x3) (x4) (x5) (x6) (x7) (x8) (x9)) (f14 : SMN (pn_0) (toGoal_0) (x7) (x10)) (f15 : ARC (pm_0) (onlyPiece_0) (pt_0) (ph_0) (drawnEdge_0) (pieceOf_0) (x1) (x2)) (f16 : 1 * x1 + ((-1) * pn_0 + 0) ≤ (-1)) (f17 : 1 * x2 + ((-1) * pn_0 + 0) ≤ (-1)) (hK_0_33 : ∀ j : Int, 0 ≤ j → j < 80 → 0 ≤ pt_0 j ∧ pt_0 j ≤ 24) (hK_0_34 : ∀ j : Int, 0 ≤ j → j < 80 → 0 ≤ ph_0 j ∧ ph_0 j ≤ 24) (hK_0_42 : ∀ j : Int, 0 ≤ j → j < 26 → 0 ≤ drawnNode_0 j ∧ drawnNode_0 j ≤ 1) (hK_0_43 : ∀ j : Int, 0 ≤ j → j < 80 → 0 ≤ drawnEdge_0 j ∧ drawnEdge_0 j ≤ 1) (hK_0_44 : ∀ j : Int, 0 ≤ j → j < 80 → (-1) ≤ pieceOf_0 j ∧ pieceOf_0 j ≤ 79) (hK_0_48 : ∀ j : Int, 0 ≤ j → j < 26 → 0 ≤ toGoal_0 j ∧ toGoal_0 j ≤ 1000001) (kz_0_31 : 0 ≤ pn_0 ∧ pn_0 ≤ 25) (kz_0_32 : 0 ≤ pm_0 ∧ pm_0 ≤ 80) (kz_0_49 : (-1) ≤ onlyPiece_0 ∧ onlyPiece_0 ≤ 79) : CLO (pn_0) (onlyPiece_0) (pt_0) (ph_0) (drawnEdge_0) (pieceOf_0) (drawnNode_0) (toGoal_0) (x1) (x2) (x3) (x4) (x5) (x6) (x7) (x8) (x9) (x10) (x18) := by
  first
    | (refine ⟨fun _ => ⟨‹TG3 _ _ _ _ _ _ _ _ _ _ _ _ _ _›, fun hc => ?_, ‹SMN _ _ _ _›⟩, fun h => absurd (by omega) h⟩
       first
         | omega
         | (exfalso; unfold cnd at hc; omega))
    | (refine ⟨fun h => absurd h (by omega), fun _ => ?_⟩
       have hS := ‹SMN _ _ _ _›
       unfold SMN at hS
       have v1 := (hE_0_48_1 x1 (by omega)).1 rfl
       have := smlt (n := pn_0) (f := toGoal_0) (g := toGoal_1) (i := x1) (by omega) (by omega) (fun j a b => by
         by_cases q : j = x1
         · rw [q]; omega
         · rw [(hE_0_48_1 j a).2 q]; exact Int.le_refl _) (by omega)
       omega)
def o_Mo_closer_12 : or_T := (57, 19, [(0, (2, 0, 0, [165])), (1, (0, 0, 24, [])), (2, (0, 0, 24, [])), (3, (0, 0, 24, [])), (4, (0, 0, 24, [])), (5, (0, 1, 1, [])), (6, (0, 0, 80, [])), (7, (0, 0, 1, [])), (8, (0, 0, 24, [])), (9, (0, 0, 24, [])), (10, (0, -2, 26000060, [])), (11, (2, 0, 0, [188])), (12, (0, 0, 0, [])), (13, (2, 0, 0, [192])), (14, (0, 0, 1000001, [])), (15, (0, 0, 1000000, [])), (16, (0, 1, 1, [])), (17, (0, 1, 1000001, [])), (18, (0, 0, 0, []))], [(7, [14, 17], [5]), (1, [17, 15, 16], []), (10, [15, 13, 2], []), (9, [13, 0], [48]), (10, [14, 13, 1], []), (8, [12], [0]), (10, [12, 11, 1], []), (9, [11, 0], [42]), (7, [1, 3], [1]), (8, [5], [1]), (7, [2, 4], [0]), (8, [5], [1]), (20, [0, 3, 4, 5], [60, 3, 6, 124, 31, 32, 49, 33, 34, 43, 44, 42, 48]), (20, [0, 3, 4, 5, 6, 7, 8, 9], [60, 1, 6, 125, 49, 33, 34, 43, 44, 42, 48]), (20, [0, 7, 10], [60, 1, 1, 128, 31, 48]), (20, [0, 1, 2], [60, 2, 4, 121, 32, 49, 33, 34, 43, 44]), (20, [1, 0], [30, -1, 1, 0, 0, -1, 1, 31]), (20, [2, 0], [30, -1, 1, 0, 0, -1, 1, 31])], [], [], [(20, [0, 1, 2, 3, 4, 5, 6, 7, 8, 9, 10, 18], [60, 2, 6, 129, 31, 49, 33, 34, 43, 44, 42, 48])], [], [(14, 17, -4294967296, 0), (17, 15, 1, 1), (2, 4, 0, 0)])
theorem oo_Mo_closer_12 {kA : Nat → ClassId} : or_ok PRD kA GG o_Mo_closer_12 := by
  refine or_mk fun A ta ws vs hD hth hl => ?_
  intro t0 r0 t1 k1 t2 k2 t3 k3 t4 k4 t5 k5 t6 k6 t7 k7 t8 k8 t9 k9 t10 k10 t11 r11 t12 k12 t13 r13 t14 k14 t15 k15 t16 k16 t17 k17 t18 k18 d0 d1 d2 f0 f1 f2 f3 f4 f5 f6 f7 f8 f9 f10 f11 f12 f13 f14 f15 f16 f17
  replace f2 := shm_107 f2
  replace f3 := shm_548 f3
  replace f4 := shm_107 f4
  replace f6 := shm_107 f6
  replace f7 := shm_531 f7
  have cr_0_33 := fdq_117 hD hth r0
  have cr_0_34 := fdq_118 hD hth r0
  have cr_0_42 := fdq_136 hD hth r0
  have cr_0_43 := fdq_137 hD hth r0
  have cr_0_44 := fdq_138 hD hth r0
  have cr_0_48 := fdq_144 hD hth r0
  have ad_13 : v_ad (n_v vs 13) = w_ar ws (n_v vs 0) 48 := congrArg v_ad f3
  have ad_11 : v_ad (n_v vs 11) = w_ar ws (n_v vs 0) 42 := congrArg v_ad f7
  simp only [ad_13] at f2
  have h2 : v_iv (n_v vs 15) = w_ei ws (w_ar ws (n_v vs 0) 48) (v_iv (n_v vs 2)) := f2
  simp only [ad_13] at f4
  have h4 : v_iv (n_v vs 14) = w_ei ws (w_ar ws (n_v vs 0) 48) (v_iv (n_v vs 1)) := f4
  simp only [ad_11] at f6
  have h6 : v_iv (n_v vs 12) = w_ei ws (w_ar ws (n_v vs 0) 42) (v_iv (n_v vs 1)) := f6
  have hK_0_33 := elq_60 hD hth cr_0_33
  have hK_0_34 := elq_61 hD hth cr_0_34
  have hK_0_42 := elq_75 hD hth cr_0_42
  have hK_0_43 := elq_76 hD hth cr_0_43
  have hK_0_44 := elq_77 hD hth cr_0_44
  have hK_0_48 := elq_82 hD hth cr_0_48
  have kz_0_31 := fdq_145 hD hth r0
  have kz_0_32 := fdq_140 hD hth r0
  have kz_0_49 := fdq_146 hD hth r0
  have nf0 : fc_1 PRD (20, [0, 1, 2, 3, 4, 5, 6, 7, 8, 9, 10, 18], [60, 2, 6, 129, 31, 49, 33, 34, 43, 44, 42, 48]) ws (vs) := ⟨nf_in hl rfl, sgq_554 (vc_Mo_closer_12_0 (v_iv (n_v vs 1)) (v_iv (n_v vs 2)) (v_iv (n_v vs 3)) (v_iv (n_v vs 4)) (v_iv (n_v vs 5)) (v_iv (n_v vs 6)) (v_iv (n_v vs 7)) (v_iv (n_v vs 8)) (v_iv (n_v vs 9)) (v_iv (n_v vs 10)) (v_iv (n_v vs 12)) (v_iv (n_v vs 14)) (v_iv (n_v vs 15)) (v_iv (n_v vs 16)) (v_iv (n_v vs 17)) (v_iv (n_v vs 18)) (w_ei ws (w_ar ws (n_v vs 0) 48)) (w_ei ws (w_ar ws (n_v vs 0) 42)) (w_ei ws (w_ar ws (n_v vs 0) 33)) (w_ei ws (w_ar ws (n_v vs 0) 34)) (w_ei ws (w_ar ws (n_v vs 0) 43)) (w_ei ws (w_ar ws (n_v vs 0) 44)) (w_fi ws (n_v vs 0) 31) (w_fi ws (n_v vs 0) 32) (w_fi ws (n_v vs 0) 49) k1 k2 k3 k4 k5 k6 k7 k8 k9 k10 k12 k14 k15 k16 k17 k18 d0 d1 d2 (shm_24 f0) (shm_12 f1) h2 h4 (shm_192 f5) h6 (shm_40 f8) (shm_142 f9) (shm_37 f10) (shm_142 f11) (shm_549 f12) (shm_550 f13) (shm_551 f14) (shm_552 f15) (shm_553 f16) (shm_553 f17) hK_0_33 hK_0_34 hK_0_42 hK_0_43 hK_0_44 hK_0_48 kz_0_31 kz_0_32 kz_0_49)⟩
  refine ⟨(fun _ h => (by cases h)), [], trivial, ?_, (fun _ h => (by cases h))⟩
  rw [List.append_nil]
  exact List.forall_mem_cons.mpr ⟨⟨show (20 : Nat) < 100 from by decide, nf0⟩, (fun _ h => (by cases h))⟩
set_option maxHeartbeats 4000000 in
theorem vc_Mo_closer_13_0 (x1 : Int) (x2 : Int) (x3 : Int) (x4 : Int) (x5 : Int) (x6 : Int) (x7 : Int) (x8 : Int) (x9 : Int) (x10 : Int) (x12 : Int) (x13 : Int) (drawnNode_0 : Int → Int) (pt_0 : Int → Int) (ph_0 : Int → Int) (drawnEdge_0 : Int → Int) (pieceOf_0 : Int → Int) (toGoal_0 : Int → Int) (pn_0 : Int) (pm_0 : Int) (onlyPiece_0 : Int) (k1 : 0 ≤ x1 ∧ x1 ≤ 24) (k2 : 0 ≤ x2 ∧ x2 ≤ 24) (k3 : 0 ≤ x3 ∧ x3 ≤ 24) (k4 : 0 ≤ x4 ∧ x4 ≤ 24) (k5 : 1 ≤ x5 ∧ x5 ≤ 1) (k6 : 0 ≤ x6 ∧ x6 ≤ 80) (k7 : 0 ≤ x7 ∧ x7 ≤ 1) (k8 : 0 ≤ x8 ∧ x8 ≤ 24) (k9 : 0 ≤ x9 ∧ x9 ≤ 24) (k10 : (-2) ≤ x10 ∧ x10 ≤ 26000060) (k12 : 1 ≤ x12 ∧ x12 ≤ 1) (k13 : 0 ≤ x13 ∧ x13 ≤ 0) (f0 : x12 ≠ 0) (h1 : x12 = drawnNode_0 (x2)) (f3 : x2 ≠ x4) (f4 : x5 ≠ 0) (f5 : TGI (pn_0) (pm_0) (onlyPiece_0) (pt_0) (ph_0) (drawnEdge_0) (pieceOf_0) (drawnNode_0) (toGoal_0) (x3) (x4) (x5)) (f6 : TG3 (onlyPiece_0) (pt_0) (ph_0) (drawnEdge_0) (pieceOf_0) (drawnNode_0) (toGoal_0) (x3) (x4) (x5) (x6) (x7) (x8) (x9)) (f7 : SMN (pn_0) (toGoal_0) (x7) (x10)) (f8 : ARC (pm_0) (onlyPiece_0) (pt_0) (ph_0) (drawnEdge_0) (pieceOf_0) (x1) (x2)) (f9 : 1 * x1 + ((-1) * pn_0 + 0) ≤ (-1)) (f10 : 1 * x2 + ((-1) * pn_0 + 0) ≤ (-1)) (hK_0_33 : ∀ j : Int, 0 ≤ j → j < 80 → 0 ≤ pt_0 j ∧ pt_0 j ≤ 24) (hK_0_34 : ∀ j : Int, 0 ≤ j → j < 80 → 0 ≤ ph_0 j ∧ ph_0 j ≤ 24) (hK_0_42 : ∀ j : Int, 0 ≤ j → j < 26 → 0 ≤ drawnNode_0 j ∧ drawnNode_0 j ≤ 1) (hK_0_43 : ∀ j : Int, 0 ≤ j → j < 80 → 0 ≤ drawnEdge_0 j ∧ drawnEdge_0 j ≤ 1) (hK_0_44 : ∀ j : Int, 0 ≤ j → j < 80 → (-1) ≤ pieceOf_0 j ∧ pieceOf_0 j ≤ 79) (hK_0_48 : ∀ j : Int, 0 ≤ j → j < 26 → 0 ≤ toGoal_0 j ∧ toGoal_0 j ≤ 1000001) (kz_0_31 : 0 ≤ pn_0 ∧ pn_0 ≤ 25) (kz_0_32 : 0 ≤ pm_0 ∧ pm_0 ≤ 80) (kz_0_49 : (-1) ≤ onlyPiece_0 ∧ onlyPiece_0 ≤ 79) : CLO (pn_0) (onlyPiece_0) (pt_0) (ph_0) (drawnEdge_0) (pieceOf_0) (drawnNode_0) (toGoal_0) (x1) (x2) (x3) (x4) (x5) (x6) (x7) (x8) (x9) (x10) (x13) := by
  first
    | (refine ⟨fun _ => ⟨‹TG3 _ _ _ _ _ _ _ _ _ _ _ _ _ _›, fun hc => ?_, ‹SMN _ _ _ _›⟩, fun h => absurd (by omega) h⟩
       first
         | omega
         | (exfalso; unfold cnd at hc; omega))
    | (refine ⟨fun h => absurd h (by omega), fun _ => ?_⟩
       have hS := ‹SMN _ _ _ _›
       unfold SMN at hS
       have v1 := (hE_0_48_1 x1 (by omega)).1 rfl
       have := smlt (n := pn_0) (f := toGoal_0) (g := toGoal_1) (i := x1) (by omega) (by omega) (fun j a b => by
         by_cases q : j = x1
         · rw [q]; omega
         · rw [(hE_0_48_1 j a).2 q]; exact Int.le_refl _) (by omega)
       omega)
def o_Mo_closer_13 : or_T := (57, 14, [(0, (2, 0, 0, [165])), (1, (0, 0, 24, [])), (2, (0, 0, 24, [])), (3, (0, 0, 24, [])), (4, (0, 0, 24, [])), (5, (0, 1, 1, [])), (6, (0, 0, 80, [])), (7, (0, 0, 1, [])), (8, (0, 0, 24, [])), (9, (0, 0, 24, [])), (10, (0, -2, 26000060, [])), (11, (2, 0, 0, [188])), (12, (0, 1, 1, [])), (13, (0, 0, 0, []))], [(8, [12], [1]), (10, [12, 11, 2], []), (9, [11, 0], [42]), (7, [2, 4], [1]), (8, [5], [1]), (20, [0, 3, 4, 5], [60, 3, 6, 124, 31, 32, 49, 33, 34, 43, 44, 42, 48]), (20, [0, 3, 4, 5, 6, 7, 8, 9], [60, 1, 6, 125, 49, 33, 34, 43, 44, 42, 48]), (20, [0, 7, 10], [60, 1, 1, 128, 31, 48]), (20, [0, 1, 2], [60, 2, 4, 121, 32, 49, 33, 34, 43, 44]), (20, [1, 0], [30, -1, 1, 0, 0, -1, 1, 31]), (20, [2, 0], [30, -1, 1, 0, 0, -1, 1, 31])], [], [], [(20, [0, 1, 2, 3, 4, 5, 6, 7, 8, 9, 10, 13], [60, 2, 6, 129, 31, 49, 33, 34, 43, 44, 42, 48])], [], [])
theorem oo_Mo_closer_13 {kA : Nat → ClassId} : or_ok PRD kA GG o_Mo_closer_13 := by
  refine or_mk fun A ta ws vs hD hth hl => ?_
  intro t0 r0 t1 k1 t2 k2 t3 k3 t4 k4 t5 k5 t6 k6 t7 k7 t8 k8 t9 k9 t10 k10 t11 r11 t12 k12 t13 k13 f0 f1 f2 f3 f4 f5 f6 f7 f8 f9 f10
  replace f1 := shm_107 f1
  replace f2 := shm_531 f2
  have cr_0_33 := fdq_117 hD hth r0
  have cr_0_34 := fdq_118 hD hth r0
  have cr_0_42 := fdq_136 hD hth r0
  have cr_0_43 := fdq_137 hD hth r0
  have cr_0_44 := fdq_138 hD hth r0
  have cr_0_48 := fdq_144 hD hth r0
  have ad_11 : v_ad (n_v vs 11) = w_ar ws (n_v vs 0) 42 := congrArg v_ad f2
  simp only [ad_11] at f1
  have h1 : v_iv (n_v vs 12) = w_ei ws (w_ar ws (n_v vs 0) 42) (v_iv (n_v vs 2)) := f1
  have hK_0_33 := elq_60 hD hth cr_0_33
  have hK_0_34 := elq_61 hD hth cr_0_34
  have hK_0_42 := elq_75 hD hth cr_0_42
  have hK_0_43 := elq_76 hD hth cr_0_43
  have hK_0_44 := elq_77 hD hth cr_0_44
  have hK_0_48 := elq_82 hD hth cr_0_48
  have kz_0_31 := fdq_145 hD hth r0
  have kz_0_32 := fdq_140 hD hth r0
  have kz_0_49 := fdq_146 hD hth r0
  have nf0 : fc_1 PRD (20, [0, 1, 2, 3, 4, 5, 6, 7, 8, 9, 10, 13], [60, 2, 6, 129, 31, 49, 33, 34, 43, 44, 42, 48]) ws (vs) := ⟨nf_in hl rfl, sgq_554 (vc_Mo_closer_13_0 (v_iv (n_v vs 1)) (v_iv (n_v vs 2)) (v_iv (n_v vs 3)) (v_iv (n_v vs 4)) (v_iv (n_v vs 5)) (v_iv (n_v vs 6)) (v_iv (n_v vs 7)) (v_iv (n_v vs 8)) (v_iv (n_v vs 9)) (v_iv (n_v vs 10)) (v_iv (n_v vs 12)) (v_iv (n_v vs 13)) (w_ei ws (w_ar ws (n_v vs 0) 42)) (w_ei ws (w_ar ws (n_v vs 0) 33)) (w_ei ws (w_ar ws (n_v vs 0) 34)) (w_ei ws (w_ar ws (n_v vs 0) 43)) (w_ei ws (w_ar ws (n_v vs 0) 44)) (w_ei ws (w_ar ws (n_v vs 0) 48)) (w_fi ws (n_v vs 0) 31) (w_fi ws (n_v vs 0) 32) (w_fi ws (n_v vs 0) 49) k1 k2 k3 k4 k5 k6 k7 k8 k9 k10 k12 k13 (shm_142 f0) h1 (shm_40 f3) (shm_142 f4) (shm_549 f5) (shm_550 f6) (shm_551 f7) (shm_552 f8) (shm_553 f9) (shm_553 f10) hK_0_33 hK_0_34 hK_0_42 hK_0_43 hK_0_44 hK_0_48 kz_0_31 kz_0_32 kz_0_49)⟩
  refine ⟨(fun _ h => (by cases h)), [], trivial, ?_, (fun _ h => (by cases h))⟩
  rw [List.append_nil]
  exact List.forall_mem_cons.mpr ⟨⟨show (20 : Nat) < 100 from by decide, nf0⟩, (fun _ h => (by cases h))⟩
def o_Mo_closer_14 : or_T := (51, 16, [(0, (2, 0, 0, [165])), (1, (0, 0, 24, [])), (2, (0, 0, 24, [])), (3, (0, 0, 24, [])), (4, (0, 0, 24, [])), (5, (0, 1, 1, [])), (6, (0, 0, 80, [])), (7, (0, 0, 1, [])), (8, (0, 0, 24, [])), (9, (0, 0, 24, [])), (10, (0, -2, 26000060, [])), (11, (2, 0, 0, [188])), (12, (0, 0, 0, [])), (13, (2, 0, 0, [192])), (14, (0, 0, 1000001, [])), (15, (0, 0, 1000001, []))], [(10, [15, 13, 2], []), (9, [13, 0], [48]), (10, [14, 13, 1], []), (7, [1, 3], [0]), (8, [5], [1]), (8, [12], [0]), (10, [12, 11, 2], []), (9, [11, 0], [42]), (7, [2, 4], [1]), (8, [5], [1]), (20, [0, 3, 4, 5], [60, 3, 6, 124, 31, 32, 49, 33, 34, 43, 44, 42, 48]), (20, [0, 3, 4, 5, 6, 7, 8, 9], [60, 1, 6, 125, 49, 33, 34, 43, 44, 42, 48]), (20, [0, 7, 10], [60, 1, 1, 128, 31, 48]), (20, [0, 1, 2], [60, 2, 4, 121, 32, 49, 33, 34, 43, 44]), (20, [1, 0], [30, -1, 1, 0, 0, -1, 1, 31]), (20, [2, 0], [30, -1, 1, 0, 0, -1, 1, 31])], [(15, (0, 0, 1000000, []))], [], [], [], [(1, 3, 0, 0)])
theorem oo_Mo_closer_14 {kA : Nat → ClassId} : or_ok PRD kA GG o_Mo_closer_14 := by
  refine or_mk fun A ta ws vs hD hth hl => ?_
  intro t0 r0 t1 k1 t2 k2 t3 k3 t4 k4 t5 k5 t6 k6 t7 k7 t8 k8 t9 k9 t10 k10 t11 r11 t12 k12 t13 r13 t14 k14 t15 k15 d0 f0 f1 f2 f3 f4 f5 f6 f7 f8 f9 f10 f11 f12 f13 f14 f15
  replace f0 := shm_107 f0
  replace f1 := shm_548 f1
  replace f2 := shm_107 f2
  replace f3 := shm_37 f3
  replace f4 := shm_142 f4
  replace f5 := shm_192 f5
  replace f6 := shm_107 f6
  replace f7 := shm_531 f7
  replace f8 := shm_40 f8
  replace f9 := shm_142 f9
  replace f10 := shm_549 f10
  replace f11 := shm_550 f11
  replace f12 := shm_551 f12
  replace f13 := shm_552 f13
  replace f14 := shm_553 f14
  replace f15 := shm_553 f15
  have cr_0_33 := fdq_117 hD hth r0
  have cr_0_34 := fdq_118 hD hth r0
  have cr_0_42 := fdq_136 hD hth r0
  have cr_0_43 := fdq_137 hD hth r0
  have cr_0_44 := fdq_138 hD hth r0
  have cr_0_48 := fdq_144 hD hth r0
  have ad_13 : v_ad (n_v vs 13) = w_ar ws (n_v vs 0) 48 := congrArg v_ad f1
  have ad_11 : v_ad (n_v vs 11) = w_ar ws (n_v vs 0) 42 := congrArg v_ad f7
  simp only [ad_13] at f0
  have h0 : v_iv (n_v vs 15) = w_ei ws (w_ar ws (n_v vs 0) 48) (v_iv (n_v vs 2)) := f0
  simp only [ad_13] at f2
  have h2 : v_iv (n_v vs 14) = w_ei ws (w_ar ws (n_v vs 0) 48) (v_iv (n_v vs 1)) := f2
  simp only [ad_11] at f6
  have h6 : v_iv (n_v vs 12) = w_ei ws (w_ar ws (n_v vs 0) 42) (v_iv (n_v vs 2)) := f6
  have br_0_42_2_0 : w_ei ws (w_ar ws (n_v vs 0) 42) (v_iv (n_v vs 2)) = w_el ws (w_ar ws (n_v vs 0) 42) (v_iv (n_v vs 2)).toNat := rfl
  have br_0_48_1_0 : w_ei ws (w_ar ws (n_v vs 0) 48) (v_iv (n_v vs 1)) = w_el ws (w_ar ws (n_v vs 0) 48) (v_iv (n_v vs 1)).toNat := rfl
  have br_0_48_2_0 : w_ei ws (w_ar ws (n_v vs 0) 48) (v_iv (n_v vs 2)) = w_el ws (w_ar ws (n_v vs 0) 48) (v_iv (n_v vs 2)).toNat := rfl
  have hK_0_33 := elq_60 hD hth cr_0_33
  have hK_0_34 := elq_61 hD hth cr_0_34
  have hK_0_42 := elq_75 hD hth cr_0_42
  have hK_0_43 := elq_76 hD hth cr_0_43
  have hK_0_44 := elq_77 hD hth cr_0_44
  have hK_0_48 := elq_82 hD hth cr_0_48
  have kz_0_31 := fdq_145 hD hth r0
  have kz_0_32 := fdq_140 hD hth r0
  have kz_0_49 := fdq_146 hD hth r0
  first | have hR := tgi_rng (i := v_iv (n_v vs 2)) ‹TGI _ _ _ _ _ _ _ _ _ _ _ _› (by omega) (by omega) | skip
  have rf15 : tv_ok ta (0, 0, 1000000, []) (n_v vs 15) := tv_in t15 (by first | omega | grind) (by first | omega | grind)
  refine ⟨List.forall_mem_cons.mpr ⟨rf15, (fun _ h => (by cases h))⟩, [], trivial, ?_, (fun _ h => (by cases h))⟩
  rw [List.append_nil]
  exact (fun _ h => (by cases h))
def o_Mo_closer_15 : or_T := (69, 19, [(0, (2, 0, 0, [165])), (1, (0, 0, 24, [])), (2, (0, 0, 24, [])), (3, (0, 0, 24, [])), (4, (0, 0, 24, [])), (5, (0, 1, 1, [])), (6, (0, 0, 80, [])), (7, (0, 0, 1, [])), (8, (0, 0, 24, [])), (9, (0, 0, 24, [])), (10, (0, -2, 26000060, [])), (11, (2, 0, 0, [188])), (12, (0, 0, 0, [])), (13, (2, 0, 0, [192])), (14, (0, 2, 1000001, [])), (15, (0, 0, 999999, [])), (16, (0, 1, 1, [])), (17, (0, 1, 1000000, [])), (18, (0, 0, 1000001, []))], [(10, [18, 13, 2], []), (9, [13, 0], [48]), (7, [14, 17], [4]), (1, [17, 15, 16], []), (10, [15, 13, 2], []), (10, [14, 13, 1], []), (7, [1, 3], [0]), (8, [5], [1]), (8, [12], [0]), (10, [12, 11, 2], []), (9, [11, 0], [42]), (7, [2, 4], [1]), (8, [5], [1]), (20, [0, 3, 4, 5], [60, 3, 6, 124, 31, 32, 49, 33, 34, 43, 44, 42, 48]), (20, [0, 3, 4, 5, 6, 7, 8, 9], [60, 1, 6, 125, 49, 33, 34, 43, 44, 42, 48]), (20, [0, 7, 10], [60, 1, 1, 128, 31, 48]), (20, [0, 1, 2], [60, 2, 4, 121, 32, 49, 33, 34, 43, 44]), (20, [1, 0], [30, -1, 1, 0, 0, -1, 1, 31]), (20, [2, 0], [30, -1, 1, 0, 0, -1, 1, 31])], [(18, (0, 0, 1000000, []))], [], [], [], [(14, 17, 1, 4294967296), (17, 15, 1, 1), (1, 3, 0, 0)])
theorem oo_Mo_closer_15 {kA : Nat → ClassId} : or_ok PRD kA GG o_Mo_closer_15 := by
  refine or_mk fun A ta ws vs hD hth hl => ?_
  intro t0 r0 t1 k1 t2 k2 t3 k3 t4 k4 t5 k5 t6 k6 t7 k7 t8 k8 t9 k9 t10 k10 t11 r11 t12 k12 t13 r13 t14 k14 t15 k15 t16 k16 t17 k17 t18 k18 d0 d1 d2 f0 f1 f2 f3 f4 f5 f6 f7 f8 f9 f10 f11 f12 f13 f14 f15 f16 f17 f18
  replace f0 := shm_107 f0
  replace f1 := shm_548 f1
  replace f2 := shm_21 f2
  replace f3 := shm_12 f3
  replace f4 := shm_107 f4
  replace f5 := shm_107 f5
  replace f6 := shm_37 f6
  replace f7 := shm_142 f7
  replace f8 := shm_192 f8
  replace f9 := shm_107 f9
  replace f10 := shm_531 f10
  replace f11 := shm_40 f11
  replace f12 := shm_142 f12
  replace f13 := shm_549 f13
  replace f14 := shm_550 f14
  replace f15 := shm_551 f15
  replace f16 := shm_552 f16
  replace f17 := shm_553 f17
  replace f18 := shm_553 f18
  have cr_0_33 := fdq_117 hD hth r0
  have cr_0_34 := fdq_118 hD hth r0
  have cr_0_42 := fdq_136 hD hth r0
  have cr_0_43 := fdq_137 hD hth r0
  have cr_0_44 := fdq_138 hD hth r0
  have cr_0_48 := fdq_144 hD hth r0
  have ad_13 : v_ad (n_v vs 13) = w_ar ws (n_v vs 0) 48 := congrArg v_ad f1
  have ad_11 : v_ad (n_v vs 11) = w_ar ws (n_v vs 0) 42 := congrArg v_ad f10
  simp only [ad_13] at f0
  have h0 : v_iv (n_v vs 18) = w_ei ws (w_ar ws (n_v vs 0) 48) (v_iv (n_v vs 2)) := f0
  simp only [ad_13] at f4
  have h4 : v_iv (n_v vs 15) = w_ei ws (w_ar ws (n_v vs 0) 48) (v_iv (n_v vs 2)) := f4
  simp only [ad_13] at f5
  have h5 : v_iv (n_v vs 14) = w_ei ws (w_ar ws (n_v vs 0) 48) (v_iv (n_v vs 1)) := f5
  simp only [ad_11] at f9
  have h9 : v_iv (n_v vs 12) = w_ei ws (w_ar ws (n_v vs 0) 42) (v_iv (n_v vs 2)) := f9
  have br_0_42_2_0 : w_ei ws (w_ar ws (n_v vs 0) 42) (v_iv (n_v vs 2)) = w_el ws (w_ar ws (n_v vs 0) 42) (v_iv (n_v vs 2)).toNat := rfl
  have br_0_48_1_0 : w_ei ws (w_ar ws (n_v vs 0) 48) (v_iv (n_v vs 1)) = w_el ws (w_ar ws (n_v vs 0) 48) (v_iv (n_v vs 1)).toNat := rfl
  have br_0_48_2_0 : w_ei ws (w_ar ws (n_v vs 0) 48) (v_iv (n_v vs 2)) = w_el ws (w_ar ws (n_v vs 0) 48) (v_iv (n_v vs 2)).toNat := rfl
  have hK_0_33 := elq_60 hD hth cr_0_33
  have hK_0_34 := elq_61 hD hth cr_0_34
  have hK_0_42 := elq_75 hD hth cr_0_42
  have hK_0_43 := elq_76 hD hth cr_0_43
  have hK_0_44 := elq_77 hD hth cr_0_44
  have hK_0_48 := elq_82 hD hth cr_0_48
  have kz_0_31 := fdq_145 hD hth r0
  have kz_0_32 := fdq_140 hD hth r0
  have kz_0_49 := fdq_146 hD hth r0
  first | have hR := tgi_rng (i := v_iv (n_v vs 2)) ‹TGI _ _ _ _ _ _ _ _ _ _ _ _› (by omega) (by omega) | skip
  have rf18 : tv_ok ta (0, 0, 1000000, []) (n_v vs 18) := tv_in t18 (by first | omega | grind) (by first | omega | grind)
  refine ⟨List.forall_mem_cons.mpr ⟨rf18, (fun _ h => (by cases h))⟩, [], trivial, ?_, (fun _ h => (by cases h))⟩
  rw [List.append_nil]
  exact (fun _ h => (by cases h))
set_option maxHeartbeats 4000000 in
theorem vc_Mo_closer_16_0 (x1 : Int) (x2 : Int) (x3 : Int) (x4 : Int) (x5 : Int) (x6 : Int) (x7 : Int) (x8 : Int) (x9 : Int) (x10 : Int) (x12 : Int) (x14 : Int) (x15 : Int) (x16 : Int) (x17 : Int) (x18 : Int) (x19 : Int) (x20 : Int) (x21 : Int) (pt_0 : Int → Int) (ph_0 : Int → Int) (drawnEdge_0 : Int → Int) (pieceOf_0 : Int → Int) (pm_0 : Int) (onlyPiece_0 : Int) (pn_0 : Int) (toGoal_1 : Int → Int) (drawnNode_1 : Int → Int) (pt_1 : Int → Int) (ph_1 : Int → Int) (drawnEdge_1 : Int → Int) (pieceOf_1 : Int → Int) (pn_1 : Int) (pm_1 : Int) (onlyPiece_1 : Int) (drawnNode_0 : Int → Int) (toGoal_0 : Int → Int) (k1 : 0 ≤ x1 ∧ x1 ≤ 24) (k2 : 0 ≤ x2 ∧ x2 ≤ 24) (k3 : 0 ≤ x3 ∧ x3 ≤ 24) (k4 : 0 ≤ x4 ∧ x4 ≤ 24) (k5 : 1 ≤ x5 ∧ x5 ≤ 1) (k6 : 0 ≤ x6 ∧ x6 ≤ 80) (k7 : 0 ≤ x7 ∧ x7 ≤ 1) (k8 : 0 ≤ x8 ∧ x8 ≤ 24) (k9 : 0 ≤ x9 ∧ x9 ≤ 24) (k10 : (-2) ≤ x10 ∧ x10 ≤ 26000060) (k12 : 0 ≤ x12 ∧ x12 ≤ 0) (k14 : 2 ≤ x14 ∧ x14 ≤ 1000001) (k15 : 0 ≤ x15 ∧ x15 ≤ 999999) (k16 : 1 ≤ x16 ∧ x16 ≤ 1) (k17 : 1 ≤ x17 ∧ x17 ≤ 1000000) (k18 : 0 ≤ x18 ∧ x18 ≤ 1000000) (k19 : 1 ≤ x19 ∧ x19 ≤ 1) (k20 : 1 ≤ x20 ∧ x20 ≤ 1000001) (k21 : 1 ≤ x21 ∧ x21 ≤ 1) (d0 : x18 + 1 ≤ x20 ∧ x20 ≤ x18 + 1) (d1 : x17 + 1 ≤ x14 ∧ x14 ≤ x17 + 4294967296) (d2 : x15 + 1 ≤ x17 ∧ x17 ≤ x15 + 1) (d3 : x3 + 0 ≤ x1 ∧ x1 ≤ x3 + 0) (f0 : ARC (pm_0) (onlyPiece_0) (pt_0) (ph_0) (drawnEdge_0) (pieceOf_0) (x1) (x2)) (f1 : 1 * x1 + ((-1) * pn_0 + 0) ≤ (-1)) (f2 : 1 * x2 + ((-1) * pn_0 + 0) ≤ (-1)) (f4 : x20 = x18 + x19) (h5 : x18 = toGoal_1 (x2)) (f7 : x17 < x14) (f8 : x17 = x15 + x16) (h9 : x15 = toGoal_1 (x2)) (h10 : x14 = toGoal_1 (x1)) (f11 : x1 = x3) (f12 : x5 ≠ 0) (f13 : x12 = 0) (h14 : x12 = drawnNode_1 (x2)) (f16 : x2 ≠ x4) (f17 : x5 ≠ 0) (f18 : TGI (pn_1) (pm_1) (onlyPiece_1) (pt_1) (ph_1) (drawnEdge_1) (pieceOf_1) (drawnNode_1) (toGoal_1) (x3) (x4) (x5)) (f19 : TG3 (onlyPiece_1) (pt_1) (ph_1) (drawnEdge_1) (pieceOf_1) (drawnNode_1) (toGoal_1) (x3) (x4) (x5) (x6) (x7) (x8) (x9)) (f20 : SMN (pn_1) (toGoal_1) (x7) (x10)) (f21 : ARC (pm_1) (onlyPiece_1) (pt_1) (ph_1) (drawnEdge_1) (pieceOf_1) (x1) (x2)) (f22 : 1 * x1 + ((-1) * pn_1 + 0) ≤ (-1)) (f23 : 1 * x2 + ((-1) * pn_1 + 0) ≤ (-1)) (fe_0_31_1 : pn_0 = pn_1) (fe_0_32_1 : pm_0 = pm_1) (fe_0_49_1 : onlyPiece_0 = onlyPiece_1) (hE_0_33_1 : ∀ j : Int, pt_0 j = pt_1 j) (hK_0_33 : ∀ j : Int, 0 ≤ j → j < 80 → 0 ≤ pt_0 j ∧ pt_0 j ≤ 24) (hE_0_34_1 : ∀ j : Int, ph_0 j = ph_1 j) (hK_0_34 : ∀ j : Int, 0 ≤ j → j < 80 → 0 ≤ ph_0 j ∧ ph_0 j ≤ 24) (hE_0_42_1 : ∀ j : Int, drawnNode_0 j = drawnNode_1 j) (hK_0_42 : ∀ j : Int, 0 ≤ j → j < 26 → 0 ≤ drawnNode_0 j ∧ drawnNode_0 j ≤ 1) (hE_0_43_1 : ∀ j : Int, drawnEdge_0 j = drawnEdge_1 j) (hK_0_43 : ∀ j : Int, 0 ≤ j → j < 80 → 0 ≤ drawnEdge_0 j ∧ drawnEdge_0 j ≤ 1) (hE_0_44_1 : ∀ j : Int, pieceOf_0 j = pieceOf_1 j) (hK_0_44 : ∀ j : Int, 0 ≤ j → j < 80 → (-1) ≤ pieceOf_0 j ∧ pieceOf_0 j ≤ 79) (hE_0_48_1 : ∀ j : Int, 0 ≤ j → (j = x1 → toGoal_0 j = x20) ∧ (j ≠ x1 → toGoal_0 j = toGoal_1 j)) (hK_0_48 : ∀ j : Int, 0 ≤ j → j < 26 → 0 ≤ toGoal_0 j ∧ toGoal_0 j ≤ 1000001) (kz_0_31 : 0 ≤ pn_0 ∧ pn_0 ≤ 25) (kz_0_32 : 0 ≤ pm_0 ∧ pm_0 ≤ 80) (kz_0_49 : (-1) ≤ onlyPiece_0 ∧ onlyPiece_0 ≤ 79) : TGI (pn_0) (pm_0) (onlyPiece_0) (pt_0) (ph_0) (drawnEdge_0) (pieceOf_0) (drawnNode_0) (toGoal_0) (x3) (x4) (x5) := by
  subst fe_0_31_1
  subst fe_0_32_1
  subst fe_0_49_1
  have e_hE_0_33_1 := funext hE_0_33_1; subst e_hE_0_33_1
  have e_hE_0_34_1 := funext hE_0_34_1; subst e_hE_0_34_1
  have e_hE_0_42_1 := funext hE_0_42_1; subst e_hE_0_42_1
  have e_hE_0_43_1 := funext hE_0_43_1; subst e_hE_0_43_1
  have e_hE_0_44_1 := funext hE_0_44_1; subst e_hE_0_44_1
  first
    | assumption
    | (refine tg_lower (i := x1) (j := x2) ‹TGI _ _ _ _ _ _ _ _ toGoal_1 _ _ _› (by omega) (by omega) (by omega) (by omega) ‹ARC _ _ _ _ _ _ x1 x2› ?_ ?_ (fun y a b => (hE_0_48_1 y a).2 b) ?_ (by omega)
       · exact ⟨by first | exact Or.inl (by omega) | exact Or.inr (Or.inl (by omega)) | exact Or.inr (Or.inr (by omega)), by first | exact Or.inl (by omega) | exact Or.inr (Or.inl (by omega)) | exact Or.inr (Or.inr (by omega))⟩
       · omega
       · rw [(hE_0_48_1 x1 (by omega)).1 rfl]; omega)
set_option maxHeartbeats 4000000 in
theorem vc_Mo_closer_16_1 (x1 : Int) (x2 : Int) (x3 : Int) (x4 : Int) (x5 : Int) (x6 : Int) (x7 : Int) (x8 : Int) (x9 : Int) (x10 : Int) (x12 : Int) (x14 : Int) (x15 : Int) (x16 : Int) (x17 : Int) (x18 : Int) (x19 : Int) (x20 : Int) (x21 : Int) (pt_0 : Int → Int) (ph_0 : Int → Int) (drawnEdge_0 : Int → Int) (pieceOf_0 : Int → Int) (pm_0 : Int) (onlyPiece_0 : Int) (pn_0 : Int) (toGoal_1 : Int → Int) (drawnNode_1 : Int → Int) (pt_1 : Int → Int) (ph_1 : Int → Int) (drawnEdge_1 : Int → Int) (pieceOf_1 : Int → Int) (pn_1 : Int) (pm_1 : Int) (onlyPiece_1 : Int) (drawnNode_0 : Int → Int) (toGoal_0 : Int → Int) (k1 : 0 ≤ x1 ∧ x1 ≤ 24) (k2 : 0 ≤ x2 ∧ x2 ≤ 24) (k3 : 0 ≤ x3 ∧ x3 ≤ 24) (k4 : 0 ≤ x4 ∧ x4 ≤ 24) (k5 : 1 ≤ x5 ∧ x5 ≤ 1) (k6 : 0 ≤ x6 ∧ x6 ≤ 80) (k7 : 0 ≤ x7 ∧ x7 ≤ 1) (k8 : 0 ≤ x8 ∧ x8 ≤ 24) (k9 : 0 ≤ x9 ∧ x9 ≤ 24) (k10 : (-2) ≤ x10 ∧ x10 ≤ 26000060) (k12 : 0 ≤ x12 ∧ x12 ≤ 0) (k14 : 2 ≤ x14 ∧ x14 ≤ 1000001) (k15 : 0 ≤ x15 ∧ x15 ≤ 999999) (k16 : 1 ≤ x16 ∧ x16 ≤ 1) (k17 : 1 ≤ x17 ∧ x17 ≤ 1000000) (k18 : 0 ≤ x18 ∧ x18 ≤ 1000000) (k19 : 1 ≤ x19 ∧ x19 ≤ 1) (k20 : 1 ≤ x20 ∧ x20 ≤ 1000001) (k21 : 1 ≤ x21 ∧ x21 ≤ 1) (d0 : x18 + 1 ≤ x20 ∧ x20 ≤ x18 + 1) (d1 : x17 + 1 ≤ x14 ∧ x14 ≤ x17 + 4294967296) (d2 : x15 + 1 ≤ x17 ∧ x17 ≤ x15 + 1) (d3 : x3 + 0 ≤ x1 ∧ x1 ≤ x3 + 0) (f0 : ARC (pm_0) (onlyPiece_0) (pt_0) (ph_0) (drawnEdge_0) (pieceOf_0) (x1) (x2)) (f1 : 1 * x1 + ((-1) * pn_0 + 0) ≤ (-1)) (f2 : 1 * x2 + ((-1) * pn_0 + 0) ≤ (-1)) (f4 : x20 = x18 + x19) (h5 : x18 = toGoal_1 (x2)) (f7 : x17 < x14) (f8 : x17 = x15 + x16) (h9 : x15 = toGoal_1 (x2)) (h10 : x14 = toGoal_1 (x1)) (f11 : x1 = x3) (f12 : x5 ≠ 0) (f13 : x12 = 0) (h14 : x12 = drawnNode_1 (x2)) (f16 : x2 ≠ x4) (f17 : x5 ≠ 0) (f18 : TGI (pn_1) (pm_1) (onlyPiece_1) (pt_1) (ph_1) (drawnEdge_1) (pieceOf_1) (drawnNode_1) (toGoal_1) (x3) (x4) (x5)) (f19 : TG3 (onlyPiece_1) (pt_1) (ph_1) (drawnEdge_1) (pieceOf_1) (drawnNode_1) (toGoal_1) (x3) (x4) (x5) (x6) (x7) (x8) (x9)) (f20 : SMN (pn_1) (toGoal_1) (x7) (x10)) (f21 : ARC (pm_1) (onlyPiece_1) (pt_1) (ph_1) (drawnEdge_1) (pieceOf_1) (x1) (x2)) (f22 : 1 * x1 + ((-1) * pn_1 + 0) ≤ (-1)) (f23 : 1 * x2 + ((-1) * pn_1 + 0) ≤ (-1)) (fe_0_31_1 : pn_0 = pn_1) (fe_0_32_1 : pm_0 = pm_1) (fe_0_49_1 : onlyPiece_0 = onlyPiece_1) (hE_0_33_1 : ∀ j : Int, pt_0 j = pt_1 j) (hK_0_33 : ∀ j : Int, 0 ≤ j → j < 80 → 0 ≤ pt_0 j ∧ pt_0 j ≤ 24) (hE_0_34_1 : ∀ j : Int, ph_0 j = ph_1 j) (hK_0_34 : ∀ j : Int, 0 ≤ j → j < 80 → 0 ≤ ph_0 j ∧ ph_0 j ≤ 24) (hE_0_42_1 : ∀ j : Int, drawnNode_0 j = drawnNode_1 j) (hK_0_42 : ∀ j : Int, 0 ≤ j → j < 26 → 0 ≤ drawnNode_0 j ∧ drawnNode_0 j ≤ 1) (hE_0_43_1 : ∀ j : Int, drawnEdge_0 j = drawnEdge_1 j) (hK_0_43 : ∀ j : Int, 0 ≤ j → j < 80 → 0 ≤ drawnEdge_0 j ∧ drawnEdge_0 j ≤ 1) (hE_0_44_1 : ∀ j : Int, pieceOf_0 j = pieceOf_1 j) (hK_0_44 : ∀ j : Int, 0 ≤ j → j < 80 → (-1) ≤ pieceOf_0 j ∧ pieceOf_0 j ≤ 79) (hE_0_48_1 : ∀ j : Int, 0 ≤ j → (j = x1 → toGoal_0 j = x20) ∧ (j ≠ x1 → toGoal_0 j = toGoal_1 j)) (hK_0_48 : ∀ j : Int, 0 ≤ j → j < 26 → 0 ≤ toGoal_0 j ∧ toGoal_0 j ≤ 1000001) (kz_0_31 : 0 ≤ pn_0 ∧ pn_0 ≤ 25) (kz_0_32 : 0 ≤ pm_0 ∧ pm_0 ≤ 80) (kz_0_49 : (-1) ≤ onlyPiece_0 ∧ onlyPiece_0 ≤ 79) : CLO (pn_0) (onlyPiece_0) (pt_0) (ph_0) (drawnEdge_0) (pieceOf_0) (drawnNode_0) (toGoal_0) (x1) (x2) (x3) (x4) (x5) (x6) (x7) (x8) (x9) (x10) (x21) := by
  subst fe_0_31_1
  subst fe_0_32_1
  subst fe_0_49_1
  have e_hE_0_33_1 := funext hE_0_33_1; subst e_hE_0_33_1
  have e_hE_0_34_1 := funext hE_0_34_1; subst e_hE_0_34_1
  have e_hE_0_42_1 := funext hE_0_42_1; subst e_hE_0_42_1
  have e_hE_0_43_1 := funext hE_0_43_1; subst e_hE_0_43_1
  have e_hE_0_44_1 := funext hE_0_44_1; subst e_hE_0_44_1
  first
    | (refine ⟨fun _ => ⟨‹TG3 _ _ _ _ _ _ _ _ _ _ _ _ _ _›, fun hc => ?_, ‹SMN _ _ _ _›⟩, fun h => absurd (by omega) h⟩
       first
         | omega
         | (exfalso; unfold cnd at hc; omega))
    | (refine ⟨fun h => absurd h (by omega), fun _ => ?_⟩
       have hS := ‹SMN _ _ _ _›
       unfold SMN at hS
       have v1 := (hE_0_48_1 x1 (by omega)).1 rfl
       have := smlt (n := pn_0) (f := toGoal_0) (g := toGoal_1) (i := x1) (by omega) (by omega) (fun j a b => by
         by_cases q : j = x1
         · rw [q]; omega
         · rw [(hE_0_48_1 j a).2 q]; exact Int.le_refl _) (by omega)
       omega)
def o_Mo_closer_16 : or_T := (73, 22, [(0, (2, 0, 0, [165])), (1, (0, 0, 24, [])), (2, (0, 0, 24, [])), (3, (0, 0, 24, [])), (4, (0, 0, 24, [])), (5, (0, 1, 1, [])), (6, (0, 0, 80, [])), (7, (0, 0, 1, [])), (8, (0, 0, 24, [])), (9, (0, 0, 24, [])), (10, (0, -2, 26000060, [])), (11, (2, 0, 0, [188])), (12, (0, 0, 0, [])), (13, (2, 0, 0, [192])), (14, (0, 2, 1000001, [])), (15, (0, 0, 999999, [])), (16, (0, 1, 1, [])), (17, (0, 1, 1000000, [])), (18, (0, 0, 1000000, [])), (19, (0, 1, 1, [])), (20, (0, 1, 1000001, [])), (21, (0, 1, 1, []))], [(20, [0, 1, 2], [60, 2, 4, 121, 32, 49, 33, 34, 43, 44]), (20, [1, 0], [30, -1, 1, 0, 0, -1, 1, 31]), (20, [2, 0], [30, -1, 1, 0, 0, -1, 1, 31]), (100, [13, 1, 20], []), (1, [20, 18, 19], []), (10, [18, 13, 2], []), (9, [13, 0], [48]), (7, [14, 17], [4]), (1, [17, 15, 16], []), (10, [15, 13, 2], []), (10, [14, 13, 1], []), (7, [1, 3], [0]), (8, [5], [1]), (8, [12], [0]), (10, [12, 11, 2], []), (9, [11, 0], [42]), (7, [2, 4], [1]), (8, [5], [1]), (20, [0, 3, 4, 5], [60, 3, 6, 124, 31, 32, 49, 33, 34, 43, 44, 42, 48]), (20, [0, 3, 4, 5, 6, 7, 8, 9], [60, 1, 6, 125, 49, 33, 34, 43, 44, 42, 48]), (20, [0, 7, 10], [60, 1, 1, 128, 31, 48]), (20, [0, 1, 2], [60, 2, 4, 121, 32, 49, 33, 34, 43, 44]), (20, [1, 0], [30, -1, 1, 0, 0, -1, 1, 31]), (20, [2, 0], [30, -1, 1, 0, 0, -1, 1, 31])], [], [], [(20, [0, 3, 4, 5], [60, 3, 6, 124, 31, 32, 49, 33, 34, 43, 44, 42, 48]), (20, [0, 1, 2, 3, 4, 5, 6, 7, 8, 9, 10, 21], [60, 2, 6, 129, 31, 49, 33, 34, 43, 44, 42, 48])], [], [(20, 18, 1, 1), (14, 17, 1, 4294967296), (17, 15, 1, 1), (1, 3, 0, 0)])
theorem oo_Mo_closer_16 {kA : Nat → ClassId} : or_ok PRD kA GG o_Mo_closer_16 := by
  refine or_mk fun A ta ws vs hD hth hl => ?_
  intro t0 r0 t1 k1 t2 k2 t3 k3 t4 k4 t5 k5 t6 k6 t7 k7 t8 k8 t9 k9 t10 k10 t11 r11 t12 k12 t13 r13 t14 k14 t15 k15 t16 k16 t17 k17 t18 k18 t19 k19 t20 k20 t21 k21 d0 d1 d2 d3 f0 f1 f2 ta1 w1 le1 s1 f4 f5 f6 f7 f8 f9 f10 f11 f12 f13 f14 f15 f16 f17 f18 f19 f20 f21 f22 f23
  have s1 : (∀ b j, w_el ws b j = if b = v_ad (n_v vs 13) ∧ j = (v_iv (n_v vs 1)).toNat then v_iv (n_v vs 20) else w_el w1 b j) ∧ ∀ b k, w_fd ws b k = w_fd w1 b k := s1.2
  replace f5 := shm_107 f5
  replace f6 := shm_548 f6
  replace f9 := shm_107 f9
  replace f10 := shm_107 f10
  replace f14 := shm_107 f14
  replace f15 := shm_531 f15
  replace f18 := shm_549 f18
  replace f19 := shm_550 f19
  replace f20 := shm_551 f20
  replace f21 := shm_552 f21
  have ar_0_33_1 : w_ar w1 (n_v vs 0) 33 = w_ar ws (n_v vs 0) 33 := congrArg v_ad (s1.2 _ _).symm
  have cr_0_33 := fdq_117 hD hth r0
  have ar_0_34_1 : w_ar w1 (n_v vs 0) 34 = w_ar ws (n_v vs 0) 34 := congrArg v_ad (s1.2 _ _).symm
  have cr_0_34 := fdq_118 hD hth r0
  have ar_0_42_1 : w_ar w1 (n_v vs 0) 42 = w_ar ws (n_v vs 0) 42 := congrArg v_ad (s1.2 _ _).symm
  have cr_0_42 := fdq_136 hD hth r0
  have ar_0_43_1 : w_ar w1 (n_v vs 0) 43 = w_ar ws (n_v vs 0) 43 := congrArg v_ad (s1.2 _ _).symm
  have cr_0_43 := fdq_137 hD hth r0
  have ar_0_44_1 : w_ar w1 (n_v vs 0) 44 = w_ar ws (n_v vs 0) 44 := congrArg v_ad (s1.2 _ _).symm
  have cr_0_44 := fdq_138 hD hth r0
  have ar_0_48_1 : w_ar w1 (n_v vs 0) 48 = w_ar ws (n_v vs 0) 48 := congrArg v_ad (s1.2 _ _).symm
  have cr_0_48 := fdq_144 hD hth r0
  have ad_13 : v_ad (n_v vs 13) = w_ar ws (n_v vs 0) 48 := (congrArg v_ad f6).trans ar_0_48_1
  have ad_11 : v_ad (n_v vs 11) = w_ar ws (n_v vs 0) 42 := (congrArg v_ad f15).trans ar_0_42_1
  simp only [ad_13] at f5
  have h5 : v_iv (n_v vs 18) = w_ei w1 (w_ar ws (n_v vs 0) 48) (v_iv (n_v vs 2)) := f5
  simp only [ad_13] at f9
  have h9 : v_iv (n_v vs 15) = w_ei w1 (w_ar ws (n_v vs 0) 48) (v_iv (n_v vs 2)) := f9
  simp only [ad_13] at f10
  have h10 : v_iv (n_v vs 14) = w_ei w1 (w_ar ws (n_v vs 0) 48) (v_iv (n_v vs 1)) := f10
  simp only [ad_11] at f14
  have h14 : v_iv (n_v vs 12) = w_ei w1 (w_ar ws (n_v vs 0) 42) (v_iv (n_v vs 2)) := f14
  simp only [ar_0_33_1, ar_0_34_1, ar_0_42_1, ar_0_43_1, ar_0_44_1, ar_0_48_1] at f18 f19 f20 f21
  have fe_0_31_1 : w_fi ws (n_v vs 0) 31 = w_fi w1 (n_v vs 0) 31 := congrArg v_iv (s1.2 _ _)
  have fe_0_32_1 : w_fi ws (n_v vs 0) 32 = w_fi w1 (n_v vs 0) 32 := congrArg v_iv (s1.2 _ _)
  have fe_0_49_1 : w_fi ws (n_v vs 0) 49 = w_fi w1 (n_v vs 0) 49 := congrArg v_iv (s1.2 _ _)
  have hE_0_33_1 : ∀ j : Int, w_ei ws (w_ar ws (n_v vs 0) 33) j = w_ei w1 (w_ar ws (n_v vs 0) 33) j := el_kp s1.1 r13 cr_0_33 (by decide)
  have hK_0_33 := elq_60 hD hth cr_0_33
  have hE_0_34_1 : ∀ j : Int, w_ei ws (w_ar ws (n_v vs 0) 34) j = w_ei w1 (w_ar ws (n_v vs 0) 34) j := el_kp s1.1 r13 cr_0_34 (by decide)
  have hK_0_34 := elq_61 hD hth cr_0_34
  have hE_0_42_1 : ∀ j : Int, w_ei ws (w_ar ws (n_v vs 0) 42) j = w_ei w1 (w_ar ws (n_v vs 0) 42) j := el_kp s1.1 r13 cr_0_42 (by decide)
  have hK_0_42 := elq_75 hD hth cr_0_42
  have hE_0_43_1 : ∀ j : Int, w_ei ws (w_ar ws (n_v vs 0) 43) j = w_ei w1 (w_ar ws (n_v vs 0) 43) j := el_kp s1.1 r13 cr_0_43 (by decide)
  have hK_0_43 := elq_76 hD hth cr_0_43
  have hE_0_44_1 : ∀ j : Int, w_ei ws (w_ar ws (n_v vs 0) 44) j = w_ei w1 (w_ar ws (n_v vs 0) 44) j := el_kp s1.1 r13 cr_0_44 (by decide)
  have hK_0_44 := elq_77 hD hth cr_0_44
  have hE_0_48_1 : ∀ j : Int, 0 ≤ j → (j = v_iv (n_v vs 1) → w_ei ws (w_ar ws (n_v vs 0) 48) j = v_iv (n_v vs 20)) ∧ (j ≠ v_iv (n_v vs 1) → w_ei ws (w_ar ws (n_v vs 0) 48) j = w_ei w1 (w_ar ws (n_v vs 0) 48) j) := fun j hj => ⟨fun h => by unfold w_ei; rw [s1.1, if_pos ⟨ad_13.symm, by rw [h]⟩], fun h => by unfold w_ei; rw [s1.1, if_neg (fun e => h (by have := e.2; omega))]⟩
  have hK_0_48 := elq_82 hD hth cr_0_48
  have kz_0_31 := fdq_145 hD hth r0
  have kz_0_32 := fdq_140 hD hth r0
  have kz_0_49 := fdq_146 hD hth r0
  have nf0 : fc_1 PRD (20, [0, 3, 4, 5], [60, 3, 6, 124, 31, 32, 49, 33, 34, 43, 44, 42, 48]) ws (vs) := ⟨nf_in hl rfl, sgq_549 (vc_Mo_closer_16_0 (v_iv (n_v vs 1)) (v_iv (n_v vs 2)) (v_iv (n_v vs 3)) (v_iv (n_v vs 4)) (v_iv (n_v vs 5)) (v_iv (n_v vs 6)) (v_iv (n_v vs 7)) (v_iv (n_v vs 8)) (v_iv (n_v vs 9)) (v_iv (n_v vs 10)) (v_iv (n_v vs 12)) (v_iv (n_v vs 14)) (v_iv (n_v vs 15)) (v_iv (n_v vs 16)) (v_iv (n_v vs 17)) (v_iv (n_v vs 18)) (v_iv (n_v vs 19)) (v_iv (n_v vs 20)) (v_iv (n_v vs 21)) (w_ei ws (w_ar ws (n_v vs 0) 33)) (w_ei ws (w_ar ws (n_v vs 0) 34)) (w_ei ws (w_ar ws (n_v vs 0) 43)) (w_ei ws (w_ar ws (n_v vs 0) 44)) (w_fi ws (n_v vs 0) 32) (w_fi ws (n_v vs 0) 49) (w_fi ws (n_v vs 0) 31) (w_ei w1 (w_ar ws (n_v vs 0) 48)) (w_ei w1 (w_ar ws (n_v vs 0) 42)) (w_ei w1 (w_ar ws (n_v vs 0) 33)) (w_ei w1 (w_ar ws (n_v vs 0) 34)) (w_ei w1 (w_ar ws (n_v vs 0) 43)) (w_ei w1 (w_ar ws (n_v vs 0) 44)) (w_fi w1 (n_v vs 0) 31) (w_fi w1 (n_v vs 0) 32) (w_fi w1 (n_v vs 0) 49) (w_ei ws (w_ar ws (n_v vs 0) 42)) (w_ei ws (w_ar ws (n_v vs 0) 48)) k1 k2 k3 k4 k5 k6 k7 k8 k9 k10 k12 k14 k15 k16 k17 k18 k19 k20 k21 d0 d1 d2 d3 (shm_552 f0) (shm_553 f1) (shm_553 f2) (shm_12 f4) h5 (shm_21 f7) (shm_12 f8) h9 h10 (shm_37 f11) (shm_142 f12) (shm_192 f13) h14 (shm_40 f16) (shm_142 f17) f18 f19 f20 f21 (shm_553 f22) (shm_553 f23) fe_0_31_1 fe_0_32_1 fe_0_49_1 hE_0_33_1 hK_0_33 hE_0_34_1 hK_0_34 hE_0_42_1 hK_0_42 hE_0_43_1 hK_0_43 hE_0_44_1 hK_0_44 hE_0_48_1 hK_0_48 kz_0_31 kz_0_32 kz_0_49)⟩
  have nf1 : fc_1 PRD (20, [0, 1, 2, 3, 4, 5, 6, 7, 8, 9, 10, 21], [60, 2, 6, 129, 31, 49, 33, 34, 43, 44, 42, 48]) ws (vs) := ⟨nf_in hl rfl, sgq_554 (vc_Mo_closer_16_1 (v_iv (n_v vs 1)) (v_iv (n_v vs 2)) (v_iv (n_v vs 3)) (v_iv (n_v vs 4)) (v_iv (n_v vs 5)) (v_iv (n_v vs 6)) (v_iv (n_v vs 7)) (v_iv (n_v vs 8)) (v_iv (n_v vs 9)) (v_iv (n_v vs 10)) (v_iv (n_v vs 12)) (v_iv (n_v vs 14)) (v_iv (n_v vs 15)) (v_iv (n_v vs 16)) (v_iv (n_v vs 17)) (v_iv (n_v vs 18)) (v_iv (n_v vs 19)) (v_iv (n_v vs 20)) (v_iv (n_v vs 21)) (w_ei ws (w_ar ws (n_v vs 0) 33)) (w_ei ws (w_ar ws (n_v vs 0) 34)) (w_ei ws (w_ar ws (n_v vs 0) 43)) (w_ei ws (w_ar ws (n_v vs 0) 44)) (w_fi ws (n_v vs 0) 32) (w_fi ws (n_v vs 0) 49) (w_fi ws (n_v vs 0) 31) (w_ei w1 (w_ar ws (n_v vs 0) 48)) (w_ei w1 (w_ar ws (n_v vs 0) 42)) (w_ei w1 (w_ar ws (n_v vs 0) 33)) (w_ei w1 (w_ar ws (n_v vs 0) 34)) (w_ei w1 (w_ar ws (n_v vs 0) 43)) (w_ei w1 (w_ar ws (n_v vs 0) 44)) (w_fi w1 (n_v vs 0) 31) (w_fi w1 (n_v vs 0) 32) (w_fi w1 (n_v vs 0) 49) (w_ei ws (w_ar ws (n_v vs 0) 42)) (w_ei ws (w_ar ws (n_v vs 0) 48)) k1 k2 k3 k4 k5 k6 k7 k8 k9 k10 k12 k14 k15 k16 k17 k18 k19 k20 k21 d0 d1 d2 d3 (shm_552 f0) (shm_553 f1) (shm_553 f2) (shm_12 f4) h5 (shm_21 f7) (shm_12 f8) h9 h10 (shm_37 f11) (shm_142 f12) (shm_192 f13) h14 (shm_40 f16) (shm_142 f17) f18 f19 f20 f21 (shm_553 f22) (shm_553 f23) fe_0_31_1 fe_0_32_1 fe_0_49_1 hE_0_33_1 hK_0_33 hE_0_34_1 hK_0_34 hE_0_42_1 hK_0_42 hE_0_43_1 hK_0_43 hE_0_44_1 hK_0_44 hE_0_48_1 hK_0_48 kz_0_31 kz_0_32 kz_0_49)⟩
  refine ⟨(fun _ h => (by cases h)), [], trivial, ?_, (fun _ h => (by cases h))⟩
  rw [List.append_nil]
  exact List.forall_mem_cons.mpr ⟨⟨show (20 : Nat) < 100 from by decide, nf0⟩, List.forall_mem_cons.mpr ⟨⟨show (20 : Nat) < 100 from by decide, nf1⟩, (fun _ h => (by cases h))⟩⟩
set_option maxHeartbeats 4000000 in
theorem vc_Mo_closer_17_0 (x1 : Int) (x2 : Int) (x3 : Int) (x4 : Int) (x5 : Int) (x6 : Int) (x7 : Int) (x8 : Int) (x9 : Int) (x10 : Int) (x12 : Int) (x14 : Int) (x15 : Int) (x16 : Int) (x17 : Int) (x18 : Int) (toGoal_0 : Int → Int) (drawnNode_0 : Int → Int) (pt_0 : Int → Int) (ph_0 : Int → Int) (drawnEdge_0 : Int → Int) (pieceOf_0 : Int → Int) (pn_0 : Int) (pm_0 : Int) (onlyPiece_0 : Int) (k1 : 0 ≤ x1 ∧ x1 ≤ 24) (k2 : 0 ≤ x2 ∧ x2 ≤ 24) (k3 : 0 ≤ x3 ∧ x3 ≤ 24) (k4 : 0 ≤ x4 ∧ x4 ≤ 24) (k5 : 1 ≤ x5 ∧ x5 ≤ 1) (k6 : 0 ≤ x6 ∧ x6 ≤ 80) (k7 : 0 ≤ x7 ∧ x7 ≤ 1) (k8 : 0 ≤ x8 ∧ x8 ≤ 24) (k9 : 0 ≤ x9 ∧ x9 ≤ 24) (k10 : (-2) ≤ x10 ∧ x10 ≤ 26000060) (k12 : 0 ≤ x12 ∧ x12 ≤ 0) (k14 : 0 ≤ x14 ∧ x14 ≤ 1000001) (k15 : 0 ≤ x15 ∧ x15 ≤ 1000000) (k16 : 1 ≤ x16 ∧ x16 ≤ 1) (k17 : 1 ≤ x17 ∧ x17 ≤ 1000001) (k18 : 0 ≤ x18 ∧ x18 ≤ 0) (d0 : x17 + (-4294967296) ≤ x14 ∧ x14 ≤ x17 + 0) (d1 : x15 + 1 ≤ x17 ∧ x17 ≤ x15 + 1) (d2 : x3 + 0 ≤ x1 ∧ x1 ≤ x3 + 0) (f0 : x14 ≤ x17) (f1 : x17 = x15 + x16) (h2 : x15 = toGoal_0 (x2)) (h4 : x14 = toGoal_0 (x1)) (f5 : x1 = x3) (f6 : x5 ≠ 0) (f7 : x12 = 0) (h8 : x12 = drawnNode_0 (x2)) (f10 : x2 ≠ x4) (f11 : x5 ≠ 0) (f12 : TGI (pn_0) (pm_0) (onlyPiece_0) (pt_0) (ph_0) (drawnEdge_0) (pieceOf_0) (drawnNode_0) (toGoal_0) (x3) (x4) (x5)) (f13 : TG3 (onlyPiece_0) (pt_0) (ph_0) (drawnEdge_0) (pieceOf_0) (drawnNode_0) (toGoal_0) (x3) (x4) (x5) (x6) (x7) (x8) (x9)) (f14 : SMN (pn_0) (toGoal_0) (x7) (x10)) (f15 : ARC (pm_0) (onlyPiece_0) (pt_0) (ph_0) (drawnEdge_0) (pieceOf_0) (x1) (x2)) (f16 : 1 * x1 + ((-1) * pn_0 + 0) ≤ (-1)) (f17 : 1 * x2 + ((-1) * pn_0 + 0) ≤ (-1)) (hK_0_33 : ∀ j : Int, 0 ≤ j → j < 80 → 0 ≤ pt_0 j ∧ pt_0 j ≤ 24) (hK_0_34 : ∀ j : Int, 0 ≤ j → j < 80 → 0 ≤ ph_0 j ∧ ph_0 j ≤ 24) (hK_0_42 : ∀ j : Int, 0 ≤ j → j < 26 → 0 ≤ drawnNode_0 j ∧ drawnNode_0 j ≤ 1) (hK_0_43 : ∀ j : Int, 0 ≤ j → j < 80 → 0 ≤ drawnEdge_0 j ∧ drawnEdge_0 j ≤ 1) (hK_0_44 : ∀ j : Int, 0 ≤ j → j < 80 → (-1) ≤ pieceOf_0 j ∧ pieceOf_0 j ≤ 79) (hK_0_48 : ∀ j : Int, 0 ≤ j → j < 26 → 0 ≤ toGoal_0 j ∧ toGoal_0 j ≤ 1000001) (kz_0_31 : 0 ≤ pn_0 ∧ pn_0 ≤ 25) (kz_0_32 : 0 ≤ pm_0 ∧ pm_0 ≤ 80) (kz_0_49 : (-1) ≤ onlyPiece_0 ∧ onlyPiece_0 ≤ 79) : CLO (pn_0) (onlyPiece_0) (pt_0) (ph_0) (drawnEdge_0) (pieceOf_0) (drawnNode_0) (toGoal_0) (x1) (x2) (x3) (x4) (x5) (x6) (x7) (x8) (x9) (x10) (x18) := by
  first
    | (refine ⟨fun _ => ⟨‹TG3 _ _ _ _ _ _ _ _ _ _ _ _ _ _›, fun hc => ?_, ‹SMN _ _ _ _›⟩, fun h => absurd (by omega) h⟩
       first
         | omega
         | (exfalso; unfold cnd at hc; omega))
    | (refine ⟨fun h => absurd h (by omega), fun _ => ?_⟩
       have hS := ‹SMN _ _ _ _›
       unfold SMN at hS
       have v1 := (hE_0_48_1 x1 (by omega)).1 rfl
       have := smlt (n := pn_0) (f := toGoal_0) (g := toGoal_1) (i := x1) (by omega) (by omega) (fun j a b => by
         by_cases q : j = x1
         · rw [q]; omega
         · rw [(hE_0_48_1 j a).2 q]; exact Int.le_refl _) (by omega)
       omega)
def o_Mo_closer_17 : or_T := (57, 19, [(0, (2, 0, 0, [165])), (1, (0, 0, 24, [])), (2, (0, 0, 24, [])), (3, (0, 0, 24, [])), (4, (0, 0, 24, [])), (5, (0, 1, 1, [])), (6, (0, 0, 80, [])), (7, (0, 0, 1, [])), (8, (0, 0, 24, [])), (9, (0, 0, 24, [])), (10, (0, -2, 26000060, [])), (11, (2, 0, 0, [188])), (12, (0, 0, 0, [])), (13, (2, 0, 0, [192])), (14, (0, 0, 1000001, [])), (15, (0, 0, 1000000, [])), (16, (0, 1, 1, [])), (17, (0, 1, 1000001, [])), (18, (0, 0, 0, []))], [(7, [14, 17], [5]), (1, [17, 15, 16], []), (10, [15, 13, 2], []), (9, [13, 0], [48]), (10, [14, 13, 1], []), (7, [1, 3], [0]), (8, [5], [1]), (8, [12], [0]), (10, [12, 11, 2], []), (9, [11, 0], [42]), (7, [2, 4], [1]), (8, [5], [1]), (20, [0, 3, 4, 5], [60, 3, 6, 124, 31, 32, 49, 33, 34, 43, 44, 42, 48]), (20, [0, 3, 4, 5, 6, 7, 8, 9], [60, 1, 6, 125, 49, 33, 34, 43, 44, 42, 48]), (20, [0, 7, 10], [60, 1, 1, 128, 31, 48]), (20, [0, 1, 2], [60, 2, 4, 121, 32, 49, 33, 34, 43, 44]), (20, [1, 0], [30, -1, 1, 0, 0, -1, 1, 31]), (20, [2, 0], [30, -1, 1, 0, 0, -1, 1, 31])], [], [], [(20, [0, 1, 2, 3, 4, 5, 6, 7, 8, 9, 10, 18], [60, 2, 6, 129, 31, 49, 33, 34, 43, 44, 42, 48])], [], [(14, 17, -4294967296, 0), (17, 15, 1, 1), (1, 3, 0, 0)])
theorem oo_Mo_closer_17 {kA : Nat → ClassId} : or_ok PRD kA GG o_Mo_closer_17 := by
  refine or_mk fun A ta ws vs hD hth hl => ?_
  intro t0 r0 t1 k1 t2 k2 t3 k3 t4 k4 t5 k5 t6 k6 t7 k7 t8 k8 t9 k9 t10 k10 t11 r11 t12 k12 t13 r13 t14 k14 t15 k15 t16 k16 t17 k17 t18 k18 d0 d1 d2 f0 f1 f2 f3 f4 f5 f6 f7 f8 f9 f10 f11 f12 f13 f14 f15 f16 f17
  replace f2 := shm_107 f2
  replace f3 := shm_548 f3
  replace f4 := shm_107 f4
  replace f8 := shm_107 f8
  replace f9 := shm_531 f9
  have cr_0_33 := fdq_117 hD hth r0
  have cr_0_34 := fdq_118 hD hth r0
  have cr_0_42 := fdq_136 hD hth r0
  have cr_0_43 := fdq_137 hD hth r0
  have cr_0_44 := fdq_138 hD hth r0
  have cr_0_48 := fdq_144 hD hth r0
  have ad_13 : v_ad (n_v vs 13) = w_ar ws (n_v vs 0) 48 := congrArg v_ad f3
  have ad_11 : v_ad (n_v vs 11) = w_ar ws (n_v vs 0) 42 := congrArg v_ad f9
  simp only [ad_13] at f2
  have h2 : v_iv (n_v vs 15) = w_ei ws (w_ar ws (n_v vs 0) 48) (v_iv (n_v vs 2)) := f2
  simp only [ad_13] at f4
  have h4 : v_iv (n_v vs 14) = w_ei ws (w_ar ws (n_v vs 0) 48) (v_iv (n_v vs 1)) := f4
  simp only [ad_11] at f8
  have h8 : v_iv (n_v vs 12) = w_ei ws (w_ar ws (n_v vs 0) 42) (v_iv (n_v vs 2)) := f8
  have hK_0_33 := elq_60 hD hth cr_0_33
  have hK_0_34 := elq_61 hD hth cr_0_34
  have hK_0_42 := elq_75 hD hth cr_0_42
  have hK_0_43 := elq_76 hD hth cr_0_43
  have hK_0_44 := elq_77 hD hth cr_0_44
  have hK_0_48 := elq_82 hD hth cr_0_48
  have kz_0_31 := fdq_145 hD hth r0
  have kz_0_32 := fdq_140 hD hth r0
  have kz_0_49 := fdq_146 hD hth r0
  have nf0 : fc_1 PRD (20, [0, 1, 2, 3, 4, 5, 6, 7, 8, 9, 10, 18], [60, 2, 6, 129, 31, 49, 33, 34, 43, 44, 42, 48]) ws (vs) := ⟨nf_in hl rfl, sgq_554 (vc_Mo_closer_17_0 (v_iv (n_v vs 1)) (v_iv (n_v vs 2)) (v_iv (n_v vs 3)) (v_iv (n_v vs 4)) (v_iv (n_v vs 5)) (v_iv (n_v vs 6)) (v_iv (n_v vs 7)) (v_iv (n_v vs 8)) (v_iv (n_v vs 9)) (v_iv (n_v vs 10)) (v_iv (n_v vs 12)) (v_iv (n_v vs 14)) (v_iv (n_v vs 15)) (v_iv (n_v vs 16)) (v_iv (n_v vs 17)) (v_iv (n_v vs 18)) (w_ei ws (w_ar ws (n_v vs 0) 48)) (w_ei ws (w_ar ws (n_v vs 0) 42)) (w_ei ws (w_ar ws (n_v vs 0) 33)) (w_ei ws (w_ar ws (n_v vs 0) 34)) (w_ei ws (w_ar ws (n_v vs 0) 43)) (w_ei ws (w_ar ws (n_v vs 0) 44)) (w_fi ws (n_v vs 0) 31) (w_fi ws (n_v vs 0) 32) (w_fi ws (n_v vs 0) 49) k1 k2 k3 k4 k5 k6 k7 k8 k9 k10 k12 k14 k15 k16 k17 k18 d0 d1 d2 (shm_24 f0) (shm_12 f1) h2 h4 (shm_37 f5) (shm_142 f6) (shm_192 f7) h8 (shm_40 f10) (shm_142 f11) (shm_549 f12) (shm_550 f13) (shm_551 f14) (shm_552 f15) (shm_553 f16) (shm_553 f17) hK_0_33 hK_0_34 hK_0_42 hK_0_43 hK_0_44 hK_0_48 kz_0_31 kz_0_32 kz_0_49)⟩
  refine ⟨(fun _ h => (by cases h)), [], trivial, ?_, (fun _ h => (by cases h))⟩
  rw [List.append_nil]
  exact List.forall_mem_cons.mpr ⟨⟨show (20 : Nat) < 100 from by decide, nf0⟩, (fun _ h => (by cases h))⟩
set_option maxHeartbeats 4000000 in
theorem vc_Mo_closer_18_0 (x1 : Int) (x2 : Int) (x3 : Int) (x4 : Int) (x5 : Int) (x6 : Int) (x7 : Int) (x8 : Int) (x9 : Int) (x10 : Int) (x12 : Int) (x13 : Int) (x14 : Int) (drawnNode_0 : Int → Int) (pt_0 : Int → Int) (ph_0 : Int → Int) (drawnEdge_0 : Int → Int) (pieceOf_0 : Int → Int) (toGoal_0 : Int → Int) (pn_0 : Int) (pm_0 : Int) (onlyPiece_0 : Int) (k1 : 0 ≤ x1 ∧ x1 ≤ 24) (k2 : 0 ≤ x2 ∧ x2 ≤ 24) (k3 : 0 ≤ x3 ∧ x3 ≤ 24) (k4 : 0 ≤ x4 ∧ x4 ≤ 24) (k5 : 1 ≤ x5 ∧ x5 ≤ 1) (k6 : 0 ≤ x6 ∧ x6 ≤ 80) (k7 : 0 ≤ x7 ∧ x7 ≤ 1) (k8 : 0 ≤ x8 ∧ x8 ≤ 24) (k9 : 0 ≤ x9 ∧ x9 ≤ 24) (k10 : (-2) ≤ x10 ∧ x10 ≤ 26000060) (k12 : 0 ≤ x12 ∧ x12 ≤ 0) (k13 : 1 ≤ x13 ∧ x13 ≤ 1) (k14 : 0 ≤ x14 ∧ x14 ≤ 0) (f0 : x13 ≠ 0) (h1 : x13 = drawnNode_0 (x1)) (f3 : x1 ≠ x3) (f4 : x5 ≠ 0) (f5 : x12 = 0) (h6 : x12 = drawnNode_0 (x2)) (f7 : x2 ≠ x4) (f8 : x5 ≠ 0) (f9 : TGI (pn_0) (pm_0) (onlyPiece_0) (pt_0) (ph_0) (drawnEdge_0) (pieceOf_0) (drawnNode_0) (toGoal_0) (x3) (x4) (x5)) (f10 : TG3 (onlyPiece_0) (pt_0) (ph_0) (drawnEdge_0) (pieceOf_0) (drawnNode_0) (toGoal_0) (x3) (x4) (x5) (x6) (x7) (x8) (x9)) (f11 : SMN (pn_0) (toGoal_0) (x7) (x10)) (f12 : ARC (pm_0) (onlyPiece_0) (pt_0) (ph_0) (drawnEdge_0) (pieceOf_0) (x1) (x2)) (f13 : 1 * x1 + ((-1) * pn_0 + 0) ≤ (-1)) (f14 : 1 * x2 + ((-1) * pn_0 + 0) ≤ (-1)) (hK_0_33 : ∀ j : Int, 0 ≤ j → j < 80 → 0 ≤ pt_0 j ∧ pt_0 j ≤ 24) (hK_0_34 : ∀ j : Int, 0 ≤ j → j < 80 → 0 ≤ ph_0 j ∧ ph_0 j ≤ 24) (hK_0_42 : ∀ j : Int, 0 ≤ j → j < 26 → 0 ≤ drawnNode_0 j ∧ drawnNode_0 j ≤ 1) (hK_0_43 : ∀ j : Int, 0 ≤ j → j < 80 → 0 ≤ drawnEdge_0 j ∧ drawnEdge_0 j ≤ 1) (hK_0_44 : ∀ j : Int, 0 ≤ j → j < 80 → (-1) ≤ pieceOf_0 j ∧ pieceOf_0 j ≤ 79) (hK_0_48 : ∀ j : Int, 0 ≤ j → j < 26 → 0 ≤ toGoal_0 j ∧ toGoal_0 j ≤ 1000001) (kz_0_31 : 0 ≤ pn_0 ∧ pn_0 ≤ 25) (kz_0_32 : 0 ≤ pm_0 ∧ pm_0 ≤ 80) (kz_0_49 : (-1) ≤ onlyPiece_0 ∧ onlyPiece_0 ≤ 79) : CLO (pn_0) (onlyPiece_0) (pt_0) (ph_0) (drawnEdge_0) (pieceOf_0) (drawnNode_0) (toGoal_0) (x1) (x2) (x3) (x4) (x5) (x6) (x7) (x8) (x9) (x10) (x14) := by
  first
    | (refine ⟨fun _ => ⟨‹TG3 _ _ _ _ _ _ _ _ _ _ _ _ _ _›, fun hc => ?_, ‹SMN _ _ _ _›⟩, fun h => absurd (by omega) h⟩
       first
         | omega
         | (exfalso; unfold cnd at hc; omega))
    | (refine ⟨fun h => absurd h (by omega), fun _ => ?_⟩
       have hS := ‹SMN _ _ _ _›
       unfold SMN at hS
       have v1 := (hE_0_48_1 x1 (by omega)).1 rfl
       have := smlt (n := pn_0) (f := toGoal_0) (g := toGoal_1) (i := x1) (by omega) (by omega) (fun j a b => by
         by_cases q : j = x1
         · rw [q]; omega
         · rw [(hE_0_48_1 j a).2 q]; exact Int.le_refl _) (by omega)
       omega)
def o_Mo_closer_18 : or_T := (57, 15, [(0, (2, 0, 0, [165])), (1, (0, 0, 24, [])), (2, (0, 0, 24, [])), (3, (0, 0, 24, [])), (4, (0, 0, 24, [])), (5, (0, 1, 1, [])), (6, (0, 0, 80, [])), (7, (0, 0, 1, [])), (8, (0, 0, 24, [])), (9, (0, 0, 24, [])), (10, (0, -2, 26000060, [])), (12, (0, 0, 0, [])), (13, (0, 1, 1, [])), (14, (0, 0, 0, []))], [(8, [13], [1]), (10, [13, 11, 1], []), (9, [11, 0], [42]), (7, [1, 3], [1]), (8, [5], [1]), (8, [12], [0]), (10, [12, 11, 2], []), (7, [2, 4], [1]), (8, [5], [1]), (20, [0, 3, 4, 5], [60, 3, 6, 124, 31, 32, 49, 33, 34, 43, 44, 42, 48]), (20, [0, 3, 4, 5, 6, 7, 8, 9], [60, 1, 6, 125, 49, 33, 34, 43, 44, 42, 48]), (20, [0, 7, 10], [60, 1, 1, 128, 31, 48]), (20, [0, 1, 2], [60, 2, 4, 121, 32, 49, 33, 34, 43, 44]), (20, [1, 0], [30, -1, 1, 0, 0, -1, 1, 31]), (20, [2, 0], [30, -1, 1, 0, 0, -1, 1, 31])], [], [], [(20, [0, 1, 2, 3, 4, 5, 6, 7, 8, 9, 10, 14], [60, 2, 6, 129, 31, 49, 33, 34, 43, 44, 42, 48])], [], [])
theorem oo_Mo_closer_18 {kA : Nat → ClassId} : or_ok PRD kA GG o_Mo_closer_18 := by
  refine or_mk fun A ta ws vs hD hth hl => ?_
  intro t0 r0 t1 k1 t2 k2 t3 k3 t4 k4 t5 k5 t6 k6 t7 k7 t8 k8 t9 k9 t10 k10 t12 k12 t13 k13 t14 k14 f0 f1 f2 f3 f4 f5 f6 f7 f8 f9 f10 f11 f12 f13 f14
  replace f1 := shm_107 f1
  replace f2 := shm_531 f2
  replace f6 := shm_107 f6
  have cr_0_33 := fdq_117 hD hth r0
  have cr_0_34 := fdq_118 hD hth r0
  have cr_0_42 := fdq_136 hD hth r0
  have cr_0_43 := fdq_137 hD hth r0
  have cr_0_44 := fdq_138 hD hth r0
  have cr_0_48 := fdq_144 hD hth r0
  have ad_11 : v_ad (n_v vs 11) = w_ar ws (n_v vs 0) 42 := congrArg v_ad f2
  simp only [ad_11] at f1
  have h1 : v_iv (n_v vs 13) = w_ei ws (w_ar ws (n_v vs 0) 42) (v_iv (n_v vs 1)) := f1
  simp only [ad_11] at f6
  have h6 : v_iv (n_v vs 12) = w_ei ws (w_ar ws (n_v vs 0) 42) (v_iv (n_v vs 2)) := f6
  have hK_0_33 := elq_60 hD hth cr_0_33
  have hK_0_34 := elq_61 hD hth cr_0_34
  have hK_0_42 := elq_75 hD hth cr_0_42
  have hK_0_43 := elq_76 hD hth cr_0_43
  have hK_0_44 := elq_77 hD hth cr_0_44
  have hK_0_48 := elq_82 hD hth cr_0_48
  have kz_0_31 := fdq_145 hD hth r0
  have kz_0_32 := fdq_140 hD hth r0
  have kz_0_49 := fdq_146 hD hth r0
  have nf0 : fc_1 PRD (20, [0, 1, 2, 3, 4, 5, 6, 7, 8, 9, 10, 14], [60, 2, 6, 129, 31, 49, 33, 34, 43, 44, 42, 48]) ws (vs) := ⟨nf_in hl rfl, sgq_554 (vc_Mo_closer_18_0 (v_iv (n_v vs 1)) (v_iv (n_v vs 2)) (v_iv (n_v vs 3)) (v_iv (n_v vs 4)) (v_iv (n_v vs 5)) (v_iv (n_v vs 6)) (v_iv (n_v vs 7)) (v_iv (n_v vs 8)) (v_iv (n_v vs 9)) (v_iv (n_v vs 10)) (v_iv (n_v vs 12)) (v_iv (n_v vs 13)) (v_iv (n_v vs 14)) (w_ei ws (w_ar ws (n_v vs 0) 42)) (w_ei ws (w_ar ws (n_v vs 0) 33)) (w_ei ws (w_ar ws (n_v vs 0) 34)) (w_ei ws (w_ar ws (n_v vs 0) 43)) (w_ei ws (w_ar ws (n_v vs 0) 44)) (w_ei ws (w_ar ws (n_v vs 0) 48)) (w_fi ws (n_v vs 0) 31) (w_fi ws (n_v vs 0) 32) (w_fi ws (n_v vs 0) 49) k1 k2 k3 k4 k5 k6 k7 k8 k9 k10 k12 k13 k14 (shm_142 f0) h1 (shm_40 f3) (shm_142 f4) (shm_192 f5) h6 (shm_40 f7) (shm_142 f8) (shm_549 f9) (shm_550 f10) (shm_551 f11) (shm_552 f12) (shm_553 f13) (shm_553 f14) hK_0_33 hK_0_34 hK_0_42 hK_0_43 hK_0_44 hK_0_48 kz_0_31 kz_0_32 kz_0_49)⟩
  refine ⟨(fun _ h => (by cases h)), [], trivial, ?_, (fun _ h => (by cases h))⟩
  rw [List.append_nil]
  exact List.forall_mem_cons.mpr ⟨⟨show (20 : Nat) < 100 from by decide, nf0⟩, (fun _ h => (by cases h))⟩
def o_Mo_closer_19 : or_T := (51, 17, [(0, (2, 0, 0, [165])), (1, (0, 0, 24, [])), (2, (0, 0, 24, [])), (3, (0, 0, 24, [])), (4, (0, 0, 24, [])), (5, (0, 1, 1, [])), (6, (0, 0, 80, [])), (7, (0, 0, 1, [])), (8, (0, 0, 24, [])), (9, (0, 0, 24, [])), (10, (0, -2, 26000060, [])), (11, (2, 0, 0, [188])), (12, (0, 0, 0, [])), (13, (0, 0, 0, [])), (14, (2, 0, 0, [192])), (15, (0, 0, 1000001, [])), (16, (0, 0, 1000001, []))], [(10, [16, 14, 2], []), (9, [14, 0], [48]), (10, [15, 14, 1], []), (8, [13], [0]), (10, [13, 11, 1], []), (9, [11, 0], [42]), (7, [1, 3], [1]), (8, [5], [1]), (8, [12], [0]), (10, [12, 11, 2], []), (7, [2, 4], [1]), (8, [5], [1]), (20, [0, 3, 4, 5], [60, 3, 6, 124, 31, 32, 49, 33, 34, 43, 44, 42, 48]), (20, [0, 3, 4, 5, 6, 7, 8, 9], [60, 1, 6, 125, 49, 33, 34, 43, 44, 42, 48]), (20, [0, 7, 10], [60, 1, 1, 128, 31, 48]), (20, [0, 1, 2], [60, 2, 4, 121, 32, 49, 33, 34, 43, 44]), (20, [1, 0], [30, -1, 1, 0, 0, -1, 1, 31]), (20, [2, 0], [30, -1, 1, 0, 0, -1, 1, 31])], [(16, (0, 0, 1000000, []))], [], [], [], [])
theorem oo_Mo_closer_19 {kA : Nat → ClassId} : or_ok PRD kA GG o_Mo_closer_19 := by
  refine or_mk fun A ta ws vs hD hth hl => ?_
  intro t0 r0 t1 k1 t2 k2 t3 k3 t4 k4 t5 k5 t6 k6 t7 k7 t8 k8 t9 k9 t10 k10 t11 r11 t12 k12 t13 k13 t14 r14 t15 k15 t16 k16 f0 f1 f2 f3 f4 f5 f6 f7 f8 f9 f10 f11 f12 f13 f14 f15 f16 f17
  replace f0 := shm_107 f0
  replace f1 := shm_548 f1
  replace f2 := shm_107 f2
  replace f3 := shm_192 f3
  replace f4 := shm_107 f4
  replace f5 := shm_531 f5
  replace f6 := shm_40 f6
  replace f7 := shm_142 f7
  replace f8 := shm_192 f8
  replace f9 := shm_107 f9
  replace f10 := shm_40 f10
  replace f11 := shm_142 f11
  replace f12 := shm_549 f12
  replace f13 := shm_550 f13
  replace f14 := shm_551 f14
  replace f15 := shm_552 f15
  replace f16 := shm_553 f16
  replace f17 := shm_553 f17
  have cr_0_33 := fdq_117 hD hth r0
  have cr_0_34 := fdq_118 hD hth r0
  have cr_0_42 := fdq_136 hD hth r0
  have cr_0_43 := fdq_137 hD hth r0
  have cr_0_44 := fdq_138 hD hth r0
  have cr_0_48 := fdq_144 hD hth r0
  have ad_14 : v_ad (n_v vs 14) = w_ar ws (n_v vs 0) 48 := congrArg v_ad f1
  have ad_11 : v_ad (n_v vs 11) = w_ar ws (n_v vs 0) 42 := congrArg v_ad f5
  simp only [ad_14] at f0
  have h0 : v_iv (n_v vs 16) = w_ei ws (w_ar ws (n_v vs 0) 48) (v_iv (n_v vs 2)) := f0
  simp only [ad_14] at f2
  have h2 : v_iv (n_v vs 15) = w_ei ws (w_ar ws (n_v vs 0) 48) (v_iv (n_v vs 1)) := f2
  simp only [ad_11] at f4
  have h4 : v_iv (n_v vs 13) = w_ei ws (w_ar ws (n_v vs 0) 42) (v_iv (n_v vs 1)) := f4
  simp only [ad_11] at f9
  have h9 : v_iv (n_v vs 12) = w_ei ws (w_ar ws (n_v vs 0) 42) (v_iv (n_v vs 2)) := f9
  have br_0_42_1_0 : w_ei ws (w_ar ws (n_v vs 0) 42) (v_iv (n_v vs 1)) = w_el ws (w_ar ws (n_v vs 0) 42) (v_iv (n_v vs 1)).toNat := rfl
  have br_0_42_2_0 : w_ei ws (w_ar ws (n_v vs 0) 42) (v_iv (n_v vs 2)) = w_el ws (w_ar ws (n_v vs 0) 42) (v_iv (n_v vs 2)).toNat := rfl
  have br_0_48_1_0 : w_ei ws (w_ar ws (n_v vs 0) 48) (v_iv (n_v vs 1)) = w_el ws (w_ar ws (n_v vs 0) 48) (v_iv (n_v vs 1)).toNat := rfl
  have br_0_48_2_0 : w_ei ws (w_ar ws (n_v vs 0) 48) (v_iv (n_v vs 2)) = w_el ws (w_ar ws (n_v vs 0) 48) (v_iv (n_v vs 2)).toNat := rfl
  have hK_0_33 := elq_60 hD hth cr_0_33
  have hK_0_34 := elq_61 hD hth cr_0_34
  have hK_0_42 := elq_75 hD hth cr_0_42
  have hK_0_43 := elq_76 hD hth cr_0_43
  have hK_0_44 := elq_77 hD hth cr_0_44
  have hK_0_48 := elq_82 hD hth cr_0_48
  have kz_0_31 := fdq_145 hD hth r0
  have kz_0_32 := fdq_140 hD hth r0
  have kz_0_49 := fdq_146 hD hth r0
  first | have hR := tgi_rng (i := v_iv (n_v vs 2)) ‹TGI _ _ _ _ _ _ _ _ _ _ _ _› (by omega) (by omega) | skip
  have rf16 : tv_ok ta (0, 0, 1000000, []) (n_v vs 16) := tv_in t16 (by first | omega | grind) (by first | omega | grind)
  refine ⟨List.forall_mem_cons.mpr ⟨rf16, (fun _ h => (by cases h))⟩, [], trivial, ?_, (fun _ h => (by cases h))⟩
  rw [List.append_nil]
  exact (fun _ h => (by cases h))
def o_Mo_closer_20 : or_T := (69, 20, [(0, (2, 0, 0, [165])), (1, (0, 0, 24, [])), (2, (0, 0, 24, [])), (3, (0, 0, 24, [])), (4, (0, 0, 24, [])), (5, (0, 1, 1, [])), (6, (0, 0, 80, [])), (7, (0, 0, 1, [])), (8, (0, 0, 24, [])), (9, (0, 0, 24, [])), (10, (0, -2, 26000060, [])), (11, (2, 0, 0, [188])), (12, (0, 0, 0, [])), (13, (0, 0, 0, [])), (14, (2, 0, 0, [192])), (15, (0, 2, 1000001, [])), (16, (0, 0, 999999, [])), (17, (0, 1, 1, [])), (18, (0, 1, 1000000, [])), (19, (0, 0, 1000001, []))], [(10, [19, 14, 2], []), (9, [14, 0], [48]), (7, [15, 18], [4]), (1, [18, 16, 17], []), (10, [16, 14, 2], []), (10, [15, 14, 1], []), (8, [13], [0]), (10, [13, 11, 1], []), (9, [11, 0], [42]), (7, [1, 3], [1]), (8, [5], [1]), (8, [12], [0]), (10, [12, 11, 2], []), (7, [2, 4], [1]), (8, [5], [1]), (20, [0, 3, 4, 5], [60, 3, 6, 124, 31, 32, 49, 33, 34, 43, 44, 42, 48]), (20, [0, 3, 4, 5, 6, 7, 8, 9], [60, 1, 6, 125, 49, 33, 34, 43, 44, 42, 48]), (20, [0, 7, 10], [60, 1, 1, 128, 31, 48]), (20, [0, 1, 2], [60, 2, 4, 121, 32, 49, 33, 34, 43, 44]), (20, [1, 0], [30, -1, 1, 0, 0, -1, 1, 31]), (20, [2, 0], [30, -1, 1, 0, 0, -1, 1, 31])], [(19, (0, 0, 1000000, []))], [], [], [], [(15, 18, 1, 4294967296), (18, 16, 1, 1)])
theorem oo_Mo_closer_20 {kA : Nat → ClassId} : or_ok PRD kA GG o_Mo_closer_20 := by
  refine or_mk fun A ta ws vs hD hth hl => ?_
  intro t0 r0 t1 k1 t2 k2 t3 k3 t4 k4 t5 k5 t6 k6 t7 k7 t8 k8 t9 k9 t10 k10 t11 r11 t12 k12 t13 k13 t14 r14 t15 k15 t16 k16 t17 k17 t18 k18 t19 k19 d0 d1 f0 f1 f2 f3 f4 f5 f6 f7 f8 f9 f10 f11 f12 f13 f14 f15 f16 f17 f18 f19 f20
  replace f0 := shm_107 f0
  replace f1 := shm_548 f1
  replace f2 := shm_21 f2
  replace f3 := shm_12 f3
  replace f4 := shm_107 f4
  replace f5 := shm_107 f5
  replace f6 := shm_192 f6
  replace f7 := shm_107 f7
  replace f8 := shm_531 f8
  replace f9 := shm_40 f9
  replace f10 := shm_142 f10
  replace f11 := shm_192 f11
  replace f12 := shm_107 f12
  replace f13 := shm_40 f13
  replace f14 := shm_142 f14
  replace f15 := shm_549 f15
  replace f16 := shm_550 f16
  replace f17 := shm_551 f17
  replace f18 := shm_552 f18
  replace f19 := shm_553 f19
  replace f20 := shm_553 f20
  have cr_0_33 := fdq_117 hD hth r0
  have cr_0_34 := fdq_118 hD hth r0
  have cr_0_42 := fdq_136 hD hth r0
  have cr_0_43 := fdq_137 hD hth r0
  have cr_0_44 := fdq_138 hD hth r0
  have cr_0_48 := fdq_144 hD hth r0
  have ad_14 : v_ad (n_v vs 14) = w_ar ws (n_v vs 0) 48 := congrArg v_ad f1
  have ad_11 : v_ad (n_v vs 11) = w_ar ws (n_v vs 0) 42 := congrArg v_ad f8
  simp only [ad_14] at f0
  have h0 : v_iv (n_v vs 19) = w_ei ws (w_ar ws (n_v vs 0) 48) (v_iv (n_v vs 2)) := f0
  simp only [ad_14] at f4
  have h4 : v_iv (n_v vs 16) = w_ei ws (w_ar ws (n_v vs 0) 48) (v_iv (n_v vs 2)) := f4
  simp only [ad_14] at f5
  have h5 : v_iv (n_v vs 15) = w_ei ws (w_ar ws (n_v vs 0) 48) (v_iv (n_v vs 1)) := f5
  simp only [ad_11] at f7
  have h7 : v_iv (n_v vs 13) = w_ei ws (w_ar ws (n_v vs 0) 42) (v_iv (n_v vs 1)) := f7
  simp only [ad_11] at f12
  have h12 : v_iv (n_v vs 12) = w_ei ws (w_ar ws (n_v vs 0) 42) (v_iv (n_v vs 2)) := f12
  have br_0_42_1_0 : w_ei ws (w_ar ws (n_v vs 0) 42) (v_iv (n_v vs 1)) = w_el ws (w_ar ws (n_v vs 0) 42) (v_iv (n_v vs 1)).toNat := rfl
  have br_0_42_2_0 : w_ei ws (w_ar ws (n_v vs 0) 42) (v_iv (n_v vs 2)) = w_el ws (w_ar ws (n_v vs 0) 42) (v_iv (n_v vs 2)).toNat := rfl
  have br_0_48_1_0 : w_ei ws (w_ar ws (n_v vs 0) 48) (v_iv (n_v vs 1)) = w_el ws (w_ar ws (n_v vs 0) 48) (v_iv (n_v vs 1)).toNat := rfl
  have br_0_48_2_0 : w_ei ws (w_ar ws (n_v vs 0) 48) (v_iv (n_v vs 2)) = w_el ws (w_ar ws (n_v vs 0) 48) (v_iv (n_v vs 2)).toNat := rfl
  have hK_0_33 := elq_60 hD hth cr_0_33
  have hK_0_34 := elq_61 hD hth cr_0_34
  have hK_0_42 := elq_75 hD hth cr_0_42
  have hK_0_43 := elq_76 hD hth cr_0_43
  have hK_0_44 := elq_77 hD hth cr_0_44
  have hK_0_48 := elq_82 hD hth cr_0_48
  have kz_0_31 := fdq_145 hD hth r0
  have kz_0_32 := fdq_140 hD hth r0
  have kz_0_49 := fdq_146 hD hth r0
  first | have hR := tgi_rng (i := v_iv (n_v vs 2)) ‹TGI _ _ _ _ _ _ _ _ _ _ _ _› (by omega) (by omega) | skip
  have rf19 : tv_ok ta (0, 0, 1000000, []) (n_v vs 19) := tv_in t19 (by first | omega | grind) (by first | omega | grind)
  refine ⟨List.forall_mem_cons.mpr ⟨rf19, (fun _ h => (by cases h))⟩, [], trivial, ?_, (fun _ h => (by cases h))⟩
  rw [List.append_nil]
  exact (fun _ h => (by cases h))
set_option maxHeartbeats 4000000 in
theorem vc_Mo_closer_21_0 (x1 : Int) (x2 : Int) (x3 : Int) (x4 : Int) (x5 : Int) (x6 : Int) (x7 : Int) (x8 : Int) (x9 : Int) (x10 : Int) (x12 : Int) (x13 : Int) (x15 : Int) (x16 : Int) (x17 : Int) (x18 : Int) (x19 : Int) (x20 : Int) (x21 : Int) (x22 : Int) (pt_0 : Int → Int) (ph_0 : Int → Int) (drawnEdge_0 : Int → Int) (pieceOf_0 : Int → Int) (pm_0 : Int) (onlyPiece_0 : Int) (pn_0 : Int) (toGoal_1 : Int → Int) (drawnNode_1 : Int → Int) (pt_1 : Int → Int) (ph_1 : Int → Int) (drawnEdge_1 : Int → Int) (pieceOf_1 : Int → Int) (pn_1 : Int) (pm_1 : Int) (onlyPiece_1 : Int) (drawnNode_0 : Int → Int) (toGoal_0 : Int → Int) (k1 : 0 ≤ x1 ∧ x1 ≤ 24) (k2 : 0 ≤ x2 ∧ x2 ≤ 24) (k3 : 0 ≤ x3 ∧ x3 ≤ 24) (k4 : 0 ≤ x4 ∧ x4 ≤ 24) (k5 : 1 ≤ x5 ∧ x5 ≤ 1) (k6 : 0 ≤ x6 ∧ x6 ≤ 80) (k7 : 0 ≤ x7 ∧ x7 ≤ 1) (k8 : 0 ≤ x8 ∧ x8 ≤ 24) (k9 : 0 ≤ x9 ∧ x9 ≤ 24) (k10 : (-2) ≤ x10 ∧ x10 ≤ 26000060) (k12 : 0 ≤ x12 ∧ x12 ≤ 0) (k13 : 0 ≤ x13 ∧ x13 ≤ 0) (k15 : 2 ≤ x15 ∧ x15 ≤ 1000001) (k16 : 0 ≤ x16 ∧ x16 ≤ 999999) (k17 : 1 ≤ x17 ∧ x17 ≤ 1) (k18 : 1 ≤ x18 ∧ x18 ≤ 1000000) (k19 : 0 ≤ x19 ∧ x19 ≤ 1000000) (k20 : 1 ≤ x20 ∧ x20 ≤ 1) (k21 : 1 ≤ x21 ∧ x21 ≤ 1000001) (k22 : 1 ≤ x22 ∧ x22 ≤ 1) (d0 : x19 + 1 ≤ x21 ∧ x21 ≤ x19 + 1) (d1 : x18 + 1 ≤ x15 ∧ x15 ≤ x18 + 4294967296) (d2 : x16 + 1 ≤ x18 ∧ x18 ≤ x16 + 1) (f0 : ARC (pm_0) (onlyPiece_0) (pt_0) (ph_0) (drawnEdge_0) (pieceOf_0) (x1) (x2)) (f1 : 1 * x1 + ((-1) * pn_0 + 0) ≤ (-1)) (f2 : 1 * x2 + ((-1) * pn_0 + 0) ≤ (-1)) (f4 : x21 = x19 + x20) (h5 : x19 = toGoal_1 (x2)) (f7 : x18 < x15) (f8 : x18 = x16 + x17) (h9 : x16 = toGoal_1 (x2)) (h10 : x15 = toGoal_1 (x1)) (f11 : x13 = 0) (h12 : x13 = drawnNode_1 (x1)) (f14 : x1 ≠ x3) (f15 : x5 ≠ 0) (f16 : x12 = 0) (h17 : x12 = drawnNode_1 (x2)) (f18 : x2 ≠ x4) (f19 : x5 ≠ 0) (f20 : TGI (pn_1) (pm_1) (onlyPiece_1) (pt_1) (ph_1) (drawnEdge_1) (pieceOf_1) (drawnNode_1) (toGoal_1) (x3) (x4) (x5)) (f21 : TG3 (onlyPiece_1) (pt_1) (ph_1) (drawnEdge_1) (pieceOf_1) (drawnNode_1) (toGoal_1) (x3) (x4) (x5) (x6) (x7) (x8) (x9)) (f22 : SMN (pn_1) (toGoal_1) (x7) (x10)) (f23 : ARC (pm_1) (onlyPiece_1) (pt_1) (ph_1) (drawnEdge_1) (pieceOf_1) (x1) (x2)) (f24 : 1 * x1 + ((-1) * pn_1 + 0) ≤ (-1)) (f25 : 1 * x2 + ((-1) * pn_1 + 0) ≤ (-1)) (fe_0_31_1 : pn_0 = pn_1) (fe_0_32_1 : pm_0 = pm_1) (fe_0_49_1 : onlyPiece_0 = onlyPiece_1) (hE_0_33_1 : ∀ j : Int, pt_0 j = pt_1 j) (hK_0_33 : ∀ j : Int, 0 ≤ j → j < 80 → 0 ≤ pt_0 j ∧ pt_0 j ≤ 24) (hE_0_34_1 : ∀ j : Int, ph_0 j = ph_1 j) (hK_0_34 : ∀ j : Int, 0 ≤ j → j < 80 → 0 ≤ ph_0 j ∧ ph_0 j ≤ 24) (hE_0_42_1 : ∀ j : Int, drawnNode_0 j = drawnNode_1 j) (hK_0_42 : ∀ j : Int, 0 ≤ j → j < 26 → 0 ≤ drawnNode_0 j ∧ drawnNode_0 j ≤ 1) (hE_0_43_1 : ∀ j : Int, drawnEdge_0 j = drawnEdge_1 j) (hK_0_43 : ∀ j : Int, 0 ≤ j → j < 80 → 0 ≤ drawnEdge_0 j ∧ drawnEdge_0 j ≤ 1) (hE_0_44_1 : ∀ j : Int, pieceOf_0 j = pieceOf_1 j) (hK_0_44 : ∀ j : Int, 0 ≤ j → j < 80 → (-1) ≤ pieceOf_0 j ∧ pieceOf_0 j ≤ 79) (hE_0_48_1 : ∀ j : Int, 0 ≤ j → (j = x1 → toGoal_0 j = x21) ∧ (j ≠ x1 → toGoal_0 j = toGoal_1 j)) (hK_0_48 : ∀ j : Int, 0 ≤ j → j < 26 → 0 ≤ toGoal_0 j ∧ toGoal_0 j ≤ 1000001) (kz_0_31 : 0 ≤ pn_0 ∧ pn_0 ≤ 25) (kz_0_32 : 0 ≤ pm_0 ∧ pm_0 ≤ 80) (kz_0_49 : (-1) ≤ onlyPiece_0 ∧ onlyPiece_0 ≤ 79) : TGI (pn_0) (pm_0) (onlyPiece_0) (pt_0) (ph_0) (drawnEdge_0) (pieceOf_0) (drawnNode_0) (toGoal_0) (x3) (x4) (x5) := by
  subst fe_0_31_1
  subst fe_0_32_1
  subst fe_0_49_1
  have e_hE_0_33_1 := funext hE_0_33_1; subst e_hE_0_33_1
  have e_hE_0_34_1 := funext hE_0_34_1; subst e_hE_0_34_1
  have e_hE_0_42_1 := funext hE_0_42_1; subst e_hE_0_42_1
  have e_hE_0_43_1 := funext hE_0_43_1; subst e_hE_0_43_1
  have e_hE_0_44_1 := funext hE_0_44_1; subst e_hE_0_44_1
  first
    | assumption
    | (refine tg_lower (i := x1) (j := x2) ‹TGI _ _ _ _ _ _ _ _ toGoal_1 _ _ _› (by omega) (by omega) (by omega) (by omega) ‹ARC _ _ _ _ _ _ x1 x2› ?_ ?_ (fun y a b => (hE_0_48_1 y a).2 b) ?_ (by omega)
       · exact ⟨by first | exact Or.inl (by omega) | exact Or.inr (Or.inl (by omega)) | exact Or.inr (Or.inr (by omega)), by first | exact Or.inl (by omega) | exact Or.inr (Or.inl (by omega)) | exact Or.inr (Or.inr (by omega))⟩
       · omega
       · rw [(hE_0_48_1 x1 (by omega)).1 rfl]; omega)
set_option maxHeartbeats 4000000 in
theorem vc_Mo_closer_21_1 (x1 : Int) (x2 : Int) (x3 : Int) (x4 : Int) (x5 : Int) (x6 : Int) (x7 : Int) (x8 : Int) (x9 : Int) (x10 : Int) (x12 : Int) (x13 : Int) (x15 : Int) (x16 : Int) (x17 : Int) (x18 : Int) (x19 : Int) (x20 : Int) (x21 : Int) (x22 : Int) (pt_0 : Int → Int) (ph_0 : Int → Int) (drawnEdge_0 : Int → Int) (pieceOf_0 : Int → Int) (pm_0 : Int) (onlyPiece_0 : Int) (pn_0 : Int) (toGoal_1 : Int → Int) (drawnNode_1 : Int → Int) (pt_1 : Int → Int) (ph_1 : Int → Int) (drawnEdge_1 : Int → Int) (pieceOf_1 : Int → Int) (pn_1 : Int) (pm_1 : Int) (onlyPiece_1 : Int) (drawnNode_0 : Int → Int) (toGoal_0 : Int → Int) (k1 : 0 ≤ x1 ∧ x1 ≤ 24) (k2 : 0 ≤ x2 ∧ x2 ≤ 24) (k3 : 0 ≤ x3 ∧ x3 ≤ 24) (k4 : 0 ≤ x4 ∧ x4 ≤ 24) (k5 : 1 ≤ x5 ∧ x5 ≤ 1) (k6 : 0 ≤ x6 ∧ x6 ≤ 80) (k7 : 0 ≤ x7 ∧ x7 ≤ 1) (k8 : 0 ≤ x8 ∧ x8 ≤ 24) (k9 : 0 ≤ x9 ∧ x9 ≤ 24) (k10 : (-2) ≤ x10 ∧ x10 ≤ 26000060) (k12 : 0 ≤ x12 ∧ x12 ≤ 0) (k13 : 0 ≤ x13 ∧ x13 ≤ 0) (k15 : 2 ≤ x15 ∧ x15 ≤ 1000001) (k16 : 0 ≤ x16 ∧ x16 ≤ 999999) (k17 : 1 ≤ x17 ∧ x17 ≤ 1) (k18 : 1 ≤ x18 ∧ x18 ≤ 1000000) (k19 : 0 ≤ x19 ∧ x19 ≤ 1000000) (k20 : 1 ≤ x20 ∧ x20 ≤ 1) (k21 : 1 ≤ x21 ∧ x21 ≤ 1000001) (k22 : 1 ≤ x22 ∧ x22 ≤ 1) (d0 : x19 + 1 ≤ x21 ∧ x21 ≤ x19 + 1) (d1 : x18 + 1 ≤ x15 ∧ x15 ≤ x18 + 4294967296) (d2 : x16 + 1 ≤ x18 ∧ x18 ≤ x16 + 1) (f0 : ARC (pm_0) (onlyPiece_0) (pt_0) (ph_0) (drawnEdge_0) (pieceOf_0) (x1) (x2)) (f1 : 1 * x1 + ((-1) * pn_0 + 0) ≤ (-1)) (f2 : 1 * x2 + ((-1) * pn_0 + 0) ≤ (-1)) (f4 : x21 = x19 + x20) (h5 : x19 = toGoal_1 (x2)) (f7 : x18 < x15) (f8 : x18 = x16 + x17) (h9 : x16 = toGoal_1 (x2)) (h10 : x15 = toGoal_1 (x1)) (f11 : x13 = 0) (h12 : x13 = drawnNode_1 (x1)) (f14 : x1 ≠ x3) (f15 : x5 ≠ 0) (f16 : x12 = 0) (h17 : x12 = drawnNode_1 (x2)) (f18 : x2 ≠ x4) (f19 : x5 ≠ 0) (f20 : TGI (pn_1) (pm_1) (onlyPiece_1) (pt_1) (ph_1) (drawnEdge_1) (pieceOf_1) (drawnNode_1) (toGoal_1) (x3) (x4) (x5)) (f21 : TG3 (onlyPiece_1) (pt_1) (ph_1) (drawnEdge_1) (pieceOf_1) (drawnNode_1) (toGoal_1) (x3) (x4) (x5) (x6) (x7) (x8) (x9)) (f22 : SMN (pn_1) (toGoal_1) (x7) (x10)) (f23 : ARC (pm_1) (onlyPiece_1) (pt_1) (ph_1) (drawnEdge_1) (pieceOf_1) (x1) (x2)) (f24 : 1 * x1 + ((-1) * pn_1 + 0) ≤ (-1)) (f25 : 1 * x2 + ((-1) * pn_1 + 0) ≤ (-1)) (fe_0_31_1 : pn_0 = pn_1) (fe_0_32_1 : pm_0 = pm_1) (fe_0_49_1 : onlyPiece_0 = onlyPiece_1) (hE_0_33_1 : ∀ j : Int, pt_0 j = pt_1 j) (hK_0_33 : ∀ j : Int, 0 ≤ j → j < 80 → 0 ≤ pt_0 j ∧ pt_0 j ≤ 24) (hE_0_34_1 : ∀ j : Int, ph_0 j = ph_1 j) (hK_0_34 : ∀ j : Int, 0 ≤ j → j < 80 → 0 ≤ ph_0 j ∧ ph_0 j ≤ 24) (hE_0_42_1 : ∀ j : Int, drawnNode_0 j = drawnNode_1 j) (hK_0_42 : ∀ j : Int, 0 ≤ j → j < 26 → 0 ≤ drawnNode_0 j ∧ drawnNode_0 j ≤ 1) (hE_0_43_1 : ∀ j : Int, drawnEdge_0 j = drawnEdge_1 j) (hK_0_43 : ∀ j : Int, 0 ≤ j → j < 80 → 0 ≤ drawnEdge_0 j ∧ drawnEdge_0 j ≤ 1) (hE_0_44_1 : ∀ j : Int, pieceOf_0 j = pieceOf_1 j) (hK_0_44 : ∀ j : Int, 0 ≤ j → j < 80 → (-1) ≤ pieceOf_0 j ∧ pieceOf_0 j ≤ 79) (hE_0_48_1 : ∀ j : Int, 0 ≤ j → (j = x1 → toGoal_0 j = x21) ∧ (j ≠ x1 → toGoal_0 j = toGoal_1 j)) (hK_0_48 : ∀ j : Int, 0 ≤ j → j < 26 → 0 ≤ toGoal_0 j ∧ toGoal_0 j ≤ 1000001) (kz_0_31 : 0 ≤ pn_0 ∧ pn_0 ≤ 25) (kz_0_32 : 0 ≤ pm_0 ∧ pm_0 ≤ 80) (kz_0_49 : (-1) ≤ onlyPiece_0 ∧ onlyPiece_0 ≤ 79) : CLO (pn_0) (onlyPiece_0) (pt_0) (ph_0) (drawnEdge_0) (pieceOf_0) (drawnNode_0) (toGoal_0) (x1) (x2) (x3) (x4) (x5) (x6) (x7) (x8) (x9) (x10) (x22) := by
  subst fe_0_31_1
  subst fe_0_32_1
  subst fe_0_49_1
  have e_hE_0_33_1 := funext hE_0_33_1; subst e_hE_0_33_1
  have e_hE_0_34_1 := funext hE_0_34_1; subst e_hE_0_34_1
  have e_hE_0_42_1 := funext hE_0_42_1; subst e_hE_0_42_1
  have e_hE_0_43_1 := funext hE_0_43_1; subst e_hE_0_43_1
  have e_hE_0_44_1 := funext hE_0_44_1; subst e_hE_0_44_1
  first
    | (refine ⟨fun _ => ⟨‹TG3 _ _ _ _ _ _ _ _ _ _ _ _ _ _›, fun hc => ?_, ‹SMN _ _ _ _›⟩, fun h => absurd (by omega) h⟩
       first
         | omega
         | (exfalso; unfold cnd at hc; omega))
    | (refine ⟨fun h => absurd h (by omega), fun _ => ?_⟩
       have hS := ‹SMN _ _ _ _›
       unfold SMN at hS
       have v1 := (hE_0_48_1 x1 (by omega)).1 rfl
       have := smlt (n := pn_0) (f := toGoal_0) (g := toGoal_1) (i := x1) (by omega) (by omega) (fun j a b => by
         by_cases q : j = x1
         · rw [q]; omega
         · rw [(hE_0_48_1 j a).2 q]; exact Int.le_refl _) (by omega)
       omega)
def o_Mo_closer_21 : or_T := (73, 23, [(0, (2, 0, 0, [165])), (1, (0, 0, 24, [])), (2, (0, 0, 24, [])), (3, (0, 0, 24, [])), (4, (0, 0, 24, [])), (5, (0, 1, 1, [])), (6, (0, 0, 80, [])), (7, (0, 0, 1, [])), (8, (0, 0, 24, [])), (9, (0, 0, 24, [])), (10, (0, -2, 26000060, [])), (12, (0, 0, 0, [])), (13, (0, 0, 0, [])), (14, (2, 0, 0, [192])), (15, (0, 2, 1000001, [])), (16, (0, 0, 999999, [])), (17, (0, 1, 1, [])), (18, (0, 1, 1000000, [])), (19, (0, 0, 1000000, [])), (20, (0, 1, 1, [])), (21, (0, 1, 1000001, [])), (22, (0, 1, 1, []))], [(20, [0, 1, 2], [60, 2, 4, 121, 32, 49, 33, 34, 43, 44]), (20, [1, 0], [30, -1, 1, 0, 0, -1, 1, 31]), (20, [2, 0], [30, -1, 1, 0, 0, -1, 1, 31]), (100, [14, 1, 21], []), (1, [21, 19, 20], []), (10, [19, 14, 2], []), (9, [14, 0], [48]), (7, [15, 18], [4]), (1, [18, 16, 17], []), (10, [16, 14, 2], []), (10, [15, 14, 1], []), (8, [13], [0]), (10, [13, 11, 1], []), (9, [11, 0], [42]), (7, [1, 3], [1]), (8, [5], [1]), (8, [12], [0]), (10, [12, 11, 2], []), (7, [2, 4], [1]), (8, [5], [1]), (20, [0, 3, 4, 5], [60, 3, 6, 124, 31, 32, 49, 33, 34, 43, 44, 42, 48]), (20, [0, 3, 4, 5, 6, 7, 8, 9], [60, 1, 6, 125, 49, 33, 34, 43, 44, 42, 48]), (20, [0, 7, 10], [60, 1, 1, 128, 31, 48]), (20, [0, 1, 2], [60, 2, 4, 121, 32, 49, 33, 34, 43, 44]), (20, [1, 0], [30, -1, 1, 0, 0, -1, 1, 31]), (20, [2, 0], [30, -1, 1, 0, 0, -1, 1, 31])], [], [], [(20, [0, 3, 4, 5], [60, 3, 6, 124, 31, 32, 49, 33, 34, 43, 44, 42, 48]), (20, [0, 1, 2, 3, 4, 5, 6, 7, 8, 9, 10, 22], [60, 2, 6, 129, 31, 49, 33, 34, 43, 44, 42, 48])], [], [(21, 19, 1, 1), (15, 18, 1, 4294967296), (18, 16, 1, 1)])
theorem oo_Mo_closer_21 {kA : Nat → ClassId} : or_ok PRD kA GG o_Mo_closer_21 := by
  refine or_mk fun A ta ws vs hD hth hl => ?_
  intro t0 r0 t1 k1 t2 k2 t3 k3 t4 k4 t5 k5 t6 k6 t7 k7 t8 k8 t9 k9 t10 k10 t12 k12 t13 k13 t14 r14 t15 k15 t16 k16 t17 k17 t18 k18 t19 k19 t20 k20 t21 k21 t22 k22 d0 d1 d2 f0 f1 f2 ta1 w1 le1 s1 f4 f5 f6 f7 f8 f9 f10 f11 f12 f13 f14 f15 f16 f17 f18 f19 f20 f21 f22 f23 f24 f25
  have s1 : (∀ b j, w_el ws b j = if b = v_ad (n_v vs 14) ∧ j = (v_iv (n_v vs 1)).toNat then v_iv (n_v vs 21) else w_el w1 b j) ∧ ∀ b k, w_fd ws b k = w_fd w1 b k := s1.2
  replace f5 := shm_107 f5
  replace f6 := shm_548 f6
  replace f9 := shm_107 f9
  replace f10 := shm_107 f10
  replace f12 := shm_107 f12
  replace f13 := shm_531 f13
  replace f17 := shm_107 f17
  replace f20 := shm_549 f20
  replace f21 := shm_550 f21
  replace f22 := shm_551 f22
  replace f23 := shm_552 f23
  have ar_0_33_1 : w_ar w1 (n_v vs 0) 33 = w_ar ws (n_v vs 0) 33 := congrArg v_ad (s1.2 _ _).symm
  have cr_0_33 := fdq_117 hD hth r0
  have ar_0_34_1 : w_ar w1 (n_v vs 0) 34 = w_ar ws (n_v vs 0) 34 := congrArg v_ad (s1.2 _ _).symm
  have cr_0_34 := fdq_118 hD hth r0
  have ar_0_42_1 : w_ar w1 (n_v vs 0) 42 = w_ar ws (n_v vs 0) 42 := congrArg v_ad (s1.2 _ _).symm
  have cr_0_42 := fdq_136 hD hth r0
  have ar_0_43_1 : w_ar w1 (n_v vs 0) 43 = w_ar ws (n_v vs 0) 43 := congrArg v_ad (s1.2 _ _).symm
  have cr_0_43 := fdq_137 hD hth r0
  have ar_0_44_1 : w_ar w1 (n_v vs 0) 44 = w_ar ws (n_v vs 0) 44 := congrArg v_ad (s1.2 _ _).symm
  have cr_0_44 := fdq_138 hD hth r0
  have ar_0_48_1 : w_ar w1 (n_v vs 0) 48 = w_ar ws (n_v vs 0) 48 := congrArg v_ad (s1.2 _ _).symm
  have cr_0_48 := fdq_144 hD hth r0
  have ad_14 : v_ad (n_v vs 14) = w_ar ws (n_v vs 0) 48 := (congrArg v_ad f6).trans ar_0_48_1
  have ad_11 : v_ad (n_v vs 11) = w_ar ws (n_v vs 0) 42 := (congrArg v_ad f13).trans ar_0_42_1
  simp only [ad_14] at f5
  have h5 : v_iv (n_v vs 19) = w_ei w1 (w_ar ws (n_v vs 0) 48) (v_iv (n_v vs 2)) := f5
  simp only [ad_14] at f9
  have h9 : v_iv (n_v vs 16) = w_ei w1 (w_ar ws (n_v vs 0) 48) (v_iv (n_v vs 2)) := f9
  simp only [ad_14] at f10
  have h10 : v_iv (n_v vs 15) = w_ei w1 (w_ar ws (n_v vs 0) 48) (v_iv (n_v vs 1)) := f10
  simp only [ad_11] at f12
  have h12 : v_iv (n_v vs 13) = w_ei w1 (w_ar ws (n_v vs 0) 42) (v_iv (n_v vs 1)) := f12
  simp only [ad_11] at f17
  have h17 : v_iv (n_v vs 12) = w_ei w1 (w_ar ws (n_v vs 0) 42) (v_iv (n_v vs 2)) := f17
  simp only [ar_0_33_1, ar_0_34_1, ar_0_42_1, ar_0_43_1, ar_0_44_1, ar_0_48_1] at f20 f21 f22 f23
  have fe_0_31_1 : w_fi ws (n_v vs 0) 31 = w_fi w1 (n_v vs 0) 31 := congrArg v_iv (s1.2 _ _)
  have fe_0_32_1 : w_fi ws (n_v vs 0) 32 = w_fi w1 (n_v vs 0) 32 := congrArg v_iv (s1.2 _ _)
  have fe_0_49_1 : w_fi ws (n_v vs 0) 49 = w_fi w1 (n_v vs 0) 49 := congrArg v_iv (s1.2 _ _)
  have hE_0_33_1 : ∀ j : Int, w_ei ws (w_ar ws (n_v vs 0) 33) j = w_ei w1 (w_ar ws (n_v vs 0) 33) j := el_kp s1.1 r14 cr_0_33 (by decide)
  have hK_0_33 := elq_60 hD hth cr_0_33
  have hE_0_34_1 : ∀ j : Int, w_ei ws (w_ar ws (n_v vs 0) 34) j = w_ei w1 (w_ar ws (n_v vs 0) 34) j := el_kp s1.1 r14 cr_0_34 (by decide)
  have hK_0_34 := elq_61 hD hth cr_0_34
  have hE_0_42_1 : ∀ j : Int, w_ei ws (w_ar ws (n_v vs 0) 42) j = w_ei w1 (w_ar ws (n_v vs 0) 42) j := el_kp s1.1 r14 cr_0_42 (by decide)
  have hK_0_42 := elq_75 hD hth cr_0_42
  have hE_0_43_1 : ∀ j : Int, w_ei ws (w_ar ws (n_v vs 0) 43) j = w_ei w1 (w_ar ws (n_v vs 0) 43) j := el_kp s1.1 r14 cr_0_43 (by decide)
  have hK_0_43 := elq_76 hD hth cr_0_43
  have hE_0_44_1 : ∀ j : Int, w_ei ws (w_ar ws (n_v vs 0) 44) j = w_ei w1 (w_ar ws (n_v vs 0) 44) j := el_kp s1.1 r14 cr_0_44 (by decide)
  have hK_0_44 := elq_77 hD hth cr_0_44
  have hE_0_48_1 : ∀ j : Int, 0 ≤ j → (j = v_iv (n_v vs 1) → w_ei ws (w_ar ws (n_v vs 0) 48) j = v_iv (n_v vs 21)) ∧ (j ≠ v_iv (n_v vs 1) → w_ei ws (w_ar ws (n_v vs 0) 48) j = w_ei w1 (w_ar ws (n_v vs 0) 48) j) := fun j hj => ⟨fun h => by unfold w_ei; rw [s1.1, if_pos ⟨ad_14.symm, by rw [h]⟩], fun h => by unfold w_ei; rw [s1.1, if_neg (fun e => h (by have := e.2; omega))]⟩
  have hK_0_48 := elq_82 hD hth cr_0_48
  have kz_0_31 := fdq_145 hD hth r0
  have kz_0_32 := fdq_140 hD hth r0
  have kz_0_49 := fdq_146 hD hth r0
  have nf0 : fc_1 PRD (20, [0, 3, 4, 5], [60, 3, 6, 124, 31, 32, 49, 33, 34, 43, 44, 42, 48]) ws (vs) := ⟨nf_in hl rfl, sgq_549 (vc_Mo_closer_21_0 (v_iv (n_v vs 1)) (v_iv (n_v vs 2)) (v_iv (n_v vs 3)) (v_iv (n_v vs 4)) (v_iv (n_v vs 5)) (v_iv (n_v vs 6)) (v_iv (n_v vs 7)) (v_iv (n_v vs 8)) (v_iv (n_v vs 9)) (v_iv (n_v vs 10)) (v_iv (n_v vs 12)) (v_iv (n_v vs 13)) (v_iv (n_v vs 15)) (v_iv (n_v vs 16)) (v_iv (n_v vs 17)) (v_iv (n_v vs 18)) (v_iv (n_v vs 19)) (v_iv (n_v vs 20)) (v_iv (n_v vs 21)) (v_iv (n_v vs 22)) (w_ei ws (w_ar ws (n_v vs 0) 33)) (w_ei ws (w_ar ws (n_v vs 0) 34)) (w_ei ws (w_ar ws (n_v vs 0) 43)) (w_ei ws (w_ar ws (n_v vs 0) 44)) (w_fi ws (n_v vs 0) 32) (w_fi ws (n_v vs 0) 49) (w_fi ws (n_v vs 0) 31) (w_ei w1 (w_ar ws (n_v vs 0) 48)) (w_ei w1 (w_ar ws (n_v vs 0) 42)) (w_ei w1 (w_ar ws (n_v vs 0) 33)) (w_ei w1 (w_ar ws (n_v vs 0) 34)) (w_ei w1 (w_ar ws (n_v vs 0) 43)) (w_ei w1 (w_ar ws (n_v vs 0) 44)) (w_fi w1 (n_v vs 0) 31) (w_fi w1 (n_v vs 0) 32) (w_fi w1 (n_v vs 0) 49) (w_ei ws (w_ar ws (n_v vs 0) 42)) (w_ei ws (w_ar ws (n_v vs 0) 48)) k1 k2 k3 k4 k5 k6 k7 k8 k9 k10 k12 k13 k15 k16 k17 k18 k19 k20 k21 k22 d0 d1 d2 (shm_552 f0) (shm_553 f1) (shm_553 f2) (shm_12 f4) h5 (shm_21 f7) (shm_12 f8) h9 h10 (shm_192 f11) h12 (shm_40 f14) (shm_142 f15) (shm_192 f16) h17 (shm_40 f18) (shm_142 f19) f20 f21 f22 f23 (shm_553 f24) (shm_553 f25) fe_0_31_1 fe_0_32_1 fe_0_49_1 hE_0_33_1 hK_0_33 hE_0_34_1 hK_0_34 hE_0_42_1 hK_0_42 hE_0_43_1 hK_0_43 hE_0_44_1 hK_0_44 hE_0_48_1 hK_0_48 kz_0_31 kz_0_32 kz_0_49)⟩
  have nf1 : fc_1 PRD (20, [0, 1, 2, 3, 4, 5, 6, 7, 8, 9, 10, 22], [60, 2, 6, 129, 31, 49, 33, 34, 43, 44, 42, 48]) ws (vs) := ⟨nf_in hl rfl, sgq_554 (vc_Mo_closer_21_1 (v_iv (n_v vs 1)) (v_iv (n_v vs 2)) (v_iv (n_v vs 3)) (v_iv (n_v vs 4)) (v_iv (n_v vs 5)) (v_iv (n_v vs 6)) (v_iv (n_v vs 7)) (v_iv (n_v vs 8)) (v_iv (n_v vs 9)) (v_iv (n_v vs 10)) (v_iv (n_v vs 12)) (v_iv (n_v vs 13)) (v_iv (n_v vs 15)) (v_iv (n_v vs 16)) (v_iv (n_v vs 17)) (v_iv (n_v vs 18)) (v_iv (n_v vs 19)) (v_iv (n_v vs 20)) (v_iv (n_v vs 21)) (v_iv (n_v vs 22)) (w_ei ws (w_ar ws (n_v vs 0) 33)) (w_ei ws (w_ar ws (n_v vs 0) 34)) (w_ei ws (w_ar ws (n_v vs 0) 43)) (w_ei ws (w_ar ws (n_v vs 0) 44)) (w_fi ws (n_v vs 0) 32) (w_fi ws (n_v vs 0) 49) (w_fi ws (n_v vs 0) 31) (w_ei w1 (w_ar ws (n_v vs 0) 48)) (w_ei w1 (w_ar ws (n_v vs 0) 42)) (w_ei w1 (w_ar ws (n_v vs 0) 33)) (w_ei w1 (w_ar ws (n_v vs 0) 34)) (w_ei w1 (w_ar ws (n_v vs 0) 43)) (w_ei w1 (w_ar ws (n_v vs 0) 44)) (w_fi w1 (n_v vs 0) 31) (w_fi w1 (n_v vs 0) 32) (w_fi w1 (n_v vs 0) 49) (w_ei ws (w_ar ws (n_v vs 0) 42)) (w_ei ws (w_ar ws (n_v vs 0) 48)) k1 k2 k3 k4 k5 k6 k7 k8 k9 k10 k12 k13 k15 k16 k17 k18 k19 k20 k21 k22 d0 d1 d2 (shm_552 f0) (shm_553 f1) (shm_553 f2) (shm_12 f4) h5 (shm_21 f7) (shm_12 f8) h9 h10 (shm_192 f11) h12 (shm_40 f14) (shm_142 f15) (shm_192 f16) h17 (shm_40 f18) (shm_142 f19) f20 f21 f22 f23 (shm_553 f24) (shm_553 f25) fe_0_31_1 fe_0_32_1 fe_0_49_1 hE_0_33_1 hK_0_33 hE_0_34_1 hK_0_34 hE_0_42_1 hK_0_42 hE_0_43_1 hK_0_43 hE_0_44_1 hK_0_44 hE_0_48_1 hK_0_48 kz_0_31 kz_0_32 kz_0_49)⟩
  refine ⟨(fun _ h => (by cases h)), [], trivial, ?_, (fun _ h => (by cases h))⟩
  rw [List.append_nil]
  exact List.forall_mem_cons.mpr ⟨⟨show (20 : Nat) < 100 from by decide, nf0⟩, List.forall_mem_cons.mpr ⟨⟨show (20 : Nat) < 100 from by decide, nf1⟩, (fun _ h => (by cases h))⟩⟩
set_option maxHeartbeats 4000000 in
theorem vc_Mo_closer_22_0 (x1 : Int) (x2 : Int) (x3 : Int) (x4 : Int) (x5 : Int) (x6 : Int) (x7 : Int) (x8 : Int) (x9 : Int) (x10 : Int) (x12 : Int) (x13 : Int) (x15 : Int) (x16 : Int) (x17 : Int) (x18 : Int) (x19 : Int) (toGoal_0 : Int → Int) (drawnNode_0 : Int → Int) (pt_0 : Int → Int) (ph_0 : Int → Int) (drawnEdge_0 : Int → Int) (pieceOf_0 : Int → Int) (pn_0 : Int) (pm_0 : Int) (onlyPiece_0 : Int) (k1 : 0 ≤ x1 ∧ x1 ≤ 24) (k2 : 0 ≤ x2 ∧ x2 ≤ 24) (k3 : 0 ≤ x3 ∧ x3 ≤ 24) (k4 : 0 ≤ x4 ∧ x4 ≤ 24) (k5 : 1 ≤ x5 ∧ x5 ≤ 1) (k6 : 0 ≤ x6 ∧ x6 ≤ 80) (k7 : 0 ≤ x7 ∧ x7 ≤ 1) (k8 : 0 ≤ x8 ∧ x8 ≤ 24) (k9 : 0 ≤ x9 ∧ x9 ≤ 24) (k10 : (-2) ≤ x10 ∧ x10 ≤ 26000060) (k12 : 0 ≤ x12 ∧ x12 ≤ 0) (k13 : 0 ≤ x13 ∧ x13 ≤ 0) (k15 : 0 ≤ x15 ∧ x15 ≤ 1000001) (k16 : 0 ≤ x16 ∧ x16 ≤ 1000000) (k17 : 1 ≤ x17 ∧ x17 ≤ 1) (k18 : 1 ≤ x18 ∧ x18 ≤ 1000001) (k19 : 0 ≤ x19 ∧ x19 ≤ 0) (d0 : x18 + (-4294967296) ≤ x15 ∧ x15 ≤ x18 + 0) (d1 : x16 + 1 ≤ x18 ∧ x18 ≤ x16 + 1) (f0 : x15 ≤ x18) (f1 : x18 = x16 + x17) (h2 : x16 = toGoal_0 (x2)) (h4 : x15 = toGoal_0 (x1)) (f5 : x13 = 0) (h6 : x13 = drawnNode_0 (x1)) (f8 : x1 ≠ x3) (f9 : x5 ≠ 0) (f10 : x12 = 0) (h11 : x12 = drawnNode_0 (x2)) (f12 : x2 ≠ x4) (f13 : x5 ≠ 0) (f14 : TGI (pn_0) (pm_0) (onlyPiece_0) (pt_0) (ph_0) (drawnEdge_0) (pieceOf_0) (drawnNode_0) (toGoal_0) (x3) (x4) (x5)) (f15 : TG3 (onlyPiece_0) (pt_0) (ph_0) (drawnEdge_0) (pieceOf_0) (drawnNode_0) (toGoal_0) (x3) (x4) (x5) (x6) (x7) (x8) (x9)) (f16 : SMN (pn_0) (toGoal_0) (x7) (x10)) (f17 : ARC (pm_0) (onlyPiece_0) (pt_0) (ph_0) (drawnEdge_0) (pieceOf_0) (x1) (x2)) (f18 : 1 * x1 + ((-1) * pn_0 + 0) ≤ (-1)) (f19 : 1 * x2 + ((-1) * pn_0 + 0) ≤ (-1)) (hK_0_33 : ∀ j : Int, 0 ≤ j → j < 80 → 0 ≤ pt_0 j ∧ pt_0 j ≤ 24) (hK_0_34 : ∀ j : Int, 0 ≤ j → j < 80 → 0 ≤ ph_0 j ∧ ph_0 j ≤ 24) (hK_0_42 : ∀ j : Int, 0 ≤ j → j < 26 → 0 ≤ drawnNode_0 j ∧ drawnNode_0 j ≤ 1) (hK_0_43 : ∀ j : Int, 0 ≤ j → j < 80 → 0 ≤ drawnEdge_0 j ∧ drawnEdge_0 j ≤ 1) (hK_0_44 : ∀ j : Int, 0 ≤ j → j < 80 → (-1) ≤ pieceOf_0 j ∧ pieceOf_0 j ≤ 79) (hK_0_48 : ∀ j : Int, 0 ≤ j → j < 26 → 0 ≤ toGoal_0 j ∧ toGoal_0 j ≤ 1000001) (kz_0_31 : 0 ≤ pn_0 ∧ pn_0 ≤ 25) (kz_0_32 : 0 ≤ pm_0 ∧ pm_0 ≤ 80) (kz_0_49 : (-1) ≤ onlyPiece_0 ∧ onlyPiece_0 ≤ 79) : CLO (pn_0) (onlyPiece_0) (pt_0) (ph_0) (drawnEdge_0) (pieceOf_0) (drawnNode_0) (toGoal_0) (x1) (x2) (x3) (x4) (x5) (x6) (x7) (x8) (x9) (x10) (x19) := by
  first
    | (refine ⟨fun _ => ⟨‹TG3 _ _ _ _ _ _ _ _ _ _ _ _ _ _›, fun hc => ?_, ‹SMN _ _ _ _›⟩, fun h => absurd (by omega) h⟩
       first
         | omega
         | (exfalso; unfold cnd at hc; omega))
    | (refine ⟨fun h => absurd h (by omega), fun _ => ?_⟩
       have hS := ‹SMN _ _ _ _›
       unfold SMN at hS
       have v1 := (hE_0_48_1 x1 (by omega)).1 rfl
       have := smlt (n := pn_0) (f := toGoal_0) (g := toGoal_1) (i := x1) (by omega) (by omega) (fun j a b => by
         by_cases q : j = x1
         · rw [q]; omega
         · rw [(hE_0_48_1 j a).2 q]; exact Int.le_refl _) (by omega)
       omega)
def o_Mo_closer_22 : or_T := (57, 20, [(0, (2, 0, 0, [165])), (1, (0, 0, 24, [])), (2, (0, 0, 24, [])), (3, (0, 0, 24, [])), (4, (0, 0, 24, [])), (5, (0, 1, 1, [])), (6, (0, 0, 80, [])), (7, (0, 0, 1, [])), (8, (0, 0, 24, [])), (9, (0, 0, 24, [])), (10, (0, -2, 26000060, [])), (12, (0, 0, 0, [])), (13, (0, 0, 0, [])), (15, (0, 0, 1000001, [])), (16, (0, 0, 1000000, [])), (17, (0, 1, 1, [])), (18, (0, 1, 1000001, [])), (19, (0, 0, 0, []))], [(7, [15, 18], [5]), (1, [18, 16, 17], []), (10, [16, 14, 2], []), (9, [14, 0], [48]), (10, [15, 14, 1], []), (8, [13], [0]), (10, [13, 11, 1], []), (9, [11, 0], [42]), (7, [1, 3], [1]), (8, [5], [1]), (8, [12], [0]), (10, [12, 11, 2], []), (7, [2, 4], [1]), (8, [5], [1]), (20, [0, 3, 4, 5], [60, 3, 6, 124, 31, 32, 49, 33, 34, 43, 44, 42, 48]), (20, [0, 3, 4, 5, 6, 7, 8, 9], [60, 1, 6, 125, 49, 33, 34, 43, 44, 42, 48]), (20, [0, 7, 10], [60, 1, 1, 128, 31, 48]), (20, [0, 1, 2], [60, 2, 4, 121, 32, 49, 33, 34, 43, 44]), (20, [1, 0], [30, -1, 1, 0, 0, -1, 1, 31]), (20, [2, 0], [30, -1, 1, 0, 0, -1, 1, 31])], [], [], [(20, [0, 1, 2, 3, 4, 5, 6, 7, 8, 9, 10, 19], [60, 2, 6, 129, 31, 49, 33, 34, 43, 44, 42, 48])], [], [(15, 18, -4294967296, 0), (18, 16, 1, 1)])
theorem oo_Mo_closer_22 {kA : Nat → ClassId} : or_ok PRD kA GG o_Mo_closer_22 := by
  refine or_mk fun A ta ws vs hD hth hl => ?_
  intro t0 r0 t1 k1 t2 k2 t3 k3 t4 k4 t5 k5 t6 k6 t7 k7 t8 k8 t9 k9 t10 k10 t12 k12 t13 k13 t15 k15 t16 k16 t17 k17 t18 k18 t19 k19 d0 d1 f0 f1 f2 f3 f4 f5 f6 f7 f8 f9 f10 f11 f12 f13 f14 f15 f16 f17 f18 f19
  replace f2 := shm_107 f2
  replace f3 := shm_548 f3
  replace f4 := shm_107 f4
  replace f6 := shm_107 f6
  replace f7 := shm_531 f7
  replace f11 := shm_107 f11
  have cr_0_33 := fdq_117 hD hth r0
  have cr_0_34 := fdq_118 hD hth r0
  have cr_0_42 := fdq_136 hD hth r0
  have cr_0_43 := fdq_137 hD hth r0
  have cr_0_44 := fdq_138 hD hth r0
  have cr_0_48 := fdq_144 hD hth r0
  have ad_14 : v_ad (n_v vs 14) = w_ar ws (n_v vs 0) 48 := congrArg v_ad f3
  have ad_11 : v_ad (n_v vs 11) = w_ar ws (n_v vs 0) 42 := congrArg v_ad f7
  simp only [ad_14] at f2
  have h2 : v_iv (n_v vs 16) = w_ei ws (w_ar ws (n_v vs 0) 48) (v_iv (n_v vs 2)) := f2
  simp only [ad_14] at f4
  have h4 : v_iv (n_v vs 15) = w_ei ws (w_ar ws (n_v vs 0) 48) (v_iv (n_v vs 1)) := f4
  simp only [ad_11] at f6
  have h6 : v_iv (n_v vs 13) = w_ei ws (w_ar ws (n_v vs 0) 42) (v_iv (n_v vs 1)) := f6
  simp only [ad_11] at f11
  have h11 : v_iv (n_v vs 12) = w_ei ws (w_ar ws (n_v vs 0) 42) (v_iv (n_v vs 2)) := f11
  have hK_0_33 := elq_60 hD hth cr_0_33
  have hK_0_34 := elq_61 hD hth cr_0_34
  have hK_0_42 := elq_75 hD hth cr_0_42
  have hK_0_43 := elq_76 hD hth cr_0_43
  have hK_0_44 := elq_77 hD hth cr_0_44
  have hK_0_48 := elq_82 hD hth cr_0_48
  have kz_0_31 := fdq_145 hD hth r0
  have kz_0_32 := fdq_140 hD hth r0
  have kz_0_49 := fdq_146 hD hth r0
  have nf0 : fc_1 PRD (20, [0, 1, 2, 3, 4, 5, 6, 7, 8, 9, 10, 19], [60, 2, 6, 129, 31, 49, 33, 34, 43, 44, 42, 48]) ws (vs) := ⟨nf_in hl rfl, sgq_554 (vc_Mo_closer_22_0 (v_iv (n_v vs 1)) (v_iv (n_v vs 2)) (v_iv (n_v vs 3)) (v_iv (n_v vs 4)) (v_iv (n_v vs 5)) (v_iv (n_v vs 6)) (v_iv (n_v vs 7)) (v_iv (n_v vs 8)) (v_iv (n_v vs 9)) (v_iv (n_v vs 10)) (v_iv (n_v vs 12)) (v_iv (n_v vs 13)) (v_iv (n_v vs 15)) (v_iv (n_v vs 16)) (v_iv (n_v vs 17)) (v_iv (n_v vs 18)) (v_iv (n_v vs 19)) (w_ei ws (w_ar ws (n_v vs 0) 48)) (w_ei ws (w_ar ws (n_v vs 0) 42)) (w_ei ws (w_ar ws (n_v vs 0) 33)) (w_ei ws (w_ar ws (n_v vs 0) 34)) (w_ei ws (w_ar ws (n_v vs 0) 43)) (w_ei ws (w_ar ws (n_v vs 0) 44)) (w_fi ws (n_v vs 0) 31) (w_fi ws (n_v vs 0) 32) (w_fi ws (n_v vs 0) 49) k1 k2 k3 k4 k5 k6 k7 k8 k9 k10 k12 k13 k15 k16 k17 k18 k19 d0 d1 (shm_24 f0) (shm_12 f1) h2 h4 (shm_192 f5) h6 (shm_40 f8) (shm_142 f9) (shm_192 f10) h11 (shm_40 f12) (shm_142 f13) (shm_549 f14) (shm_550 f15) (shm_551 f16) (shm_552 f17) (shm_553 f18) (shm_553 f19) hK_0_33 hK_0_34 hK_0_42 hK_0_43 hK_0_44 hK_0_48 kz_0_31 kz_0_32 kz_0_49)⟩
  refine ⟨(fun _ h => (by cases h)), [], trivial, ?_, (fun _ h => (by cases h))⟩
  rw [List.append_nil]
  exact List.forall_mem_cons.mpr ⟨⟨show (20 : Nat) < 100 from by decide, nf0⟩, (fun _ h => (by cases h))⟩
def n_Mo_closer_an : List an_T := []
def t_Mo_closer_ct : ct_L := []
set_option maxRecDepth 100000 in
theorem c_Mo_closer {l : Launch} {D : va_G} {kA : Nat → ClassId} : ct_ok PRD l D kA GG y_Mo_closer z_Mo_closer e_Mo_closer := chk_all_ok (FT := [(81, 13, 42), (93, 13, 48)]) (PT := []) (CT := t_Mo_closer_ct) (KT := []) (NT := []) (AN := n_Mo_closer_an) (OT := [o_Mo_closer_0, o_Mo_closer_1, o_Mo_closer_2, o_Mo_closer_3, o_Mo_closer_4, o_Mo_closer_5, o_Mo_closer_6, o_Mo_closer_7, o_Mo_closer_8, o_Mo_closer_9, o_Mo_closer_10, o_Mo_closer_11, o_Mo_closer_12, o_Mo_closer_13, o_Mo_closer_14, o_Mo_closer_15, o_Mo_closer_16, o_Mo_closer_17, o_Mo_closer_18, o_Mo_closer_19, o_Mo_closer_20, o_Mo_closer_21, o_Mo_closer_22]) 0 652 (List.forall_mem_cons.mpr ⟨oo_Mo_closer_0, List.forall_mem_cons.mpr ⟨oo_Mo_closer_1, List.forall_mem_cons.mpr ⟨oo_Mo_closer_2, List.forall_mem_cons.mpr ⟨oo_Mo_closer_3, List.forall_mem_cons.mpr ⟨oo_Mo_closer_4, List.forall_mem_cons.mpr ⟨oo_Mo_closer_5, List.forall_mem_cons.mpr ⟨oo_Mo_closer_6, List.forall_mem_cons.mpr ⟨oo_Mo_closer_7, List.forall_mem_cons.mpr ⟨oo_Mo_closer_8, List.forall_mem_cons.mpr ⟨oo_Mo_closer_9, List.forall_mem_cons.mpr ⟨oo_Mo_closer_10, List.forall_mem_cons.mpr ⟨oo_Mo_closer_11, List.forall_mem_cons.mpr ⟨oo_Mo_closer_12, List.forall_mem_cons.mpr ⟨oo_Mo_closer_13, List.forall_mem_cons.mpr ⟨oo_Mo_closer_14, List.forall_mem_cons.mpr ⟨oo_Mo_closer_15, List.forall_mem_cons.mpr ⟨oo_Mo_closer_16, List.forall_mem_cons.mpr ⟨oo_Mo_closer_17, List.forall_mem_cons.mpr ⟨oo_Mo_closer_18, List.forall_mem_cons.mpr ⟨oo_Mo_closer_19, List.forall_mem_cons.mpr ⟨oo_Mo_closer_20, List.forall_mem_cons.mpr ⟨oo_Mo_closer_21, List.forall_mem_cons.mpr ⟨oo_Mo_closer_22, List.forall_mem_nil _⟩⟩⟩⟩⟩⟩⟩⟩⟩⟩⟩⟩⟩⟩⟩⟩⟩⟩⟩⟩⟩⟩⟩) (by decide +kernel) ⟨List.forall_mem_cons.mpr ⟨gf_Mo_81, List.forall_mem_cons.mpr ⟨gf_Mo_93, List.forall_mem_nil _⟩⟩, List.forall_mem_nil _, List.forall_mem_nil _, List.forall_mem_nil _, List.forall_mem_nil _, GG_pl⟩ (by decide +kernel)
set_option maxHeartbeats 4000000 in
theorem vc_Mo_cost_at_ga_0_r0 (x1 : Int) (x2 : Int) (x5 : Int) (x7 : Int) (costMany_0 : Int) (costA_0 : Int → Int) (costB_0 : Int → Int) (costW_0 : Int → Int) (costPlain_0 : Int → Int) (pointMany_0 : Int) (k1 : 0 ≤ x1 ∧ x1 ≤ 75) (k2 : 0 ≤ x2 ∧ x2 ≤ 75) (k5 : 0 ≤ x5 ∧ x5 ≤ 199) (k7 : 0 ≤ x7 ∧ x7 ≤ 200) (g0 : x7 = costMany_0) (f2 : costMany_0 = x5) (f3 : PCQ (pointMany_0) (costMany_0) (costA_0) (costB_0) (costW_0) (costPlain_0)) (f4 : (0 ≤ x1) ∧ ((x1 + 1) ≤ pointMany_0)) (f5 : (0 ≤ x2) ∧ ((x2 + 1) ≤ pointMany_0)) (hK_0_83 : ∀ j : Int, 0 ≤ j → j < 200 → 0 ≤ costA_0 j ∧ costA_0 j ≤ 75) (hK_0_84 : ∀ j : Int, 0 ≤ j → j < 200 → 0 ≤ costB_0 j ∧ costB_0 j ≤ 75) (hK_0_85 : ∀ j : Int, 0 ≤ j → j < 200 → 0 ≤ costW_0 j ∧ costW_0 j ≤ 72) (hK_0_86 : ∀ j : Int, 0 ≤ j → j < 200 → 0 ≤ costPlain_0 j ∧ costPlain_0 j ≤ 1) (kz_0_79 : 0 ≤ pointMany_0 ∧ pointMany_0 ≤ 76) (kz_0_80 : 0 ≤ costMany_0 ∧ costMany_0 ≤ 200) : 0 ≤ x7 ∧ x7 ≤ 199 := by
  omega
def o_Mo_cost_at_ga_0 : or_T := (9, 8, [(0, (2, 0, 0, [165])), (1, (0, 0, 75, [])), (2, (0, 0, 75, [])), (5, (0, 0, 199, [])), (6, (2, 0, 0, [220])), (7, (0, 0, 200, []))], [(9, [7, 0], [80]), (9, [6, 0], [83]), (20, [0, 5], [50, 1, 0, 80, 1, 3, 2, 0, 80, 1, 1]), (20, [0], [60, 2, 4, 456, 79, 80, 83, 84, 85, 86]), (20, [1, 0], [50, 1, 0, 1079, 2, 6, 0, 2, 0, 0, 1, 0, 0, 6, 4, 2, 1, 0, 0, 1, 2, 1, 79]), (20, [2, 0], [50, 1, 0, 1079, 2, 6, 0, 2, 0, 0, 1, 0, 0, 6, 4, 2, 1, 0, 0, 1, 2, 1, 79])], [(7, (0, 0, 199, []))], [], [], [], [])
theorem oo_Mo_cost_at_ga_0 {kA : Nat → ClassId} : or_ok PRD kA GG o_Mo_cost_at_ga_0 := by
  refine or_mk fun A ta ws vs hD hth hl => ?_
  intro t0 r0 t1 k1 t2 k2 t5 k5 t6 r6 t7 k7 f0 f1 f2 f3 f4 f5
  replace f0 := shm_555 f0
  have cr_0_83 := fdq_126 hD hth r0
  have cr_0_84 := fdq_127 hD hth r0
  have cr_0_85 := fdq_128 hD hth r0
  have cr_0_86 := fdq_129 hD hth r0
  have g0 : v_iv (n_v vs 7) = w_fi ws (n_v vs 0) 80 := congrArg v_iv f0
  have hK_0_83 := elq_67 hD hth cr_0_83
  have hK_0_84 := elq_68 hD hth cr_0_84
  have hK_0_85 := elq_69 hD hth cr_0_85
  have hK_0_86 := elq_70 hD hth cr_0_86
  have kz_0_79 := fdq_147 hD hth r0
  have kz_0_80 := fdq_131 hD hth r0
  have hrf0 : 0 ≤ v_iv (n_v vs 7) ∧ v_iv (n_v vs 7) ≤ 199 := vc_Mo_cost_at_ga_0_r0 (v_iv (n_v vs 1)) (v_iv (n_v vs 2)) (v_iv (n_v vs 5)) (v_iv (n_v vs 7)) (w_fi ws (n_v vs 0) 80) (w_ei ws (w_ar ws (n_v vs 0) 83)) (w_ei ws (w_ar ws (n_v vs 0) 84)) (w_ei ws (w_ar ws (n_v vs 0) 85)) (w_ei ws (w_ar ws (n_v vs 0) 86)) (w_fi ws (n_v vs 0) 79) k1 k2 k5 k7 g0 (shm_557 f2) (shm_558 f3) (shm_559 f4) (shm_559 f5) hK_0_83 hK_0_84 hK_0_85 hK_0_86 kz_0_79 kz_0_80
  have rf7 : tv_ok ta (0, 0, 199, []) (n_v vs 7) := tv_in t7 (by first | omega | grind) (by first | omega | grind)
  refine ⟨List.forall_mem_cons.mpr ⟨rf7, (fun _ h => (by cases h))⟩, [], trivial, ?_, (fun _ h => (by cases h))⟩
  rw [List.append_nil]
  exact (fun _ h => (by cases h))
