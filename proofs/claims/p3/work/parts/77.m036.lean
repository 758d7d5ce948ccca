
set_option maxRecDepth 100000 in
theorem c_Mo_greedyOrder {l : Launch} {D : va_G} {kA : Nat → ClassId} (h_Mo_edges : ct_ok PRD l D kA GG y_Mo_edges z_Mo_edges e_Mo_edges) (h_Mo_head : ct_ok PRD l D kA GG y_Mo_head z_Mo_head e_Mo_head) (h_Mo_isMember : ct_ok PRD l D kA GG y_Mo_isMember z_Mo_isMember e_Mo_isMember) (h_Mo_nodes : ct_ok PRD l D kA GG y_Mo_nodes z_Mo_nodes e_Mo_nodes) (h_Mo_tail : ct_ok PRD l D kA GG y_Mo_tail z_Mo_tail e_Mo_tail) (h_Mo_weight : ct_ok PRD l D kA GG y_Mo_weight z_Mo_weight e_Mo_weight) : ct_ok PRD l D kA GG y_Mo_greedyOrder z_Mo_greedyOrder e_Mo_greedyOrder := chk_all_ok (FT := [(48, 13, 22), (216, 13, 97), (795, 13, 99)]) (PT := []) (CT := t_Mo_greedyOrder_ct) (KT := []) (NT := []) (AN := n_Mo_greedyOrder_an) (OT := [o_Mo_greedyOrder_0, o_Mo_greedyOrder_1, o_Mo_greedyOrder_2, o_Mo_greedyOrder_3, o_Mo_greedyOrder_4, o_Mo_greedyOrder_5, o_Mo_greedyOrder_6, o_Mo_greedyOrder_7, o_Mo_greedyOrder_8, o_Mo_greedyOrder_9, o_Mo_greedyOrder_10, o_Mo_greedyOrder_11, o_Mo_greedyOrder_12, o_Mo_greedyOrder_13, o_Mo_greedyOrder_14, o_Mo_greedyOrder_15, o_Mo_greedyOrder_16, o_Mo_greedyOrder_17, o_Mo_greedyOrder_18, o_Mo_greedyOrder_19, o_Mo_greedyOrder_20, o_Mo_greedyOrder_21, o_Mo_greedyOrder_22, o_Mo_greedyOrder_23, o_Mo_greedyOrder_24, o_Mo_greedyOrder_25]) 8 1508 (List.forall_mem_cons.mpr ⟨oo_Mo_greedyOrder_0, List.forall_mem_cons.mpr ⟨oo_Mo_greedyOrder_1, List.forall_mem_cons.mpr ⟨oo_Mo_greedyOrder_2, List.forall_mem_cons.mpr ⟨oo_Mo_greedyOrder_3, List.forall_mem_cons.mpr ⟨oo_Mo_greedyOrder_4, List.forall_mem_cons.mpr ⟨oo_Mo_greedyOrder_5, List.forall_mem_cons.mpr ⟨oo_Mo_greedyOrder_6, List.forall_mem_cons.mpr ⟨oo_Mo_greedyOrder_7, List.forall_mem_cons.mpr ⟨oo_Mo_greedyOrder_8, List.forall_mem_cons.mpr ⟨oo_Mo_greedyOrder_9, List.forall_mem_cons.mpr ⟨oo_Mo_greedyOrder_10, List.forall_mem_cons.mpr ⟨oo_Mo_greedyOrder_11, List.forall_mem_cons.mpr ⟨oo_Mo_greedyOrder_12, List.forall_mem_cons.mpr ⟨oo_Mo_greedyOrder_13, List.forall_mem_cons.mpr ⟨oo_Mo_greedyOrder_14, List.forall_mem_cons.mpr ⟨oo_Mo_greedyOrder_15, List.forall_mem_cons.mpr ⟨oo_Mo_greedyOrder_16, List.forall_mem_cons.mpr ⟨oo_Mo_greedyOrder_17, List.forall_mem_cons.mpr ⟨oo_Mo_greedyOrder_18, List.forall_mem_cons.mpr ⟨oo_Mo_greedyOrder_19, List.forall_mem_cons.mpr ⟨oo_Mo_greedyOrder_20, List.forall_mem_cons.mpr ⟨oo_Mo_greedyOrder_21, List.forall_mem_cons.mpr ⟨oo_Mo_greedyOrder_22, List.forall_mem_cons.mpr ⟨oo_Mo_greedyOrder_23, List.forall_mem_cons.mpr ⟨oo_Mo_greedyOrder_24, List.forall_mem_cons.mpr ⟨oo_Mo_greedyOrder_25, List.forall_mem_nil _⟩⟩⟩⟩⟩⟩⟩⟩⟩⟩⟩⟩⟩⟩⟩⟩⟩⟩⟩⟩⟩⟩⟩⟩⟩⟩) (by decide +kernel) ⟨List.forall_mem_cons.mpr ⟨gf_Mo_48, List.forall_mem_cons.mpr ⟨gf_Mo_216, List.forall_mem_cons.mpr ⟨gf_Mo_795, List.forall_mem_nil _⟩⟩⟩, List.forall_mem_nil _, List.forall_mem_cons.mpr ⟨cl_virtual (y := y_Mo_tail) (ci := 13) rfl rfl ⟨_, _, rfl⟩ (by decide +kernel) h_Mo_tail wm_3045 wm_9 wm_3042 wm_3044 wv_13_8 ⟨by decide, by decide, by decide +kernel⟩ (by decide), List.forall_mem_cons.mpr ⟨cl_virtual (y := y_Mo_head) (ci := 13) rfl rfl ⟨_, _, rfl⟩ (by decide +kernel) h_Mo_head wm_3049 wm_9 wm_3046 wm_3048 wv_13_9 ⟨by decide, by decide, by decide +kernel⟩ (by decide), List.forall_mem_cons.mpr ⟨cl_virtual (y := y_Mo_edges) (ci := 13) rfl rfl ⟨_, _, rfl⟩ (by decide +kernel) h_Mo_edges wm_3037 wm_9 wm_3034 wm_3036 wv_13_6 ⟨by decide, by decide, by decide +kernel⟩ (by decide), List.forall_mem_cons.mpr ⟨cl_virtual (y := y_Mo_nodes) (ci := 13) rfl rfl ⟨_, _, rfl⟩ (by decide +kernel) h_Mo_nodes wm_3025 wm_9 wm_3022 wm_3024 wv_13_3 ⟨by decide, by decide, by decide +kernel⟩ (by decide), List.forall_mem_cons.mpr ⟨cl_virtual (y := y_Mo_weight) (ci := 13) rfl rfl ⟨_, _, rfl⟩ (by decide +kernel) h_Mo_weight wm_3339 wm_9 wm_3336 wm_3338 wv_17_7 ⟨by decide, by decide, by decide +kernel⟩ (by decide), List.forall_mem_cons.mpr ⟨cl_virtual (y := y_Mo_isMember) (ci := 13) rfl rfl ⟨_, _, rfl⟩ (by decide +kernel) h_Mo_isMember wm_3383 wm_9 wm_3380 wm_3382 wv_17_14 ⟨by decide, by decide, by decide +kernel⟩ (by decide), List.forall_mem_nil _⟩⟩⟩⟩⟩⟩, List.forall_mem_nil _, List.forall_mem_nil _, GG_pl⟩ (by decide +kernel)

def o_Mo_isInCore_0 : or_T := (2, 4, [], [], [], [], [(24, [0, 0], []), (24, [1, 1], []), (24, [2, 2], [])], [], [])
set_option maxHeartbeats 8000000 in
theorem oo_Mo_isInCore_0 {kA : Nat → ClassId} : or_ok PRD kA GG o_Mo_isInCore_0 := by
  refine or_mk fun A ta ws vs hD hth hl => ?_
  have nf0 : fc_1 PRD (24, [0, 0], []) ws (vs) := by
    refine ⟨nf_in hl rfl, sgq_1 ?_⟩
    · show n_v vs 0 = n_v vs 0
      first | rfl | simp only [true_and]
  have nf1 : fc_1 PRD (24, [1, 1], []) ws (vs) := by
    refine ⟨nf_in hl rfl, sgq_1 ?_⟩
    · show n_v vs 1 = n_v vs 1
      first | rfl | simp only [true_and]
  have nf2 : fc_1 PRD (24, [2, 2], []) ws (vs) := by
    refine ⟨nf_in hl rfl, sgq_1 ?_⟩
    · show n_v vs 2 = n_v vs 2
      first | rfl | simp only [true_and]
  refine ⟨(fun _ h => (by cases h)), [], trivial, ?_, (fun _ h => (by cases h))⟩
  rw [List.append_nil]
  exact List.forall_mem_cons.mpr ⟨⟨show (24 : Nat) < 100 from by decide, nf0⟩, List.forall_mem_cons.mpr ⟨⟨show (24 : Nat) < 100 from by decide, nf1⟩, List.forall_mem_cons.mpr ⟨⟨show (24 : Nat) < 100 from by decide, nf2⟩, (fun _ h => (by cases h))⟩⟩⟩
def o_Mo_isInCore_1 : or_T := (25, 9, [(0, (2, 0, 0, [165])), (1, (0, 0, 23, [])), (2, (0, 1, 49, [])), (3, (2, 0, 0, [165])), (4, (0, 0, 23, [])), (5, (0, 1, 49, [])), (6, (0, 0, 24, [])), (7, (0, 0, 24, [])), (8, (0, 1, 1, []))], [(7, [6, 7], [3]), (20, [7, 3], [30, 0, 1, 0, 0, -1, 3, 2005000]), (20, [7, 3], [30, 0, -1, 0, 0, 1, 3, 2005000]), (20, [4, 3], [30, -1, 1, 0, 0, -1, 3, 2005000]), (24, [0, 3], []), (24, [1, 4], []), (24, [2, 5], [])], [], [(0, -2, 60, [])], [(20, [4, 3], [30, -1, 1, 0, 0, -1, 3, 2005000]), (20, [3, 8, 9], [50, 0, 1, 22, 0, 16, 4, 12, 5, 2, 0, 25, 15, 0, 22, 2, 0, 25, 0, 0, 1, 1, 1, 2]), (20, [8, 5, 3], [50, 1, 2, 2005, 2002, 2022, 3, 6, 1, 2, 1, 0, 0, 1, 3, 6, 0, 2, 1, 1, 0, 48, 5, 6, 3, 2, 2, 2, 2, 5, 0, 5, 3, 2, 22, 7, 0, 0, 0]), (24, [0, 3], []), (24, [1, 4], []), (24, [2, 5], [])], [], [(6, 7, 0, 4294967296), (1, 4, -4294967296, 0), (2, 5, -4294967296, 0), (4, 1, -4294967296, 0), (5, 2, -4294967296, 0)])
set_option maxHeartbeats 8000000 in
theorem oo_Mo_isInCore_1 {kA : Nat → ClassId} : or_ok PRD kA GG o_Mo_isInCore_1 := by
  refine or_mk fun A ta ws vs hD hth hl => ?_
  intro t0 r0 t1 k1 t2 k2 t3 r3 t4 k4 t5 k5 t6 k6 t7 k7 t8 k8 d0 d1 d2 d3 d4 f0 f1 f2 f3 f4 f5 f6
  replace f0 := shm_2 f0
  replace f1 := shm_126 f1
  replace f2 := shm_127 f2
  replace f3 := shm_269 f3
  replace f4 := shm_5 f4
  replace f5 := shm_5 f5
  replace f6 := shm_5 f6
  have q3 : n_v vs 3 = n_v vs 0 := f4.symm
  have q4 : n_v vs 4 = n_v vs 1 := f5.symm
  have q5 : n_v vs 5 = n_v vs 2 := f6.symm
  simp only [q3, q4] at f1 f2 f3
  have cr_0_2 := fdq_10 hD hth r0
  have cr_0_22 := fdq_240 hD hth r0
  have br_0_2_F5_0_0 : w_ei ws (w_ar ws (n_v vs 0) 2) (w_fi ws (n_v vs 0) 5 + 0) = w_el ws (w_ar ws (n_v vs 0) 2) (w_fi ws (n_v vs 0) 5 + 0).toNat := rfl
  have hK_0_22 := elq_148 hD hth cr_0_22
  first | have hCb0_0 := cnt_bd (w_ei ws (w_ar ws (n_v vs 0) 22)) (0) (n := (25)) (by omega) | skip
  obtain ⟨x, ex, hx⟩ := iv_ex (ta := ta) (lo := (-2)) (hi := 60) (z := 60) (by omega) (by omega) (by omega) (by omega)
  have ex2 : v_iv (Value.int x) = 60 := ex
  have ex3 : (-2) ≤ v_iv (Value.int x) ∧ v_iv (Value.int x) ≤ 60 := tv_rng hx
  have e_0 : n_v (vs ++ [Value.int x]) 0 = n_v vs 0 := n_v_old (by rw [hl]; decide)
  have e_1 : n_v (vs ++ [Value.int x]) 1 = n_v vs 1 := n_v_old (by rw [hl]; decide)
  have e_2 : n_v (vs ++ [Value.int x]) 2 = n_v vs 2 := n_v_old (by rw [hl]; decide)
  have e_3 : n_v (vs ++ [Value.int x]) 3 = n_v vs 3 := n_v_old (by rw [hl]; decide)
  have e_4 : n_v (vs ++ [Value.int x]) 4 = n_v vs 4 := n_v_old (by rw [hl]; decide)
  have e_5 : n_v (vs ++ [Value.int x]) 5 = n_v vs 5 := n_v_old (by rw [hl]; decide)
  have e_8 : n_v (vs ++ [Value.int x]) 8 = n_v vs 8 := n_v_old (by rw [hl]; decide)
  have e_9 : n_v (vs ++ [Value.int x]) 9 = Value.int x := n_v_new hl
  have nf0 : fc_1 PRD (20, [4, 3], [30, -1, 1, 0, 0, -1, 3, 2005000]) ws (vs ++ [Value.int x]) := by
    refine ⟨nf_inA hl rfl, sgq_269 ?_⟩
    · show 1 * v_iv (n_v (vs ++ [Value.int x]) 4) + ((-1) * w_el ws (w_ar ws (n_v (vs ++ [Value.int x]) 3) 2) (w_fi ws (n_v (vs ++ [Value.int x]) 3) 5 + 0).toNat + 0) ≤ (-1)
      simp only [e_3, e_4, q3, q4]
      omega
  have nf1 : fc_1 PRD (20, [3, 8, 9], [50, 0, 1, 22, 0, 16, 4, 12, 5, 2, 0, 25, 15, 0, 22, 2, 0, 25, 0, 0, 1, 1, 1, 2]) ws (vs ++ [Value.int x]) := by
    refine ⟨nf_inA hl rfl, sgq_1645 ?_⟩
    · show ((25 - cntE (w_ei ws (w_ar ws (n_v (vs ++ [Value.int x]) 3) 22)) (0) (25)) + v_iv (n_v (vs ++ [Value.int x]) 8)) ≤ v_iv (n_v (vs ++ [Value.int x]) 9)
      simp only [e_3, e_8, e_9, q3]
      first | (omega) | (set_option maxHeartbeats 200000 in grind)
  have nf2 : fc_1 PRD (20, [8, 5, 3], [50, 1, 2, 2005, 2002, 2022, 3, 6, 1, 2, 1, 0, 0, 1, 3, 6, 0, 2, 1, 1, 0, 48, 5, 6, 3, 2, 2, 2, 2, 5, 0, 5, 3, 2, 22, 7, 0, 0, 0]) ws (vs ++ [Value.int x]) := by
    refine ⟨nf_inA hl rfl, sgq_1646 ?_⟩
    · show (v_iv (n_v (vs ++ [Value.int x]) 8) = 1) ∨ ((v_iv (n_v (vs ++ [Value.int x]) 5) ≤ 48) ∨ (∀ j0 : Int, 0 ≤ j0 → j0 < w_ei ws (w_ar ws (n_v (vs ++ [Value.int x]) 3) 2) (w_fi ws (n_v (vs ++ [Value.int x]) 3) 5) → (w_ei ws (w_ar ws (n_v (vs ++ [Value.int x]) 3) 22) (j0) ≤ 0)))
      simp only [e_3, e_5, e_8, q3, q5]
      first | (refine or_all2 (fun j0 hj00 hj01 => ?_); (first | have i1 := hK_0_22 (j0) hj00 | skip); omega) | (set_option maxHeartbeats 200000 in grind)
  have nf3 : fc_1 PRD (24, [0, 3], []) ws (vs ++ [Value.int x]) := by
    refine ⟨nf_inA hl rfl, sgq_5 ?_⟩
    · show n_v (vs ++ [Value.int x]) 0 = n_v (vs ++ [Value.int x]) 3
      first | rfl | simp only [e_0, e_3, q3, q4, q5]
  have nf4 : fc_1 PRD (24, [1, 4], []) ws (vs ++ [Value.int x]) := by
    refine ⟨nf_inA hl rfl, sgq_5 ?_⟩
    · show n_v (vs ++ [Value.int x]) 1 = n_v (vs ++ [Value.int x]) 4
      first | rfl | simp only [e_1, e_4, q3, q4, q5]
  have nf5 : fc_1 PRD (24, [2, 5], []) ws (vs ++ [Value.int x]) := by
    refine ⟨nf_inA hl rfl, sgq_5 ?_⟩
    · show n_v (vs ++ [Value.int x]) 2 = n_v (vs ++ [Value.int x]) 5
      first | rfl | simp only [e_2, e_5, q3, q4, q5]
  exact ⟨(fun _ h => (by cases h)), [Value.int x], ag_one hx, List.forall_mem_cons.mpr ⟨⟨show (20 : Nat) < 100 from by decide, nf0⟩, List.forall_mem_cons.mpr ⟨⟨show (20 : Nat) < 100 from by decide, nf1⟩, List.forall_mem_cons.mpr ⟨⟨show (20 : Nat) < 100 from by decide, nf2⟩, List.forall_mem_cons.mpr ⟨⟨show (24 : Nat) < 100 from by decide, nf3⟩, List.forall_mem_cons.mpr ⟨⟨show (24 : Nat) < 100 from by decide, nf4⟩, List.forall_mem_cons.mpr ⟨⟨show (24 : Nat) < 100 from by decide, nf5⟩, (fun _ h => (by cases h))⟩⟩⟩⟩⟩⟩, (fun _ h => (by cases h))⟩
def o_Mo_isInCore_2 : or_T := (148, 10, [(0, (2, 0, 0, [165])), (1, (0, 0, 23, [])), (2, (0, 1, 49, [])), (3, (2, 0, 0, [165])), (4, (0, 0, 23, [])), (5, (0, 1, 49, [])), (6, (0, 0, 0, [])), (7, (0, -2, 60, [])), (8, (2, 0, 0, [177])), (9, (0, 0, 1, []))], [(10, [9, 8, 4], []), (9, [8, 3], [22]), (8, [6], [0]), (20, [4, 3], [30, -1, 1, 0, 0, -1, 3, 2005000]), (20, [3, 6, 7], [50, 0, 1, 22, 0, 16, 4, 12, 5, 2, 0, 25, 15, 0, 22, 2, 0, 25, 0, 0, 1, 1, 1, 2]), (20, [6, 5, 3], [50, 1, 2, 2005, 2002, 2022, 3, 6, 1, 2, 1, 0, 0, 1, 3, 6, 0, 2, 1, 1, 0, 48, 5, 6, 3, 2, 2, 2, 2, 5, 0, 5, 3, 2, 22, 7, 0, 0, 0]), (24, [0, 3], []), (24, [1, 4], []), (24, [2, 5], [])], [], [], [(20, [9, 2], [50, 0, 0, 4, 6, 1, 2, 1, 0, 0, 1, 0, 2, 1, 1, 0, 48])], [], [(1, 4, -4294967296, 0), (2, 5, -4294967296, 0), (4, 1, -4294967296, 0), (5, 2, -4294967296, 0)])
set_option maxHeartbeats 8000000 in
theorem oo_Mo_isInCore_2 {kA : Nat → ClassId} : or_ok PRD kA GG o_Mo_isInCore_2 := by
  refine or_mk fun A ta ws vs hD hth hl => ?_
  intro t0 r0 t1 k1 t2 k2 t3 r3 t4 k4 t5 k5 t6 k6 t7 k7 t8 r8 t9 k9 d0 d1 d2 d3 f0 f1 f2 f3 f4 f5 f6 f7 f8
  replace f0 := shm_107 f0
  replace f1 := shm_1026 f1
  replace f2 := shm_192 f2
  replace f3 := shm_269 f3
  replace f4 := shm_1645 f4
  replace f5 := shm_1646 f5
  replace f6 := shm_5 f6
  replace f7 := shm_5 f7
  replace f8 := shm_5 f8
  have q3 : n_v vs 3 = n_v vs 0 := f6.symm
  have q4 : n_v vs 4 = n_v vs 1 := f7.symm
  have q5 : n_v vs 5 = n_v vs 2 := f8.symm
  simp only [q4, q3, q5] at f0 f1 f3 f4 f5
  have cr_0_2 := fdq_10 hD hth r0
  have cr_0_22 := fdq_240 hD hth r0
  have ad_8 : v_ad (n_v vs 8) = w_ar ws (n_v vs 0) 22 := congrArg v_ad f1
  simp only [ad_8] at f0
  have h0 : v_iv (n_v vs 9) = w_ei ws (w_ar ws (n_v vs 0) 22) (v_iv (n_v vs 1)) := f0
  have br_0_2_F5_0_0 : w_ei ws (w_ar ws (n_v vs 0) 2) (w_fi ws (n_v vs 0) 5 + 0) = w_el ws (w_ar ws (n_v vs 0) 2) (w_fi ws (n_v vs 0) 5 + 0).toNat := rfl
  have br_0_22_1_0 : w_ei ws (w_ar ws (n_v vs 0) 22) (v_iv (n_v vs 1)) = w_el ws (w_ar ws (n_v vs 0) 22) (v_iv (n_v vs 1)).toNat := rfl
  have hK_0_22 := elq_148 hD hth cr_0_22
  first | have qi1 := (all_or2 f5) (v_iv (n_v vs 1)) (by omega) (by omega) | skip
  first | have qi2 := hK_0_22 (v_iv (n_v vs 1)) (by omega) (by omega) | skip
  first | have hCb0_0 := cnt_bd (w_ei ws (w_ar ws (n_v vs 0) 22)) (0) (n := (25)) (by omega) | skip
  have nf0 : fc_1 PRD (20, [9, 2], [50, 0, 0, 4, 6, 1, 2, 1, 0, 0, 1, 0, 2, 1, 1, 0, 48]) ws (vs) := by
    refine ⟨nf_in hl rfl, sgq_1647 ?_⟩
    · show (v_iv (n_v vs 9) = 1) → (v_iv (n_v vs 2) ≤ 48)
      first | (intro hp1; omega) | (set_option maxHeartbeats 200000 in grind)
  refine ⟨(fun _ h => (by cases h)), [], trivial, ?_, (fun _ h => (by cases h))⟩
  rw [List.append_nil]
  exact List.forall_mem_cons.mpr ⟨⟨show (20 : Nat) < 100 from by decide, nf0⟩, (fun _ h => (by cases h))⟩
def o_Mo_isInCore_3 : or_T := (34, 10, [(0, (2, 0, 0, [165])), (1, (0, 0, 23, [])), (2, (0, 1, 49, [])), (3, (2, 0, 0, [165])), (4, (0, 0, 23, [])), (5, (0, 1, 49, [])), (6, (0, 1, 1, [])), (7, (0, -2, 60, [])), (8, (0, 0, 0, [])), (9, (0, 0, 0, []))], [(8, [6], [1]), (20, [4, 3], [30, -1, 1, 0, 0, -1, 3, 2005000]), (20, [3, 6, 7], [50, 0, 1, 22, 0, 16, 4, 12, 5, 2, 0, 25, 15, 0, 22, 2, 0, 25, 0, 0, 1, 1, 1, 2]), (20, [6, 5, 3], [50, 1, 2, 2005, 2002, 2022, 3, 6, 1, 2, 1, 0, 0, 1, 3, 6, 0, 2, 1, 1, 0, 48, 5, 6, 3, 2, 2, 2, 2, 5, 0, 5, 3, 2, 22, 7, 0, 0, 0]), (24, [0, 3], []), (24, [1, 4], []), (24, [2, 5], [])], [], [(0, -2, 60, [])], [(20, [4, 3], [30, -1, 1, 0, 0, -1, 3, 2005000]), (20, [3, 8, 10], [50, 0, 1, 22, 0, 16, 4, 12, 5, 2, 0, 26, 15, 0, 22, 2, 0, 25, 0, 0, 1, 1, 1, 2]), (20, [8, 5, 9, 3], [50, 0, 1, 3022, 3, 6, 1, 2, 1, 0, 0, 1, 3, 6, 0, 2, 1, 1, 0, 48, 5, 2, 1, 2, 0, 5, 3, 3, 22, 7, 0, 0, 0]), (24, [0, 3], []), (24, [1, 4], []), (24, [2, 5], [])], [(10, 7, 0, 0)], [(1, 4, -4294967296, 0), (2, 5, -4294967296, 0), (4, 1, -4294967296, 0), (5, 2, -4294967296, 0)])
set_option maxHeartbeats 8000000 in
theorem oo_Mo_isInCore_3 {kA : Nat → ClassId} : or_ok PRD kA GG o_Mo_isInCore_3 := by
  refine or_mk fun A ta ws vs hD hth hl => ?_
  intro t0 r0 t1 k1 t2 k2 t3 r3 t4 k4 t5 k5 t6 k6 t7 k7 t8 k8 t9 k9 d0 d1 d2 d3 f0 f1 f2 f3 f4 f5 f6
  replace f0 := shm_142 f0
  replace f1 := shm_269 f1
  replace f2 := shm_1645 f2
  replace f3 := shm_1646 f3
  replace f4 := shm_5 f4
  replace f5 := shm_5 f5
  replace f6 := shm_5 f6
  have q3 : n_v vs 3 = n_v vs 0 := f4.symm
  have q4 : n_v vs 4 = n_v vs 1 := f5.symm
  have q5 : n_v vs 5 = n_v vs 2 := f6.symm
  simp only [q3, q4, q5] at f1 f2 f3
  have cr_0_2 := fdq_10 hD hth r0
  have cr_0_22 := fdq_240 hD hth r0
  have br_0_2_F5_0_0 : w_ei ws (w_ar ws (n_v vs 0) 2) (w_fi ws (n_v vs 0) 5 + 0) = w_el ws (w_ar ws (n_v vs 0) 2) (w_fi ws (n_v vs 0) 5 + 0).toNat := rfl
  have hK_0_22 := elq_148 hD hth cr_0_22
  first | have hCb0_0 := cnt_bd (w_ei ws (w_ar ws (n_v vs 0) 22)) (0) (n := (25)) (by omega) | skip
  obtain ⟨x, ex, hx⟩ := iv_ex (ta := ta) (lo := (-2)) (hi := 60) (z := 0 + (1 * v_iv (n_v vs 7) + 0)) (by omega) (by omega) (by omega) (by omega)
  have ex2 : v_iv (Value.int x) = 0 + (1 * v_iv (n_v vs 7) + 0) := ex
  have ex3 : (-2) ≤ v_iv (Value.int x) ∧ v_iv (Value.int x) ≤ 60 := tv_rng hx
  have e_0 : n_v (vs ++ [Value.int x]) 0 = n_v vs 0 := n_v_old (by rw [hl]; decide)
  have e_1 : n_v (vs ++ [Value.int x]) 1 = n_v vs 1 := n_v_old (by rw [hl]; decide)
  have e_2 : n_v (vs ++ [Value.int x]) 2 = n_v vs 2 := n_v_old (by rw [hl]; decide)
  have e_3 : n_v (vs ++ [Value.int x]) 3 = n_v vs 3 := n_v_old (by rw [hl]; decide)
  have e_4 : n_v (vs ++ [Value.int x]) 4 = n_v vs 4 := n_v_old (by rw [hl]; decide)
  have e_5 : n_v (vs ++ [Value.int x]) 5 = n_v vs 5 := n_v_old (by rw [hl]; decide)
  have e_8 : n_v (vs ++ [Value.int x]) 8 = n_v vs 8 := n_v_old (by rw [hl]; decide)
  have e_9 : n_v (vs ++ [Value.int x]) 9 = n_v vs 9 := n_v_old (by rw [hl]; decide)
  have e_10 : n_v (vs ++ [Value.int x]) 10 = Value.int x := n_v_new hl
  have nf0 : fc_1 PRD (20, [4, 3], [30, -1, 1, 0, 0, -1, 3, 2005000]) ws (vs ++ [Value.int x]) := by
    refine ⟨nf_inA hl rfl, sgq_269 ?_⟩
    · show 1 * v_iv (n_v (vs ++ [Value.int x]) 4) + ((-1) * w_el ws (w_ar ws (n_v (vs ++ [Value.int x]) 3) 2) (w_fi ws (n_v (vs ++ [Value.int x]) 3) 5 + 0).toNat + 0) ≤ (-1)
      simp only [e_3, e_4, q3, q4]
      omega
  have nf1 : fc_1 PRD (20, [3, 8, 10], [50, 0, 1, 22, 0, 16, 4, 12, 5, 2, 0, 26, 15, 0, 22, 2, 0, 25, 0, 0, 1, 1, 1, 2]) ws (vs ++ [Value.int x]) := by
    refine ⟨nf_inA hl rfl, sgq_1648 ?_⟩
    · show ((26 - cntE (w_ei ws (w_ar ws (n_v (vs ++ [Value.int x]) 3) 22)) (0) (25)) + v_iv (n_v (vs ++ [Value.int x]) 8)) ≤ v_iv (n_v (vs ++ [Value.int x]) 10)
      simp only [e_3, e_8, e_10, q3]
      first | (omega) | (set_option maxHeartbeats 200000 in grind)
  have nf2 : fc_1 PRD (20, [8, 5, 9, 3], [50, 0, 1, 3022, 3, 6, 1, 2, 1, 0, 0, 1, 3, 6, 0, 2, 1, 1, 0, 48, 5, 2, 1, 2, 0, 5, 3, 3, 22, 7, 0, 0, 0]) ws (vs ++ [Value.int x]) := by
    refine ⟨nf_inA hl rfl, sgq_1649 ?_⟩
    · show (v_iv (n_v (vs ++ [Value.int x]) 8) = 1) ∨ ((v_iv (n_v (vs ++ [Value.int x]) 5) ≤ 48) ∨ (∀ j0 : Int, 0 ≤ j0 → j0 < v_iv (n_v (vs ++ [Value.int x]) 9) → (w_ei ws (w_ar ws (n_v (vs ++ [Value.int x]) 3) 22) (j0) ≤ 0)))
      simp only [e_3, e_5, e_8, e_9, q3, q5]
      first | (refine or_all2 (fun j0 hj00 hj01 => ?_); (first | have i1 := (all_or2 f3) (j0) hj00 | skip); (first | have i2 := hK_0_22 (j0) hj00 | skip); omega) | (set_option maxHeartbeats 200000 in grind)
  have nf3 : fc_1 PRD (24, [0, 3], []) ws (vs ++ [Value.int x]) := by
    refine ⟨nf_inA hl rfl, sgq_5 ?_⟩
    · show n_v (vs ++ [Value.int x]) 0 = n_v (vs ++ [Value.int x]) 3
      first | rfl | simp only [e_0, e_3, q3, q4, q5]
  have nf4 : fc_1 PRD (24, [1, 4], []) ws (vs ++ [Value.int x]) := by
    refine ⟨nf_inA hl rfl, sgq_5 ?_⟩
    · show n_v (vs ++ [Value.int x]) 1 = n_v (vs ++ [Value.int x]) 4
      first | rfl | simp only [e_1, e_4, q3, q4, q5]
  have nf5 : fc_1 PRD (24, [2, 5], []) ws (vs ++ [Value.int x]) := by
    refine ⟨nf_inA hl rfl, sgq_5 ?_⟩
    · show n_v (vs ++ [Value.int x]) 2 = n_v (vs ++ [Value.int x]) 5
      first | rfl | simp only [e_2, e_5, q3, q4, q5]
  obtain ⟨x0, e0, _, _⟩ := tv_int t7 rfl
  have e1 : v_iv (n_v vs 7) = x0.toInt := by rw [e0]; rfl
  have ho : sy_ofs (vs ++ [Value.int x]) (10, 7, 0, 0) := by
    refine ⟨x, x0, by rw [List.getElem?_append_right (by rw [hl]; decide), hl]; rfl, ?_, ?_, ?_⟩
    · rw [List.getElem?_append_left (by rw [hl]; decide)]; exact n_v_some (by rw [hl]; decide) e0
    · show x0.toInt + 0 ≤ x.toInt; omega
    · show x.toInt ≤ x0.toInt + 0; omega
  exact ⟨(fun _ h => (by cases h)), [Value.int x], ag_one hx, List.forall_mem_cons.mpr ⟨⟨show (20 : Nat) < 100 from by decide, nf0⟩, List.forall_mem_cons.mpr ⟨⟨show (20 : Nat) < 100 from by decide, nf1⟩, List.forall_mem_cons.mpr ⟨⟨show (20 : Nat) < 100 from by decide, nf2⟩, List.forall_mem_cons.mpr ⟨⟨show (24 : Nat) < 100 from by decide, nf3⟩, List.forall_mem_cons.mpr ⟨⟨show (24 : Nat) < 100 from by decide, nf4⟩, List.forall_mem_cons.mpr ⟨⟨show (24 : Nat) < 100 from by decide, nf5⟩, (fun _ h => (by cases h))⟩⟩⟩⟩⟩⟩, List.forall_mem_cons.mpr ⟨ho, (fun _ h => (by cases h))⟩⟩
def o_Mo_isInCore_4 : or_T := (25, 10, [(0, (2, 0, 0, [165])), (1, (0, 0, 23, [])), (2, (0, 1, 49, [])), (3, (2, 0, 0, [165])), (4, (0, 0, 23, [])), (5, (0, 1, 49, [])), (6, (0, 0, 1, [])), (7, (0, 0, 24, [])), (8, (0, -2, 60, [])), (9, (0, 0, 24, []))], [(7, [7, 9], [3]), (20, [9, 3], [30, 0, 1, 0, 0, -1, 3, 2005000]), (20, [9, 3], [30, 0, -1, 0, 0, 1, 3, 2005000]), (20, [4, 3], [30, -1, 1, 0, 0, -1, 3, 2005000]), (20, [3, 6, 8], [50, 0, 1, 22, 0, 16, 4, 12, 5, 2, 0, 26, 15, 0, 22, 2, 0, 25, 0, 0, 1, 1, 1, 2]), (20, [6, 5, 7, 3], [50, 0, 1, 3022, 3, 6, 1, 2, 1, 0, 0, 1, 3, 6, 0, 2, 1, 1, 0, 48, 5, 2, 1, 2, 0, 5, 3, 3, 22, 7, 0, 0, 0]), (24, [0, 3], []), (24, [1, 4], []), (24, [2, 5], [])], [], [(0, -2, 60, [])], [(20, [4, 3], [30, -1, 1, 0, 0, -1, 3, 2005000]), (20, [3, 6, 10], [50, 0, 1, 22, 0, 16, 4, 12, 5, 2, 0, 25, 15, 0, 22, 2, 0, 25, 0, 0, 1, 1, 1, 2]), (20, [6, 5, 3], [50, 1, 2, 2005, 2002, 2022, 3, 6, 1, 2, 1, 0, 0, 1, 3, 6, 0, 2, 1, 1, 0, 48, 5, 6, 3, 2, 2, 2, 2, 5, 0, 5, 3, 2, 22, 7, 0, 0, 0]), (24, [0, 3], []), (24, [1, 4], []), (24, [2, 5], [])], [(10, 8, -1000000000000, -1)], [(7, 9, 0, 4294967296), (1, 4, -4294967296, 0), (2, 5, -4294967296, 0), (4, 1, -4294967296, 0), (5, 2, -4294967296, 0), (6, 7, -4294967296, 0)])
set_option maxHeartbeats 8000000 in
theorem oo_Mo_isInCore_4 {kA : Nat → ClassId} : or_ok PRD kA GG o_Mo_isInCore_4 := by
  refine or_mk fun A ta ws vs hD hth hl => ?_
  intro t0 r0 t1 k1 t2 k2 t3 r3 t4 k4 t5 k5 t6 k6 t7 k7 t8 k8 t9 k9 d0 d1 d2 d3 d4 d5 f0 f1 f2 f3 f4 f5 f6 f7 f8
  replace f0 := shm_2 f0
  replace f1 := shm_126 f1
  replace f2 := shm_127 f2
  replace f3 := shm_269 f3
  replace f4 := shm_1648 f4
  replace f5 := shm_1649 f5
  replace f6 := shm_5 f6
  replace f7 := shm_5 f7
  replace f8 := shm_5 f8
  have q3 : n_v vs 3 = n_v vs 0 := f6.symm
  have q4 : n_v vs 4 = n_v vs 1 := f7.symm
  have q5 : n_v vs 5 = n_v vs 2 := f8.symm
  simp only [q3, q4, q5] at f1 f2 f3 f4 f5
  have cr_0_2 := fdq_10 hD hth r0
  have cr_0_22 := fdq_240 hD hth r0
  have br_0_2_F5_0_0 : w_ei ws (w_ar ws (n_v vs 0) 2) (w_fi ws (n_v vs 0) 5 + 0) = w_el ws (w_ar ws (n_v vs 0) 2) (w_fi ws (n_v vs 0) 5 + 0).toNat := rfl
  have hK_0_22 := elq_148 hD hth cr_0_22
  first | have hCb0_0 := cnt_bd (w_ei ws (w_ar ws (n_v vs 0) 22)) (0) (n := (25)) (by omega) | skip
  obtain ⟨x, ex, hx⟩ := iv_ex (ta := ta) (lo := (-2)) (hi := 60) (z := (-1) + (1 * v_iv (n_v vs 8) + 0)) (by omega) (by omega) (by omega) (by omega)
  have ex2 : v_iv (Value.int x) = (-1) + (1 * v_iv (n_v vs 8) + 0) := ex
  have ex3 : (-2) ≤ v_iv (Value.int x) ∧ v_iv (Value.int x) ≤ 60 := tv_rng hx
  have e_0 : n_v (vs ++ [Value.int x]) 0 = n_v vs 0 := n_v_old (by rw [hl]; decide)
  have e_1 : n_v (vs ++ [Value.int x]) 1 = n_v vs 1 := n_v_old (by rw [hl]; decide)
  have e_2 : n_v (vs ++ [Value.int x]) 2 = n_v vs 2 := n_v_old (by rw [hl]; decide)
  have e_3 : n_v (vs ++ [Value.int x]) 3 = n_v vs 3 := n_v_old (by rw [hl]; decide)
  have e_4 : n_v (vs ++ [Value.int x]) 4 = n_v vs 4 := n_v_old (by rw [hl]; decide)
  have e_5 : n_v (vs ++ [Value.int x]) 5 = n_v vs 5 := n_v_old (by rw [hl]; decide)
  have e_6 : n_v (vs ++ [Value.int x]) 6 = n_v vs 6 := n_v_old (by rw [hl]; decide)
  have e_10 : n_v (vs ++ [Value.int x]) 10 = Value.int x := n_v_new hl
  have nf0 : fc_1 PRD (20, [4, 3], [30, -1, 1, 0, 0, -1, 3, 2005000]) ws (vs ++ [Value.int x]) := by
    refine ⟨nf_inA hl rfl, sgq_269 ?_⟩
    · show 1 * v_iv (n_v (vs ++ [Value.int x]) 4) + ((-1) * w_el ws (w_ar ws (n_v (vs ++ [Value.int x]) 3) 2) (w_fi ws (n_v (vs ++ [Value.int x]) 3) 5 + 0).toNat + 0) ≤ (-1)
      simp only [e_3, e_4, q3, q4]
      omega
  have nf1 : fc_1 PRD (20, [3, 6, 10], [50, 0, 1, 22, 0, 16, 4, 12, 5, 2, 0, 25, 15, 0, 22, 2, 0, 25, 0, 0, 1, 1, 1, 2]) ws (vs ++ [Value.int x]) := by
    refine ⟨nf_inA hl rfl, sgq_1645 ?_⟩
    · show ((25 - cntE (w_ei ws (w_ar ws (n_v (vs ++ [Value.int x]) 3) 22)) (0) (25)) + v_iv (n_v (vs ++ [Value.int x]) 6)) ≤ v_iv (n_v (vs ++ [Value.int x]) 10)
      simp only [e_3, e_6, e_10, q3]
      first | (omega) | (set_option maxHeartbeats 200000 in grind)
  have nf2 : fc_1 PRD (20, [6, 5, 3], [50, 1, 2, 2005, 2002, 2022, 3, 6, 1, 2, 1, 0, 0, 1, 3, 6, 0, 2, 1, 1, 0, 48, 5, 6, 3, 2, 2, 2, 2, 5, 0, 5, 3, 2, 22, 7, 0, 0, 0]) ws (vs ++ [Value.int x]) := by
    refine ⟨nf_inA hl rfl, sgq_1646 ?_⟩
    · show (v_iv (n_v (vs ++ [Value.int x]) 6) = 1) ∨ ((v_iv (n_v (vs ++ [Value.int x]) 5) ≤ 48) ∨ (∀ j0 : Int, 0 ≤ j0 → j0 < w_ei ws (w_ar ws (n_v (vs ++ [Value.int x]) 3) 2) (w_fi ws (n_v (vs ++ [Value.int x]) 3) 5) → (w_ei ws (w_ar ws (n_v (vs ++ [Value.int x]) 3) 22) (j0) ≤ 0)))
      simp only [e_3, e_5, e_6, q3, q5]
      first | (refine or_all2 (fun j0 hj00 hj01 => ?_); (first | have i1 := (all_or2 f5) (j0) hj00 | skip); (first | have i2 := hK_0_22 (j0) hj00 | skip); omega) | (set_option maxHeartbeats 200000 in grind)
  have nf3 : fc_1 PRD (24, [0, 3], []) ws (vs ++ [Value.int x]) := by
    refine ⟨nf_inA hl rfl, sgq_5 ?_⟩
    · show n_v (vs ++ [Value.int x]) 0 = n_v (vs ++ [Value.int x]) 3
      first | rfl | simp only [e_0, e_3, q3, q4, q5]
  have nf4 : fc_1 PRD (24, [1, 4], []) ws (vs ++ [Value.int x]) := by
    refine ⟨nf_inA hl rfl, sgq_5 ?_⟩
    · show n_v (vs ++ [Value.int x]) 1 = n_v (vs ++ [Value.int x]) 4
      first | rfl | simp only [e_1, e_4, q3, q4, q5]
  have nf5 : fc_1 PRD (24, [2, 5], []) ws (vs ++ [Value.int x]) := by
    refine ⟨nf_inA hl rfl, sgq_5 ?_⟩
    · show n_v (vs ++ [Value.int x]) 2 = n_v (vs ++ [Value.int x]) 5
      first | rfl | simp only [e_2, e_5, q3, q4, q5]
  obtain ⟨x0, e0, _, _⟩ := tv_int t8 rfl
  have e1 : v_iv (n_v vs 8) = x0.toInt := by rw [e0]; rfl
  have ho : sy_ofs (vs ++ [Value.int x]) (10, 8, -1000000000000, -1) := by
    refine ⟨x, x0, by rw [List.getElem?_append_right (by rw [hl]; decide), hl]; rfl, ?_, ?_, ?_⟩
    · rw [List.getElem?_append_left (by rw [hl]; decide)]; exact n_v_some (by rw [hl]; decide) e0
    · show x0.toInt + (-1000000000000) ≤ x.toInt; omega
    · show x.toInt ≤ x0.toInt + (-1); omega
  exact ⟨(fun _ h => (by cases h)), [Value.int x], ag_one hx, List.forall_mem_cons.mpr ⟨⟨show (20 : Nat) < 100 from by decide, nf0⟩, List.forall_mem_cons.mpr ⟨⟨show (20 : Nat) < 100 from by decide, nf1⟩, List.forall_mem_cons.mpr ⟨⟨show (20 : Nat) < 100 from by decide, nf2⟩, List.forall_mem_cons.mpr ⟨⟨show (24 : Nat) < 100 from by decide, nf3⟩, List.forall_mem_cons.mpr ⟨⟨show (24 : Nat) < 100 from by decide, nf4⟩, List.forall_mem_cons.mpr ⟨⟨show (24 : Nat) < 100 from by decide, nf5⟩, (fun _ h => (by cases h))⟩⟩⟩⟩⟩⟩, List.forall_mem_cons.mpr ⟨ho, (fun _ h => (by cases h))⟩⟩
def o_Mo_isInCore_5 : or_T := (62, 14, [(0, (2, 0, 0, [165])), (1, (0, 0, 23, [])), (2, (0, 1, 49, [])), (3, (2, 0, 0, [165])), (4, (0, 0, 23, [])), (5, (0, 1, 49, [])), (6, (0, 0, 1, [])), (7, (0, 0, 23, [])), (8, (0, -2, 60, [])), (9, (0, 1, 24, [])), (10, (2, 0, 0, [177])), (11, (0, 1, 1, [])), (12, (0, 0, 0, [])), (13, (0, 0, 0, []))], [(8, [11], [1]), (10, [11, 10, 7], []), (9, [10, 3], [22]), (7, [7, 9], [2]), (20, [9, 3], [30, 0, 1, 0, 0, -1, 3, 2005000]), (20, [9, 3], [30, 0, -1, 0, 0, 1, 3, 2005000]), (20, [4, 3], [30, -1, 1, 0, 0, -1, 3, 2005000]), (20, [3, 6, 8], [50, 0, 1, 22, 0, 16, 4, 12, 5, 2, 0, 26, 15, 0, 22, 2, 0, 25, 0, 0, 1, 1, 1, 2]), (20, [6, 5, 7, 3], [50, 0, 1, 3022, 3, 6, 1, 2, 1, 0, 0, 1, 3, 6, 0, 2, 1, 1, 0, 48, 5, 2, 1, 2, 0, 5, 3, 3, 22, 7, 0, 0, 0]), (24, [0, 3], []), (24, [1, 4], []), (24, [2, 5], [])], [], [(0, -2, 60, [])], [(20, [4, 3], [30, -1, 1, 0, 0, -1, 3, 2005000]), (20, [3, 6, 14], [50, 0, 1, 22, 0, 16, 4, 12, 5, 2, 0, 26, 15, 0, 22, 2, 0, 25, 0, 0, 1, 1, 1, 2]), (20, [6, 5, 7, 3], [50, 0, 1, 3022, 3, 6, 1, 2, 1, 0, 0, 1, 3, 6, 0, 2, 1, 1, 0, 48, 5, 2, 1, 2, 0, 5, 3, 3, 22, 7, 0, 0, 0]), (20, [3, 7], [50, 0, 1, 22, 1, 5, 3, 0, 22, 1, 1, 0, 1]), (23, [12, 13], [0, 1, -1]), (20, [7, 3], [30, -1, 1, 0, 0, -1, 3, 2005000]), (24, [0, 3], []), (24, [1, 4], []), (24, [2, 5], [])], [(14, 8, 0, 0)], [(7, 9, -4294967296, -1), (1, 4, -4294967296, 0), (2, 5, -4294967296, 0), (4, 1, -4294967296, 0), (5, 2, -4294967296, 0), (6, 7, -4294967296, 0)])
set_option maxHeartbeats 8000000 in
theorem oo_Mo_isInCore_5 {kA : Nat → ClassId} : or_ok PRD kA GG o_Mo_isInCore_5 := by
  refine or_mk fun A ta ws vs hD hth hl => ?_
  intro t0 r0 t1 k1 t2 k2 t3 r3 t4 k4 t5 k5 t6 k6 t7 k7 t8 k8 t9 k9 t10 r10 t11 k11 t12 k12 t13 k13 d0 d1 d2 d3 d4 d5 f0 f1 f2 f3 f4 f5 f6 f7 f8 f9 f10 f11
  replace f0 := shm_142 f0
  replace f1 := shm_107 f1
  replace f2 := shm_1026 f2
  replace f3 := shm_6 f3
  replace f4 := shm_126 f4
  replace f5 := shm_127 f5
  replace f6 := shm_269 f6
  replace f7 := shm_1648 f7
  replace f8 := shm_1649 f8
  replace f9 := shm_5 f9
  replace f10 := shm_5 f10
  replace f11 := shm_5 f11
  have q3 : n_v vs 3 = n_v vs 0 := f9.symm
  have q4 : n_v vs 4 = n_v vs 1 := f10.symm
  have q5 : n_v vs 5 = n_v vs 2 := f11.symm
  simp only [q3, q4, q5] at f2 f4 f5 f6 f7 f8
  have cr_0_2 := fdq_10 hD hth r0
  have cr_0_22 := fdq_240 hD hth r0
  have ad_10 : v_ad (n_v vs 10) = w_ar ws (n_v vs 0) 22 := congrArg v_ad f2
  simp only [ad_10] at f1
  have h1 : v_iv (n_v vs 11) = w_ei ws (w_ar ws (n_v vs 0) 22) (v_iv (n_v vs 7)) := f1
  have br_0_22_7_0 : w_ei ws (w_ar ws (n_v vs 0) 22) (v_iv (n_v vs 7)) = w_el ws (w_ar ws (n_v vs 0) 22) (v_iv (n_v vs 7)).toNat := rfl
  have hK_0_22 := elq_148 hD hth cr_0_22
  first | have qi1 := (all_or2 f8) (v_iv (n_v vs 7)) (by omega) (by omega) | skip
  first | have qi2 := hK_0_22 (v_iv (n_v vs 7)) (by omega) (by omega) | skip
  first | have hCb0_0 := cnt_bd (w_ei ws (w_ar ws (n_v vs 0) 22)) (0) (n := (25)) (by omega) | skip
  obtain ⟨x, ex, hx⟩ := iv_ex (ta := ta) (lo := (-2)) (hi := 60) (z := 0 + (1 * v_iv (n_v vs 8) + 0)) (by omega) (by omega) (by omega) (by omega)
  have ex2 : v_iv (Value.int x) = 0 + (1 * v_iv (n_v vs 8) + 0) := ex
  have ex3 : (-2) ≤ v_iv (Value.int x) ∧ v_iv (Value.int x) ≤ 60 := tv_rng hx
  have e_0 : n_v (vs ++ [Value.int x]) 0 = n_v vs 0 := n_v_old (by rw [hl]; decide)
  have e_1 : n_v (vs ++ [Value.int x]) 1 = n_v vs 1 := n_v_old (by rw [hl]; decide)
  have e_2 : n_v (vs ++ [Value.int x]) 2 = n_v vs 2 := n_v_old (by rw [hl]; decide)
  have e_3 : n_v (vs ++ [Value.int x]) 3 = n_v vs 3 := n_v_old (by rw [hl]; decide)
  have e_4 : n_v (vs ++ [Value.int x]) 4 = n_v vs 4 := n_v_old (by rw [hl]; decide)
  have e_5 : n_v (vs ++ [Value.int x]) 5 = n_v vs 5 := n_v_old (by rw [hl]; decide)
  have e_6 : n_v (vs ++ [Value.int x]) 6 = n_v vs 6 := n_v_old (by rw [hl]; decide)
  have e_7 : n_v (vs ++ [Value.int x]) 7 = n_v vs 7 := n_v_old (by rw [hl]; decide)
  have e_12 : n_v (vs ++ [Value.int x]) 12 = n_v vs 12 := n_v_old (by rw [hl]; decide)
  have e_13 : n_v (vs ++ [Value.int x]) 13 = n_v vs 13 := n_v_old (by rw [hl]; decide)
  have e_14 : n_v (vs ++ [Value.int x]) 14 = Value.int x := n_v_new hl
  have nf0 : fc_1 PRD (20, [4, 3], [30, -1, 1, 0, 0, -1, 3, 2005000]) ws (vs ++ [Value.int x]) := by
    refine ⟨nf_inA hl rfl, sgq_269 ?_⟩
    · show 1 * v_iv (n_v (vs ++ [Value.int x]) 4) + ((-1) * w_el ws (w_ar ws (n_v (vs ++ [Value.int x]) 3) 2) (w_fi ws (n_v (vs ++ [Value.int x]) 3) 5 + 0).toNat + 0) ≤ (-1)
      simp only [e_3, e_4, q3, q4]
      omega
  have nf1 : fc_1 PRD (20, [3, 6, 14], [50, 0, 1, 22, 0, 16, 4, 12, 5, 2, 0, 26, 15, 0, 22, 2, 0, 25, 0, 0, 1, 1, 1, 2]) ws (vs ++ [Value.int x]) := by
    refine ⟨nf_inA hl rfl, sgq_1648 ?_⟩
    · show ((26 - cntE (w_ei ws (w_ar ws (n_v (vs ++ [Value.int x]) 3) 22)) (0) (25)) + v_iv (n_v (vs ++ [Value.int x]) 6)) ≤ v_iv (n_v (vs ++ [Value.int x]) 14)
      simp only [e_3, e_6, e_14, q3]
      first | (omega) | (set_option maxHeartbeats 200000 in grind)
  have nf2 : fc_1 PRD (20, [6, 5, 7, 3], [50, 0, 1, 3022, 3, 6, 1, 2, 1, 0, 0, 1, 3, 6, 0, 2, 1, 1, 0, 48, 5, 2, 1, 2, 0, 5, 3, 3, 22, 7, 0, 0, 0]) ws (vs ++ [Value.int x]) := by
    refine ⟨nf_inA hl rfl, sgq_1649 ?_⟩
    · show (v_iv (n_v (vs ++ [Value.int x]) 6) = 1) ∨ ((v_iv (n_v (vs ++ [Value.int x]) 5) ≤ 48) ∨ (∀ j0 : Int, 0 ≤ j0 → j0 < v_iv (n_v (vs ++ [Value.int x]) 7) → (w_ei ws (w_ar ws (n_v (vs ++ [Value.int x]) 3) 22) (j0) ≤ 0)))
      simp only [e_3, e_5, e_6, e_7, q3, q5]
      first | (refine or_all2 (fun j0 hj00 hj01 => ?_); (first | have i1 := (all_or2 f8) (j0) hj00 | skip); (first | have i2 := hK_0_22 (j0) hj00 | skip); omega) | (set_option maxHeartbeats 200000 in grind)
  have nf3 : fc_1 PRD (20, [3, 7], [50, 0, 1, 22, 1, 5, 3, 0, 22, 1, 1, 0, 1]) ws (vs ++ [Value.int x]) := by
    refine ⟨nf_inA hl rfl, sgq_1650 ?_⟩
    · show w_ei ws (w_ar ws (n_v (vs ++ [Value.int x]) 3) 22) (v_iv (n_v (vs ++ [Value.int x]) 7)) = 1
      simp only [e_3, e_7, q3]
      first | (omega) | (set_option maxHeartbeats 200000 in grind)
  have nf4 : fc_1 PRD (23, [12, 13], [0, 1, -1]) ws (vs ++ [Value.int x]) := by
    refine ⟨nf_inA hl rfl, sgq_7 ?_⟩
    · show 1 * v_iv (n_v (vs ++ [Value.int x]) 12) + ((-1) * v_iv (n_v (vs ++ [Value.int x]) 13) + 0) ≤ 0
      simp only [e_12, e_13]
      omega
  have nf5 : fc_1 PRD (20, [7, 3], [30, -1, 1, 0, 0, -1, 3, 2005000]) ws (vs ++ [Value.int x]) := by
    refine ⟨nf_inA hl rfl, sgq_269 ?_⟩
    · show 1 * v_iv (n_v (vs ++ [Value.int x]) 7) + ((-1) * w_el ws (w_ar ws (n_v (vs ++ [Value.int x]) 3) 2) (w_fi ws (n_v (vs ++ [Value.int x]) 3) 5 + 0).toNat + 0) ≤ (-1)
      simp only [e_3, e_7, q3]
      omega
  have nf6 : fc_1 PRD (24, [0, 3], []) ws (vs ++ [Value.int x]) := by
    refine ⟨nf_inA hl rfl, sgq_5 ?_⟩
    · show n_v (vs ++ [Value.int x]) 0 = n_v (vs ++ [Value.int x]) 3
      first | rfl | simp only [e_0, e_3, q3, q4, q5]
  have nf7 : fc_1 PRD (24, [1, 4], []) ws (vs ++ [Value.int x]) := by
    refine ⟨nf_inA hl rfl, sgq_5 ?_⟩
    · show n_v (vs ++ [Value.int x]) 1 = n_v (vs ++ [Value.int x]) 4
      first | rfl | simp only [e_1, e_4, q3, q4, q5]
  have nf8 : fc_1 PRD (24, [2, 5], []) ws (vs ++ [Value.int x]) := by
    refine ⟨nf_inA hl rfl, sgq_5 ?_⟩
    · show n_v (vs ++ [Value.int x]) 2 = n_v (vs ++ [Value.int x]) 5
      first | rfl | simp only [e_2, e_5, q3, q4, q5]
  obtain ⟨x0, e0, _, _⟩ := tv_int t8 rfl
  have e1 : v_iv (n_v vs 8) = x0.toInt := by rw [e0]; rfl
  have ho : sy_ofs (vs ++ [Value.int x]) (14, 8, 0, 0) := by
    refine ⟨x, x0, by rw [List.getElem?_append_right (by rw [hl]; decide), hl]; rfl, ?_, ?_, ?_⟩
    · rw [List.getElem?_append_left (by rw [hl]; decide)]; exact n_v_some (by rw [hl]; decide) e0
    · show x0.toInt + 0 ≤ x.toInt; omega
    · show x.toInt ≤ x0.toInt + 0; omega
  exact ⟨(fun _ h => (by cases h)), [Value.int x], ag_one hx, List.forall_mem_cons.mpr ⟨⟨show (20 : Nat) < 100 from by decide, nf0⟩, List.forall_mem_cons.mpr ⟨⟨show (20 : Nat) < 100 from by decide, nf1⟩, List.forall_mem_cons.mpr ⟨⟨show (20 : Nat) < 100 from by decide, nf2⟩, List.forall_mem_cons.mpr ⟨⟨show (20 : Nat) < 100 from by decide, nf3⟩, List.forall_mem_cons.mpr ⟨⟨show (23 : Nat) < 100 from by decide, nf4⟩, List.forall_mem_cons.mpr ⟨⟨show (20 : Nat) < 100 from by decide, nf5⟩, List.forall_mem_cons.mpr ⟨⟨show (24 : Nat) < 100 from by decide, nf6⟩, List.forall_mem_cons.mpr ⟨⟨show (24 : Nat) < 100 from by decide, nf7⟩, List.forall_mem_cons.mpr ⟨⟨show (24 : Nat) < 100 from by decide, nf8⟩, (fun _ h => (by cases h))⟩⟩⟩⟩⟩⟩⟩⟩⟩, List.forall_mem_cons.mpr ⟨ho, (fun _ h => (by cases h))⟩⟩
def o_Mo_isInCore_6 : or_T := (34, 13, [(0, (2, 0, 0, [165])), (1, (0, 0, 23, [])), (2, (0, 1, 49, [])), (3, (2, 0, 0, [165])), (4, (0, 0, 23, [])), (5, (0, 1, 49, [])), (6, (0, 0, 1, [])), (7, (0, 0, 23, [])), (8, (0, -2, 60, [])), (9, (0, 1, 24, [])), (10, (2, 0, 0, [177])), (11, (0, 0, 0, [])), (12, (0, 1, 24, []))], [(6, [12, 7], [1]), (8, [11], [0]), (10, [11, 10, 7], []), (9, [10, 3], [22]), (7, [7, 9], [2]), (20, [9, 3], [30, 0, 1, 0, 0, -1, 3, 2005000]), (20, [9, 3], [30, 0, -1, 0, 0, 1, 3, 2005000]), (20, [4, 3], [30, -1, 1, 0, 0, -1, 3, 2005000]), (20, [3, 6, 8], [50, 0, 1, 22, 0, 16, 4, 12, 5, 2, 0, 26, 15, 0, 22, 2, 0, 25, 0, 0, 1, 1, 1, 2]), (20, [6, 5, 7, 3], [50, 0, 1, 3022, 3, 6, 1, 2, 1, 0, 0, 1, 3, 6, 0, 2, 1, 1, 0, 48, 5, 2, 1, 2, 0, 5, 3, 3, 22, 7, 0, 0, 0]), (24, [0, 3], []), (24, [1, 4], []), (24, [2, 5], [])], [], [], [(20, [6, 5, 12, 3], [50, 0, 1, 3022, 3, 6, 1, 2, 1, 0, 0, 1, 3, 6, 0, 2, 1, 1, 0, 48, 5, 2, 1, 2, 0, 5, 3, 3, 22, 7, 0, 0, 0])], [], [(12, 7, 1, 1), (12, 9, -4294967296, 0), (7, 9, -4294967296, -1), (1, 4, -4294967296, 0), (2, 5, -4294967296, 0), (4, 1, -4294967296, 0), (5, 2, -4294967296, 0), (6, 7, -4294967296, 0)])
set_option maxHeartbeats 8000000 in
theorem oo_Mo_isInCore_6 {kA : Nat → ClassId} : or_ok PRD kA GG o_Mo_isInCore_6 := by
  refine or_mk fun A ta ws vs hD hth hl => ?_
  intro t0 r0 t1 k1 t2 k2 t3 r3 t4 k4 t5 k5 t6 k6 t7 k7 t8 k8 t9 k9 t10 r10 t11 k11 t12 k12 d0 d1 d2 d3 d4 d5 d6 d7 f0 f1 f2 f3 f4 f5 f6 f7 f8 f9 f10 f11 f12
  replace f0 := shm_4 f0
  replace f1 := shm_192 f1
  replace f2 := shm_107 f2
  replace f3 := shm_1026 f3
  replace f4 := shm_6 f4
  replace f5 := shm_126 f5
  replace f6 := shm_127 f6
  replace f7 := shm_269 f7
  replace f8 := shm_1648 f8
  replace f9 := shm_1649 f9
  replace f10 := shm_5 f10
  replace f11 := shm_5 f11
  replace f12 := shm_5 f12
  have q3 : n_v vs 3 = n_v vs 0 := f10.symm
  have q4 : n_v vs 4 = n_v vs 1 := f11.symm
  have q5 : n_v vs 5 = n_v vs 2 := f12.symm
  simp only [q3, q4, q5] at f3 f5 f6 f7 f8 f9
  have cr_0_2 := fdq_10 hD hth r0
  have cr_0_22 := fdq_240 hD hth r0
  have ad_10 : v_ad (n_v vs 10) = w_ar ws (n_v vs 0) 22 := congrArg v_ad f3
  simp only [ad_10] at f2
  have h2 : v_iv (n_v vs 11) = w_ei ws (w_ar ws (n_v vs 0) 22) (v_iv (n_v vs 7)) := f2
  have br_0_22_7_0 : w_ei ws (w_ar ws (n_v vs 0) 22) (v_iv (n_v vs 7)) = w_el ws (w_ar ws (n_v vs 0) 22) (v_iv (n_v vs 7)).toNat := rfl
  have hK_0_22 := elq_148 hD hth cr_0_22
  first | have qi1 := (all_or2 f9) (v_iv (n_v vs 7)) (by omega) (by omega) | skip
  first | have qi2 := hK_0_22 (v_iv (n_v vs 7)) (by omega) (by omega) | skip
  first | have hCb0_0 := cnt_bd (w_ei ws (w_ar ws (n_v vs 0) 22)) (0) (n := (25)) (by omega) | skip
  have nf0 : fc_1 PRD (20, [6, 5, 12, 3], [50, 0, 1, 3022, 3, 6, 1, 2, 1, 0, 0, 1, 3, 6, 0, 2, 1, 1, 0, 48, 5, 2, 1, 2, 0, 5, 3, 3, 22, 7, 0, 0, 0]) ws (vs) := by
    refine ⟨nf_in hl rfl, sgq_1649 ?_⟩
    · show (v_iv (n_v vs 6) = 1) ∨ ((v_iv (n_v vs 5) ≤ 48) ∨ (∀ j0 : Int, 0 ≤ j0 → j0 < v_iv (n_v vs 12) → (w_ei ws (w_ar ws (n_v vs 3) 22) (j0) ≤ 0)))
      simp only [q3, q5]
      first | (refine or_all2 (fun j0 hj00 hj01 => ?_); (first | have i1 := (all_or2 f9) (j0) hj00 | skip); (first | have i2 := hK_0_22 (j0) hj00 | skip); omega) | (set_option maxHeartbeats 200000 in grind)
  refine ⟨(fun _ h => (by cases h)), [], trivial, ?_, (fun _ h => (by cases h))⟩
  rw [List.append_nil]
  exact List.forall_mem_cons.mpr ⟨⟨show (20 : Nat) < 100 from by decide, nf0⟩, (fun _ h => (by cases h))⟩
def o_Mo_isInCore_7 : or_T := (34, 16, [(0, (2, 0, 0, [165])), (1, (0, 0, 23, [])), (2, (0, 1, 49, [])), (3, (2, 0, 0, [165])), (4, (0, 0, 23, [])), (5, (0, 1, 49, [])), (6, (0, 0, 1, [])), (7, (0, 0, 23, [])), (8, (0, 0, 48, [])), (9, (0, 0, 48, [])), (10, (0, -2, 60, [])), (11, (0, 0, 48, [])), (12, (2, 0, 0, [177])), (13, (0, 0, 0, [])), (14, (0, 1, 1, [])), (15, (0, 1, 24, []))], [(6, [15, 7], [1]), (20, [11, 3], [30, 0, 1, 0, 0, -1, 3, 2005001]), (20, [11, 3], [30, 0, -1, 0, 0, 1, 3, 2005001]), (20, [4, 3], [30, -1, 1, 0, 0, -1, 3, 2005000]), (23, [8, 9], [0, 1, -1]), (20, [7, 3], [30, -1, 1, 0, 0, -1, 3, 2005000]), (24, [0, 3], []), (24, [1, 4], []), (24, [2, 5], []), (100, [12, 7, 13], []), (9, [12, 3], [22]), (7, [8, 5], [2]), (7, [9, 11], [3]), (20, [11, 3], [30, 0, 1, 0, 0, -1, 3, 2005001]), (20, [11, 3], [30, 0, -1, 0, 0, 1, 3, 2005001]), (20, [4, 3], [30, -1, 1, 0, 0, -1, 3, 2005000]), (20, [3, 6, 10], [50, 0, 1, 22, 0, 16, 4, 12, 5, 2, 0, 26, 15, 0, 22, 2, 0, 25, 0, 0, 1, 1, 1, 2]), (20, [6, 5, 7, 3], [50, 0, 1, 3022, 3, 6, 1, 2, 1, 0, 0, 1, 3, 6, 0, 2, 1, 1, 0, 48, 5, 2, 1, 2, 0, 5, 3, 3, 22, 7, 0, 0, 0]), (20, [3, 7], [50, 0, 1, 22, 1, 5, 3, 0, 22, 1, 1, 0, 1]), (23, [8, 9], [0, 1, -1]), (20, [7, 3], [30, -1, 1, 0, 0, -1, 3, 2005000])], [], [(0, -2, 60, [])], [(20, [4, 3], [30, -1, 1, 0, 0, -1, 3, 2005000]), (20, [3, 14, 16], [50, 0, 1, 22, 0, 16, 4, 12, 5, 2, 0, 26, 15, 0, 22, 2, 0, 25, 0, 0, 1, 1, 1, 2]), (20, [14, 5, 15, 3], [50, 0, 1, 3022, 3, 6, 1, 2, 1, 0, 0, 1, 3, 6, 0, 2, 1, 1, 0, 48, 5, 2, 1, 2, 0, 5, 3, 3, 22, 7, 0, 0, 0]), (24, [0, 3], []), (24, [1, 4], []), (24, [2, 5], [])], [(16, 10, 0, 0)], [(15, 7, 1, 1), (8, 5, -4294967296, -1), (9, 11, 0, 4294967296), (1, 4, -4294967296, 0), (2, 5, -4294967296, 0), (4, 1, -4294967296, 0), (5, 2, -4294967296, 0), (6, 7, -4294967296, 0), (8, 9, -4294967296, 0)])
set_option maxHeartbeats 8000000 in
theorem oo_Mo_isInCore_7 {kA : Nat → ClassId} : or_ok PRD kA GG o_Mo_isInCore_7 := by
  refine or_mk fun A ta ws vs hD hth hl => ?_
  intro t0 r0 t1 k1 t2 k2 t3 r3 t4 k4 t5 k5 t6 k6 t7 k7 t8 k8 t9 k9 t10 k10 t11 k11 t12 r12 t13 k13 t14 k14 t15 k15 d0 d1 d2 d3 d4 d5 d6 d7 d8 f0 f1 f2 f3 f4 f5 f6 f7 f8 ta1 w1 le1 s1 f10 f11 f12 f13 f14 f15 f16 f17 f18 f19 f20
  replace f0 := shm_4 f0
  replace f1 := shm_121 f1
  replace f2 := shm_122 f2
  replace f3 := shm_269 f3
  replace f4 := shm_7 f4
  replace f5 := shm_269 f5
  replace f6 := shm_5 f6
  replace f7 := shm_5 f7
  replace f8 := shm_5 f8
  have s1 : (∀ b j, w_el ws b j = if b = v_ad (n_v vs 12) ∧ j = (v_iv (n_v vs 7)).toNat then v_iv (n_v vs 13) else w_el w1 b j) ∧ ∀ b k, w_fd ws b k = w_fd w1 b k := s1.2
  replace f10 := shm_1026 f10
  replace f11 := shm_6 f11
  replace f12 := shm_2 f12
  replace f13 := shm_121 f13
  replace f14 := shm_122 f14
  replace f15 := shm_269 f15
  replace f16 := shm_1648 f16
  replace f17 := shm_1649 f17
  replace f18 := shm_1650 f18
  replace f19 := shm_7 f19
  replace f20 := shm_269 f20
  have q3 : n_v vs 3 = n_v vs 0 := f6.symm
  have q4 : n_v vs 4 = n_v vs 1 := f7.symm
  have q5 : n_v vs 5 = n_v vs 2 := f8.symm
  simp only [q3, q4, q5] at f1 f2 f3 f5 f10 f11 f13 f14 f15 f16 f17 f18 f20
  have ar_0_2_1 : w_ar w1 (n_v vs 0) 2 = w_ar ws (n_v vs 0) 2 := congrArg v_ad (s1.2 _ _).symm
  have cr_0_2 := fdq_10 hD hth r0
  have ar_0_22_1 : w_ar w1 (n_v vs 0) 22 = w_ar ws (n_v vs 0) 22 := congrArg v_ad (s1.2 _ _).symm
  have cr_0_22 := fdq_240 hD hth r0
  have fi_0_5_1 : w_fi w1 (n_v vs 0) 5 = w_fi ws (n_v vs 0) 5 := by show v_iv (w_fd w1 _ _) = v_iv (w_fd ws _ _); rw [s1.2]
  have ad_12 : v_ad (n_v vs 12) = w_ar ws (n_v vs 0) 22 := (congrArg v_ad f10).trans ar_0_22_1
  simp only [ar_0_2_1, ar_0_22_1] at f13 f14 f15 f16 f17 f18 f20
  simp only [fi_0_5_1] at f13 f14 f15 f20
  have fe_0_5_1 : w_fi ws (n_v vs 0) 5 = w_fi w1 (n_v vs 0) 5 := congrArg v_iv (s1.2 _ _)
  have ee_0_2_F5_0_1 : w_el ws (w_ar ws (n_v vs 0) 2) (w_fi ws (n_v vs 0) 5 + 0).toNat = w_el w1 (w_ar ws (n_v vs 0) 2) (w_fi ws (n_v vs 0) 5 + 0).toNat := by rw [s1.1, if_neg (fun e => by have e1 := e.1; rw [← e1] at r12; rw [cr_0_2] at r12; exact absurd (Option.some.inj r12) (by decide))]
  have ee_0_2_F5_1_1 : w_el ws (w_ar ws (n_v vs 0) 2) (w_fi ws (n_v vs 0) 5 + 1).toNat = w_el w1 (w_ar ws (n_v vs 0) 2) (w_fi ws (n_v vs 0) 5 + 1).toNat := by rw [s1.1, if_neg (fun e => by have e1 := e.1; rw [← e1] at r12; rw [cr_0_2] at r12; exact absurd (Option.some.inj r12) (by decide))]
  have hE_0_22_1 : ∀ j : Int, 0 ≤ j → (j = v_iv (n_v vs 7) → w_ei ws (w_ar ws (n_v vs 0) 22) j = v_iv (n_v vs 13)) ∧ (j ≠ v_iv (n_v vs 7) → w_ei ws (w_ar ws (n_v vs 0) 22) j = w_ei w1 (w_ar ws (n_v vs 0) 22) j) := fun j hj => ⟨fun h => by unfold w_ei; rw [s1.1, if_pos ⟨ad_12.symm, by rw [h]⟩], fun h => by unfold w_ei; rw [s1.1, if_neg (fun e => h (by have := e.2; omega))]⟩
  have hK_0_22 := elq_148 hD hth cr_0_22
  first | have qi1 := (hE_0_22_1 (v_iv (n_v vs 7)) (by omega)).1 (by omega) | have qi1 := (hE_0_22_1 (v_iv (n_v vs 7)) (by omega)).2 (by omega) | skip
  first | have qi2 := (all_or2 f17) (v_iv (n_v vs 7)) (by omega) (by omega) | skip
  first | have qi3 := hK_0_22 (v_iv (n_v vs 7)) (by omega) (by omega) | skip
  first | have hC1 := cnt_setD (t := 0) (n := (25)) (f1 := w_ei ws (w_ar ws (n_v vs 0) 22)) (f0 := w_ei w1 (w_ar ws (n_v vs 0) 22)) hE_0_22_1 (by omega) (by omega) | skip
  first | have hCb1_0 := cnt_bd (w_ei ws (w_ar ws (n_v vs 0) 22)) (0) (n := (25)) (by omega) | skip
  first | have hCb1_1 := cnt_bd (w_ei w1 (w_ar ws (n_v vs 0) 22)) (0) (n := (25)) (by omega) | skip
  obtain ⟨x, ex, hx⟩ := iv_ex (ta := ta) (lo := (-2)) (hi := 60) (z := 0 + (1 * v_iv (n_v vs 10) + 0)) (by omega) (by omega) (by omega) (by omega)
  have ex2 : v_iv (Value.int x) = 0 + (1 * v_iv (n_v vs 10) + 0) := ex
  have ex3 : (-2) ≤ v_iv (Value.int x) ∧ v_iv (Value.int x) ≤ 60 := tv_rng hx
  have e_0 : n_v (vs ++ [Value.int x]) 0 = n_v vs 0 := n_v_old (by rw [hl]; decide)
  have e_1 : n_v (vs ++ [Value.int x]) 1 = n_v vs 1 := n_v_old (by rw [hl]; decide)
  have e_2 : n_v (vs ++ [Value.int x]) 2 = n_v vs 2 := n_v_old (by rw [hl]; decide)
  have e_3 : n_v (vs ++ [Value.int x]) 3 = n_v vs 3 := n_v_old (by rw [hl]; decide)
  have e_4 : n_v (vs ++ [Value.int x]) 4 = n_v vs 4 := n_v_old (by rw [hl]; decide)
  have e_5 : n_v (vs ++ [Value.int x]) 5 = n_v vs 5 := n_v_old (by rw [hl]; decide)
  have e_14 : n_v (vs ++ [Value.int x]) 14 = n_v vs 14 := n_v_old (by rw [hl]; decide)
  have e_15 : n_v (vs ++ [Value.int x]) 15 = n_v vs 15 := n_v_old (by rw [hl]; decide)
  have e_16 : n_v (vs ++ [Value.int x]) 16 = Value.int x := n_v_new hl
  have nf0 : fc_1 PRD (20, [4, 3], [30, -1, 1, 0, 0, -1, 3, 2005000]) ws (vs ++ [Value.int x]) := by
    refine ⟨nf_inA hl rfl, sgq_269 ?_⟩
    · show 1 * v_iv (n_v (vs ++ [Value.int x]) 4) + ((-1) * w_el ws (w_ar ws (n_v (vs ++ [Value.int x]) 3) 2) (w_fi ws (n_v (vs ++ [Value.int x]) 3) 5 + 0).toNat + 0) ≤ (-1)
      simp only [e_3, e_4, q3, q4]
      omega
  have nf1 : fc_1 PRD (20, [3, 14, 16], [50, 0, 1, 22, 0, 16, 4, 12, 5, 2, 0, 26, 15, 0, 22, 2, 0, 25, 0, 0, 1, 1, 1, 2]) ws (vs ++ [Value.int x]) := by
    refine ⟨nf_inA hl rfl, sgq_1648 ?_⟩
    · show ((26 - cntE (w_ei ws (w_ar ws (n_v (vs ++ [Value.int x]) 3) 22)) (0) (25)) + v_iv (n_v (vs ++ [Value.int x]) 14)) ≤ v_iv (n_v (vs ++ [Value.int x]) 16)
      simp only [e_3, e_14, e_16, q3]
      first | (omega) | (set_option maxHeartbeats 200000 in grind)
  have nf2 : fc_1 PRD (20, [14, 5, 15, 3], [50, 0, 1, 3022, 3, 6, 1, 2, 1, 0, 0, 1, 3, 6, 0, 2, 1, 1, 0, 48, 5, 2, 1, 2, 0, 5, 3, 3, 22, 7, 0, 0, 0]) ws (vs ++ [Value.int x]) := by
    refine ⟨nf_inA hl rfl, sgq_1649 ?_⟩
    · show (v_iv (n_v (vs ++ [Value.int x]) 14) = 1) ∨ ((v_iv (n_v (vs ++ [Value.int x]) 5) ≤ 48) ∨ (∀ j0 : Int, 0 ≤ j0 → j0 < v_iv (n_v (vs ++ [Value.int x]) 15) → (w_ei ws (w_ar ws (n_v (vs ++ [Value.int x]) 3) 22) (j0) ≤ 0)))
      simp only [e_3, e_5, e_14, e_15, q3, q5]
      first | (refine or_all2 (fun j0 hj00 hj01 => ?_); (rcases Decidable.em (j0 = v_iv (n_v vs 7)) with hc3 | hc3); (have hc3v := (hE_0_22_1 (j0) hj00).1 hc3; (first | have i1 := (all_or2 f17) (j0) hj00 | skip); (first | have i2 := hK_0_22 (j0) hj00 | skip); omega); (have hc3v := (hE_0_22_1 (j0) hj00).2 hc3; (first | have i1 := (all_or2 f17) (j0) hj00 | skip); (first | have i2 := hK_0_22 (j0) hj00 | skip); omega)) | (set_option maxHeartbeats 200000 in grind)
  have nf3 : fc_1 PRD (24, [0, 3], []) ws (vs ++ [Value.int x]) := by
    refine ⟨nf_inA hl rfl, sgq_5 ?_⟩
    · show n_v (vs ++ [Value.int x]) 0 = n_v (vs ++ [Value.int x]) 3
      first | rfl | simp only [e_0, e_3, q3, q4, q5]
  have nf4 : fc_1 PRD (24, [1, 4], []) ws (vs ++ [Value.int x]) := by
    refine ⟨nf_inA hl rfl, sgq_5 ?_⟩
    · show n_v (vs ++ [Value.int x]) 1 = n_v (vs ++ [Value.int x]) 4
      first | rfl | simp only [e_1, e_4, q3, q4, q5]
  have nf5 : fc_1 PRD (24, [2, 5], []) ws (vs ++ [Value.int x]) := by
    refine ⟨nf_inA hl rfl, sgq_5 ?_⟩
    · show n_v (vs ++ [Value.int x]) 2 = n_v (vs ++ [Value.int x]) 5
      first | rfl | simp only [e_2, e_5, q3, q4, q5]
  obtain ⟨x0, e0, _, _⟩ := tv_int t10 rfl
  have e1 : v_iv (n_v vs 10) = x0.toInt := by rw [e0]; rfl
  have ho : sy_ofs (vs ++ [Value.int x]) (16, 10, 0, 0) := by
    refine ⟨x, x0, by rw [List.getElem?_append_right (by rw [hl]; decide), hl]; rfl, ?_, ?_, ?_⟩
    · rw [List.getElem?_append_left (by rw [hl]; decide)]; exact n_v_some (by rw [hl]; decide) e0
    · show x0.toInt + 0 ≤ x.toInt; omega
    · show x.toInt ≤ x0.toInt + 0; omega
  exact ⟨(fun _ h => (by cases h)), [Value.int x], ag_one hx, List.forall_mem_cons.mpr ⟨⟨show (20 : Nat) < 100 from by decide, nf0⟩, List.forall_mem_cons.mpr ⟨⟨show (20 : Nat) < 100 from by decide, nf1⟩, List.forall_mem_cons.mpr ⟨⟨show (20 : Nat) < 100 from by decide, nf2⟩, List.forall_mem_cons.mpr ⟨⟨show (24 : Nat) < 100 from by decide, nf3⟩, List.forall_mem_cons.mpr ⟨⟨show (24 : Nat) < 100 from by decide, nf4⟩, List.forall_mem_cons.mpr ⟨⟨show (24 : Nat) < 100 from by decide, nf5⟩, (fun _ h => (by cases h))⟩⟩⟩⟩⟩⟩, List.forall_mem_cons.mpr ⟨ho, (fun _ h => (by cases h))⟩⟩
def o_Mo_isInCore_8 : or_T := (34, 13, [(0, (2, 0, 0, [165])), (1, (0, 0, 23, [])), (2, (0, 1, 48, [])), (3, (2, 0, 0, [165])), (4, (0, 0, 23, [])), (5, (0, 1, 48, [])), (6, (0, 0, 1, [])), (7, (0, 0, 23, [])), (8, (0, 1, 48, [])), (9, (0, 1, 48, [])), (10, (0, -2, 60, [])), (11, (0, 0, 48, [])), (12, (0, 1, 24, []))], [(6, [12, 7], [1]), (7, [8, 5], [3]), (7, [9, 11], [3]), (20, [11, 3], [30, 0, 1, 0, 0, -1, 3, 2005001]), (20, [11, 3], [30, 0, -1, 0, 0, 1, 3, 2005001]), (20, [4, 3], [30, -1, 1, 0, 0, -1, 3, 2005000]), (20, [3, 6, 10], [50, 0, 1, 22, 0, 16, 4, 12, 5, 2, 0, 26, 15, 0, 22, 2, 0, 25, 0, 0, 1, 1, 1, 2]), (20, [6, 5, 7, 3], [50, 0, 1, 3022, 3, 6, 1, 2, 1, 0, 0, 1, 3, 6, 0, 2, 1, 1, 0, 48, 5, 2, 1, 2, 0, 5, 3, 3, 22, 7, 0, 0, 0]), (20, [3, 7], [50, 0, 1, 22, 1, 5, 3, 0, 22, 1, 1, 0, 1]), (23, [8, 9], [0, 1, -1]), (20, [7, 3], [30, -1, 1, 0, 0, -1, 3, 2005000]), (24, [0, 3], []), (24, [1, 4], []), (24, [2, 5], [])], [], [(0, -2, 60, [])], [(20, [4, 3], [30, -1, 1, 0, 0, -1, 3, 2005000]), (20, [3, 6, 13], [50, 0, 1, 22, 0, 16, 4, 12, 5, 2, 0, 26, 15, 0, 22, 2, 0, 25, 0, 0, 1, 1, 1, 2]), (20, [6, 5, 12, 3], [50, 0, 1, 3022, 3, 6, 1, 2, 1, 0, 0, 1, 3, 6, 0, 2, 1, 1, 0, 48, 5, 2, 1, 2, 0, 5, 3, 3, 22, 7, 0, 0, 0]), (24, [0, 3], []), (24, [1, 4], []), (24, [2, 5], [])], [(13, 10, 0, 0)], [(12, 7, 1, 1), (8, 5, 0, 4294967296), (9, 11, 0, 4294967296), (1, 4, -4294967296, 0), (2, 5, -4294967296, 0), (4, 1, -4294967296, 0), (5, 2, -4294967296, 0), (6, 7, -4294967296, 0), (8, 9, -4294967296, 0)])
set_option maxHeartbeats 8000000 in
theorem oo_Mo_isInCore_8 {kA : Nat → ClassId} : or_ok PRD kA GG o_Mo_isInCore_8 := by
  refine or_mk fun A ta ws vs hD hth hl => ?_
  intro t0 r0 t1 k1 t2 k2 t3 r3 t4 k4 t5 k5 t6 k6 t7 k7 t8 k8 t9 k9 t10 k10 t11 k11 t12 k12 d0 d1 d2 d3 d4 d5 d6 d7 d8 f0 f1 f2 f3 f4 f5 f6 f7 f8 f9 f10 f11 f12 f13
  replace f0 := shm_4 f0
  replace f1 := shm_2 f1
  replace f2 := shm_2 f2
  replace f3 := shm_121 f3
  replace f4 := shm_122 f4
  replace f5 := shm_269 f5
  replace f6 := shm_1648 f6
  replace f7 := shm_1649 f7
  replace f8 := shm_1650 f8
  replace f9 := shm_7 f9
  replace f10 := shm_269 f10
  replace f11 := shm_5 f11
  replace f12 := shm_5 f12
  replace f13 := shm_5 f13
  have q3 : n_v vs 3 = n_v vs 0 := f11.symm
  have q4 : n_v vs 4 = n_v vs 1 := f12.symm
  have q5 : n_v vs 5 = n_v vs 2 := f13.symm
  simp only [q5, q3, q4] at f1 f3 f4 f5 f6 f7 f8 f10
  have cr_0_2 := fdq_10 hD hth r0
  have cr_0_22 := fdq_240 hD hth r0
  have hK_0_22 := elq_148 hD hth cr_0_22
  first | have hCb0_0 := cnt_bd (w_ei ws (w_ar ws (n_v vs 0) 22)) (0) (n := (25)) (by omega) | skip
  obtain ⟨x, ex, hx⟩ := iv_ex (ta := ta) (lo := (-2)) (hi := 60) (z := 0 + (1 * v_iv (n_v vs 10) + 0)) (by omega) (by omega) (by omega) (by omega)
  have ex2 : v_iv (Value.int x) = 0 + (1 * v_iv (n_v vs 10) + 0) := ex
  have ex3 : (-2) ≤ v_iv (Value.int x) ∧ v_iv (Value.int x) ≤ 60 := tv_rng hx
  have e_0 : n_v (vs ++ [Value.int x]) 0 = n_v vs 0 := n_v_old (by rw [hl]; decide)
  have e_1 : n_v (vs ++ [Value.int x]) 1 = n_v vs 1 := n_v_old (by rw [hl]; decide)
  have e_2 : n_v (vs ++ [Value.int x]) 2 = n_v vs 2 := n_v_old (by rw [hl]; decide)
  have e_3 : n_v (vs ++ [Value.int x]) 3 = n_v vs 3 := n_v_old (by rw [hl]; decide)
  have e_4 : n_v (vs ++ [Value.int x]) 4 = n_v vs 4 := n_v_old (by rw [hl]; decide)
  have e_5 : n_v (vs ++ [Value.int x]) 5 = n_v vs 5 := n_v_old (by rw [hl]; decide)
  have e_6 : n_v (vs ++ [Value.int x]) 6 = n_v vs 6 := n_v_old (by rw [hl]; decide)
  have e_12 : n_v (vs ++ [Value.int x]) 12 = n_v vs 12 := n_v_old (by rw [hl]; decide)
  have e_13 : n_v (vs ++ [Value.int x]) 13 = Value.int x := n_v_new hl
  have nf0 : fc_1 PRD (20, [4, 3], [30, -1, 1, 0, 0, -1, 3, 2005000]) ws (vs ++ [Value.int x]) := by
    refine ⟨nf_inA hl rfl, sgq_269 ?_⟩
    · show 1 * v_iv (n_v (vs ++ [Value.int x]) 4) + ((-1) * w_el ws (w_ar ws (n_v (vs ++ [Value.int x]) 3) 2) (w_fi ws (n_v (vs ++ [Value.int x]) 3) 5 + 0).toNat + 0) ≤ (-1)
      simp only [e_3, e_4, q3, q4]
      omega
  have nf1 : fc_1 PRD (20, [3, 6, 13], [50, 0, 1, 22, 0, 16, 4, 12, 5, 2, 0, 26, 15, 0, 22, 2, 0, 25, 0, 0, 1, 1, 1, 2]) ws (vs ++ [Value.int x]) := by
    refine ⟨nf_inA hl rfl, sgq_1648 ?_⟩
    · show ((26 - cntE (w_ei ws (w_ar ws (n_v (vs ++ [Value.int x]) 3) 22)) (0) (25)) + v_iv (n_v (vs ++ [Value.int x]) 6)) ≤ v_iv (n_v (vs ++ [Value.int x]) 13)
      simp only [e_3, e_6, e_13, q3]
      first | (omega) | (set_option maxHeartbeats 200000 in grind)
  have nf2 : fc_1 PRD (20, [6, 5, 12, 3], [50, 0, 1, 3022, 3, 6, 1, 2, 1, 0, 0, 1, 3, 6, 0, 2, 1, 1, 0, 48, 5, 2, 1, 2, 0, 5, 3, 3, 22, 7, 0, 0, 0]) ws (vs ++ [Value.int x]) := by
    refine ⟨nf_inA hl rfl, sgq_1649 ?_⟩
    · show (v_iv (n_v (vs ++ [Value.int x]) 6) = 1) ∨ ((v_iv (n_v (vs ++ [Value.int x]) 5) ≤ 48) ∨ (∀ j0 : Int, 0 ≤ j0 → j0 < v_iv (n_v (vs ++ [Value.int x]) 12) → (w_ei ws (w_ar ws (n_v (vs ++ [Value.int x]) 3) 22) (j0) ≤ 0)))
      simp only [e_3, e_5, e_6, e_12, q3, q5]
      first | (refine or_all2 (fun j0 hj00 hj01 => ?_); (first | have i1 := (all_or2 f7) (j0) hj00 | skip); (first | have i2 := hK_0_22 (j0) hj00 | skip); omega) | (set_option maxHeartbeats 200000 in grind)
  have nf3 : fc_1 PRD (24, [0, 3], []) ws (vs ++ [Value.int x]) := by
    refine ⟨nf_inA hl rfl, sgq_5 ?_⟩
    · show n_v (vs ++ [Value.int x]) 0 = n_v (vs ++ [Value.int x]) 3
      first | rfl | simp only [e_0, e_3, q3, q4, q5]
  have nf4 : fc_1 PRD (24, [1, 4], []) ws (vs ++ [Value.int x]) := by
    refine ⟨nf_inA hl rfl, sgq_5 ?_⟩
    · show n_v (vs ++ [Value.int x]) 1 = n_v (vs ++ [Value.int x]) 4
      first | rfl | simp only [e_1, e_4, q3, q4, q5]
  have nf5 : fc_1 PRD (24, [2, 5], []) ws (vs ++ [Value.int x]) := by
    refine ⟨nf_inA hl rfl, sgq_5 ?_⟩
    · show n_v (vs ++ [Value.int x]) 2 = n_v (vs ++ [Value.int x]) 5
      first | rfl | simp only [e_2, e_5, q3, q4, q5]
  obtain ⟨x0, e0, _, _⟩ := tv_int t10 rfl
  have e1 : v_iv (n_v vs 10) = x0.toInt := by rw [e0]; rfl
  have ho : sy_ofs (vs ++ [Value.int x]) (13, 10, 0, 0) := by
    refine ⟨x, x0, by rw [List.getElem?_append_right (by rw [hl]; decide), hl]; rfl, ?_, ?_, ?_⟩
    · rw [List.getElem?_append_left (by rw [hl]; decide)]; exact n_v_some (by rw [hl]; decide) e0
    · show x0.toInt + 0 ≤ x.toInt; omega
    · show x.toInt ≤ x0.toInt + 0; omega
  exact ⟨(fun _ h => (by cases h)), [Value.int x], ag_one hx, List.forall_mem_cons.mpr ⟨⟨show (20 : Nat) < 100 from by decide, nf0⟩, List.forall_mem_cons.mpr ⟨⟨show (20 : Nat) < 100 from by decide, nf1⟩, List.forall_mem_cons.mpr ⟨⟨show (20 : Nat) < 100 from by decide, nf2⟩, List.forall_mem_cons.mpr ⟨⟨show (24 : Nat) < 100 from by decide, nf3⟩, List.forall_mem_cons.mpr ⟨⟨show (24 : Nat) < 100 from by decide, nf4⟩, List.forall_mem_cons.mpr ⟨⟨show (24 : Nat) < 100 from by decide, nf5⟩, (fun _ h => (by cases h))⟩⟩⟩⟩⟩⟩, List.forall_mem_cons.mpr ⟨ho, (fun _ h => (by cases h))⟩⟩
def o_Mo_isInCore_9 : or_T := (62, 19, [(0, (2, 0, 0, [165])), (1, (0, 0, 23, [])), (2, (0, 1, 49, [])), (3, (2, 0, 0, [165])), (4, (0, 0, 23, [])), (5, (0, 1, 49, [])), (6, (0, 0, 1, [])), (7, (0, 0, 23, [])), (8, (0, 0, 47, [])), (9, (0, 0, 47, [])), (10, (0, -2, 60, [])), (11, (0, 1, 48, [])), (12, (0, 1, 1, [])), (13, (2, 0, 0, [177])), (14, (0, 0, 23, [])), (15, (0, 0, 0, [])), (16, (0, 0, 0, [])), (17, (0, 0, 47, [])), (18, (0, 1, 48, []))], [(6, [18, 9], [1]), (1, [17, 8, 16], []), (8, [15], [0]), (10, [15, 13, 14], []), (9, [13, 3], [22]), (8, [12], [1]), (20, [3, 9, 7, 12], [60, 1, 1, 204, 5, 2]), (7, [9, 11], [2]), (20, [11, 3], [30, 0, 1, 0, 0, -1, 3, 2005001]), (20, [11, 3], [30, 0, -1, 0, 0, 1, 3, 2005001]), (20, [4, 3], [30, -1, 1, 0, 0, -1, 3, 2005000]), (20, [3, 6, 10], [50, 0, 1, 22, 0, 16, 4, 12, 5, 2, 0, 26, 15, 0, 22, 2, 0, 25, 0, 0, 1, 1, 1, 2]), (20, [6, 5, 7, 3], [50, 0, 1, 3022, 3, 6, 1, 2, 1, 0, 0, 1, 3, 6, 0, 2, 1, 1, 0, 48, 5, 2, 1, 2, 0, 5, 3, 3, 22, 7, 0, 0, 0]), (20, [3, 7], [50, 0, 1, 22, 1, 5, 3, 0, 22, 1, 1, 0, 1]), (23, [8, 9], [0, 1, -1]), (20, [7, 3], [30, -1, 1, 0, 0, -1, 3, 2005000]), (24, [0, 3], []), (24, [1, 4], []), (24, [2, 5], [])], [], [], [(23, [17, 18], [0, 1, -1])], [], [(18, 9, 1, 1), (18, 11, -4294967296, 0), (17, 8, 0, 0), (17, 9, -4294967296, 0), (9, 11, -4294967296, -1), (1, 4, -4294967296, 0), (2, 5, -4294967296, 0), (4, 1, -4294967296, 0), (5, 2, -4294967296, 0), (6, 7, -4294967296, 0), (8, 9, -4294967296, 0)])
set_option maxHeartbeats 8000000 in
theorem oo_Mo_isInCore_9 {kA : Nat → ClassId} : or_ok PRD kA GG o_Mo_isInCore_9 := by
  refine or_mk fun A ta ws vs hD hth hl => ?_
  intro t0 r0 t1 k1 t2 k2 t3 r3 t4 k4 t5 k5 t6 k6 t7 k7 t8 k8 t9 k9 t10 k10 t11 k11 t12 k12 t13 r13 t14 k14 t15 k15 t16 k16 t17 k17 t18 k18 d0 d1 d2 d3 d4 d5 d6 d7 d8 d9 d10 f0 f1 f2 f3 f4 f5 f6 f7 f8 f9 f10 f11 f12 f13 f14 f15 f16 f17 f18
  replace f0 := shm_4 f0
  replace f1 := shm_12 f1
  replace f2 := shm_192 f2
  replace f3 := shm_107 f3
  replace f4 := shm_1026 f4
  replace f5 := shm_142 f5
  replace f6 := shm_1143 f6
  replace f7 := shm_6 f7
  replace f8 := shm_121 f8
  replace f9 := shm_122 f9
  replace f10 := shm_269 f10
  replace f11 := shm_1648 f11
  replace f12 := shm_1649 f12
  replace f13 := shm_1650 f13
  replace f14 := shm_7 f14
  replace f15 := shm_269 f15
  replace f16 := shm_5 f16
  replace f17 := shm_5 f17
  replace f18 := shm_5 f18
  have q3 : n_v vs 3 = n_v vs 0 := f16.symm
  have q4 : n_v vs 4 = n_v vs 1 := f17.symm
  have q5 : n_v vs 5 = n_v vs 2 := f18.symm
  simp only [q3, q4, q5] at f4 f6 f8 f9 f10 f11 f12 f13 f15
  have cr_0_2 := fdq_10 hD hth r0
  have cr_0_22 := fdq_240 hD hth r0
  have ad_13 : v_ad (n_v vs 13) = w_ar ws (n_v vs 0) 22 := congrArg v_ad f4
  simp only [ad_13] at f3
  have h3 : v_iv (n_v vs 15) = w_ei ws (w_ar ws (n_v vs 0) 22) (v_iv (n_v vs 14)) := f3
  have br_0_2_F5_0_0 : w_ei ws (w_ar ws (n_v vs 0) 2) (w_fi ws (n_v vs 0) 5 + 0) = w_el ws (w_ar ws (n_v vs 0) 2) (w_fi ws (n_v vs 0) 5 + 0).toNat := rfl
  have br_0_2_F5_1_0 : w_ei ws (w_ar ws (n_v vs 0) 2) (w_fi ws (n_v vs 0) 5 + 1) = w_el ws (w_ar ws (n_v vs 0) 2) (w_fi ws (n_v vs 0) 5 + 1).toNat := rfl
  have br_0_22_14_0 : w_ei ws (w_ar ws (n_v vs 0) 22) (v_iv (n_v vs 14)) = w_el ws (w_ar ws (n_v vs 0) 22) (v_iv (n_v vs 14)).toNat := rfl
  have hK_0_22 := elq_148 hD hth cr_0_22
  first | have qi1 := (all_or2 f12) (v_iv (n_v vs 14)) (by omega) (by omega) | skip
  first | have qi2 := hK_0_22 (v_iv (n_v vs 14)) (by omega) (by omega) | skip
  first | have hCb0_0 := cnt_bd (w_ei ws (w_ar ws (n_v vs 0) 22)) (0) (n := (25)) (by omega) | skip
  have nf0 : fc_1 PRD (23, [17, 18], [0, 1, -1]) ws (vs) := by
    refine ⟨nf_in hl rfl, sgq_7 ?_⟩
    · show 1 * v_iv (n_v vs 17) + ((-1) * v_iv (n_v vs 18) + 0) ≤ 0
      omega
  refine ⟨(fun _ h => (by cases h)), [], trivial, ?_, (fun _ h => (by cases h))⟩
  rw [List.append_nil]
  exact List.forall_mem_cons.mpr ⟨⟨show (23 : Nat) < 100 from by decide, nf0⟩, (fun _ h => (by cases h))⟩
def o_Mo_isInCore_10 : or_T := (62, 19, [(0, (2, 0, 0, [165])), (1, (0, 0, 23, [])), (2, (0, 1, 49, [])), (3, (2, 0, 0, [165])), (4, (0, 0, 23, [])), (5, (0, 1, 49, [])), (6, (0, 0, 1, [])), (7, (0, 0, 23, [])), (8, (0, 0, 47, [])), (9, (0, 0, 47, [])), (10, (0, -2, 60, [])), (11, (0, 1, 48, [])), (12, (0, 1, 1, [])), (13, (2, 0, 0, [177])), (14, (0, 0, 23, [])), (15, (0, 1, 1, [])), (16, (0, 1, 1, [])), (17, (0, 1, 48, [])), (18, (0, 1, 48, []))], [(6, [18, 9], [1]), (1, [17, 8, 16], []), (8, [15], [1]), (10, [15, 13, 14], []), (9, [13, 3], [22]), (8, [12], [1]), (20, [3, 9, 7, 12], [60, 1, 1, 204, 5, 2]), (7, [9, 11], [2]), (20, [11, 3], [30, 0, 1, 0, 0, -1, 3, 2005001]), (20, [11, 3], [30, 0, -1, 0, 0, 1, 3, 2005001]), (20, [4, 3], [30, -1, 1, 0, 0, -1, 3, 2005000]), (20, [3, 6, 10], [50, 0, 1, 22, 0, 16, 4, 12, 5, 2, 0, 26, 15, 0, 22, 2, 0, 25, 0, 0, 1, 1, 1, 2]), (20, [6, 5, 7, 3], [50, 0, 1, 3022, 3, 6, 1, 2, 1, 0, 0, 1, 3, 6, 0, 2, 1, 1, 0, 48, 5, 2, 1, 2, 0, 5, 3, 3, 22, 7, 0, 0, 0]), (20, [3, 7], [50, 0, 1, 22, 1, 5, 3, 0, 22, 1, 1, 0, 1]), (23, [8, 9], [0, 1, -1]), (20, [7, 3], [30, -1, 1, 0, 0, -1, 3, 2005000]), (24, [0, 3], []), (24, [1, 4], []), (24, [2, 5], [])], [], [], [(23, [17, 18], [0, 1, -1])], [], [(18, 9, 1, 1), (18, 11, -4294967296, 0), (17, 8, 1, 1), (17, 9, -4294967296, 1), (9, 11, -4294967296, -1), (1, 4, -4294967296, 0), (2, 5, -4294967296, 0), (4, 1, -4294967296, 0), (5, 2, -4294967296, 0), (6, 7, -4294967296, 0), (8, 9, -4294967296, 0)])
set_option maxHeartbeats 8000000 in
theorem oo_Mo_isInCore_10 {kA : Nat → ClassId} : or_ok PRD kA GG o_Mo_isInCore_10 := by
  refine or_mk fun A ta ws vs hD hth hl => ?_
  intro t0 r0 t1 k1 t2 k2 t3 r3 t4 k4 t5 k5 t6 k6 t7 k7 t8 k8 t9 k9 t10 k10 t11 k11 t12 k12 t13 r13 t14 k14 t15 k15 t16 k16 t17 k17 t18 k18 d0 d1 d2 d3 d4 d5 d6 d7 d8 d9 d10 f0 f1 f2 f3 f4 f5 f6 f7 f8 f9 f10 f11 f12 f13 f14 f15 f16 f17 f18
  replace f0 := shm_4 f0
  replace f1 := shm_12 f1
  replace f2 := shm_142 f2
  replace f3 := shm_107 f3
  replace f4 := shm_1026 f4
  replace f5 := shm_142 f5
  replace f6 := shm_1143 f6
  replace f7 := shm_6 f7
  replace f8 := shm_121 f8
  replace f9 := shm_122 f9
  replace f10 := shm_269 f10
  replace f11 := shm_1648 f11
  replace f12 := shm_1649 f12
  replace f13 := shm_1650 f13
  replace f14 := shm_7 f14
  replace f15 := shm_269 f15
  replace f16 := shm_5 f16
  replace f17 := shm_5 f17
  replace f18 := shm_5 f18
  have q3 : n_v vs 3 = n_v vs 0 := f16.symm
  have q4 : n_v vs 4 = n_v vs 1 := f17.symm
  have q5 : n_v vs 5 = n_v vs 2 := f18.symm
  simp only [q3, q4, q5] at f4 f6 f8 f9 f10 f11 f12 f13 f15
  have cr_0_2 := fdq_10 hD hth r0
  have cr_0_22 := fdq_240 hD hth r0
  have ad_13 : v_ad (n_v vs 13) = w_ar ws (n_v vs 0) 22 := congrArg v_ad f4
  simp only [ad_13] at f3
  have h3 : v_iv (n_v vs 15) = w_ei ws (w_ar ws (n_v vs 0) 22) (v_iv (n_v vs 14)) := f3
  have br_0_2_F5_0_0 : w_ei ws (w_ar ws (n_v vs 0) 2) (w_fi ws (n_v vs 0) 5 + 0) = w_el ws (w_ar ws (n_v vs 0) 2) (w_fi ws (n_v vs 0) 5 + 0).toNat := rfl
  have br_0_2_F5_1_0 : w_ei ws (w_ar ws (n_v vs 0) 2) (w_fi ws (n_v vs 0) 5 + 1) = w_el ws (w_ar ws (n_v vs 0) 2) (w_fi ws (n_v vs 0) 5 + 1).toNat := rfl
  have br_0_22_14_0 : w_ei ws (w_ar ws (n_v vs 0) 22) (v_iv (n_v vs 14)) = w_el ws (w_ar ws (n_v vs 0) 22) (v_iv (n_v vs 14)).toNat := rfl
  have hK_0_22 := elq_148 hD hth cr_0_22
  first | have qi1 := (all_or2 f12) (v_iv (n_v vs 14)) (by omega) (by omega) | skip
  first | have qi2 := hK_0_22 (v_iv (n_v vs 14)) (by omega) (by omega) | skip
  first | have hCb0_0 := cnt_bd (w_ei ws (w_ar ws (n_v vs 0) 22)) (0) (n := (25)) (by omega) | skip
  have nf0 : fc_1 PRD (23, [17, 18], [0, 1, -1]) ws (vs) := by
    refine ⟨nf_in hl rfl, sgq_7 ?_⟩
    · show 1 * v_iv (n_v vs 17) + ((-1) * v_iv (n_v vs 18) + 0) ≤ 0
      omega
  refine ⟨(fun _ h => (by cases h)), [], trivial, ?_, (fun _ h => (by cases h))⟩
  rw [List.append_nil]
  exact List.forall_mem_cons.mpr ⟨⟨show (23 : Nat) < 100 from by decide, nf0⟩, (fun _ h => (by cases h))⟩
def o_Mo_isInCore_11 : or_T := (62, 16, [(0, (2, 0, 0, [165])), (1, (0, 0, 23, [])), (2, (0, 1, 49, [])), (3, (2, 0, 0, [165])), (4, (0, 0, 23, [])), (5, (0, 1, 49, [])), (6, (0, 0, 1, [])), (7, (0, 0, 23, [])), (8, (0, 0, 47, [])), (9, (0, 0, 47, [])), (10, (0, -2, 60, [])), (11, (0, 1, 48, [])), (12, (0, 0, 0, [])), (13, (0, 0, 0, [])), (14, (0, 0, 47, [])), (15, (0, 1, 48, []))], [(6, [15, 9], [1]), (1, [14, 8, 13], []), (8, [12], [0]), (20, [3, 9, 7, 12], [60, 1, 1, 204, 5, 2]), (7, [9, 11], [2]), (20, [11, 3], [30, 0, 1, 0, 0, -1, 3, 2005001]), (20, [11, 3], [30, 0, -1, 0, 0, 1, 3, 2005001]), (20, [4, 3], [30, -1, 1, 0, 0, -1, 3, 2005000]), (20, [3, 6, 10], [50, 0, 1, 22, 0, 16, 4, 12, 5, 2, 0, 26, 15, 0, 22, 2, 0, 25, 0, 0, 1, 1, 1, 2]), (20, [6, 5, 7, 3], [50, 0, 1, 3022, 3, 6, 1, 2, 1, 0, 0, 1, 3, 6, 0, 2, 1, 1, 0, 48, 5, 2, 1, 2, 0, 5, 3, 3, 22, 7, 0, 0, 0]), (20, [3, 7], [50, 0, 1, 22, 1, 5, 3, 0, 22, 1, 1, 0, 1]), (23, [8, 9], [0, 1, -1]), (20, [7, 3], [30, -1, 1, 0, 0, -1, 3, 2005000]), (24, [0, 3], []), (24, [1, 4], []), (24, [2, 5], [])], [], [], [(23, [14, 15], [0, 1, -1])], [], [(15, 9, 1, 1), (15, 11, -4294967296, 0), (14, 8, 0, 0), (14, 9, -4294967296, 0), (9, 11, -4294967296, -1), (1, 4, -4294967296, 0), (2, 5, -4294967296, 0), (4, 1, -4294967296, 0), (5, 2, -4294967296, 0), (6, 7, -4294967296, 0), (8, 9, -4294967296, 0)])
set_option maxHeartbeats 8000000 in
theorem oo_Mo_isInCore_11 {kA : Nat → ClassId} : or_ok PRD kA GG o_Mo_isInCore_11 := by
  refine or_mk fun A ta ws vs hD hth hl => ?_
  intro t0 r0 t1 k1 t2 k2 t3 r3 t4 k4 t5 k5 t6 k6 t7 k7 t8 k8 t9 k9 t10 k10 t11 k11 t12 k12 t13 k13 t14 k14 t15 k15 d0 d1 d2 d3 d4 d5 d6 d7 d8 d9 d10 f0 f1 f2 f3 f4 f5 f6 f7 f8 f9 f10 f11 f12 f13 f14 f15
  replace f0 := shm_4 f0
  replace f1 := shm_12 f1
  replace f2 := shm_192 f2
  replace f3 := shm_1143 f3
  replace f4 := shm_6 f4
  replace f5 := shm_121 f5
  replace f6 := shm_122 f6
  replace f7 := shm_269 f7
  replace f8 := shm_1648 f8
  replace f9 := shm_1649 f9
  replace f10 := shm_1650 f10
  replace f11 := shm_7 f11
  replace f12 := shm_269 f12
  replace f13 := shm_5 f13
  replace f14 := shm_5 f14
  replace f15 := shm_5 f15
  have q3 : n_v vs 3 = n_v vs 0 := f13.symm
  have q4 : n_v vs 4 = n_v vs 1 := f14.symm
  have q5 : n_v vs 5 = n_v vs 2 := f15.symm
  simp only [q3, q4, q5] at f3 f5 f6 f7 f8 f9 f10 f12
  have cr_0_2 := fdq_10 hD hth r0
  have cr_0_22 := fdq_240 hD hth r0
  have br_0_2_F5_0_0 : w_ei ws (w_ar ws (n_v vs 0) 2) (w_fi ws (n_v vs 0) 5 + 0) = w_el ws (w_ar ws (n_v vs 0) 2) (w_fi ws (n_v vs 0) 5 + 0).toNat := rfl
  have br_0_2_F5_1_0 : w_ei ws (w_ar ws (n_v vs 0) 2) (w_fi ws (n_v vs 0) 5 + 1) = w_el ws (w_ar ws (n_v vs 0) 2) (w_fi ws (n_v vs 0) 5 + 1).toNat := rfl
  have hK_0_22 := elq_148 hD hth cr_0_22
  first | have hCb0_0 := cnt_bd (w_ei ws (w_ar ws (n_v vs 0) 22)) (0) (n := (25)) (by omega) | skip
  have nf0 : fc_1 PRD (23, [14, 15], [0, 1, -1]) ws (vs) := by
    refine ⟨nf_in hl rfl, sgq_7 ?_⟩
    · show 1 * v_iv (n_v vs 14) + ((-1) * v_iv (n_v vs 15) + 0) ≤ 0
      omega
  refine ⟨(fun _ h => (by cases h)), [], trivial, ?_, (fun _ h => (by cases h))⟩
  rw [List.append_nil]
  exact List.forall_mem_cons.mpr ⟨⟨show (23 : Nat) < 100 from by decide, nf0⟩, (fun _ h => (by cases h))⟩
def n_Mo_isInCore_an : List an_T := [(2, [(0, (2, 0, 0, [165])), (1, (0, 0, 23, [])), (2, (0, 1, 49, [])), (3, (0, 0, 24, []))], [], (0, 0), [(0, 0, 99998), (1, 6, 24), (0, 0, 100000), (0, 0, 0), (0, 0, 0), (0, 0, 0), (0, 0, 0)], [(1, 4, (Int.negSucc 999999999999), 0), (2, 5, (Int.negSucc 999999999999), 0), (4, 1, (Int.negSucc 999999999999), 0), (5, 2, (Int.negSucc 999999999999), 0)], [], [(2, 0, 0, [165]), (0, 0, 23, []), (0, 1, 49, [])], 0, [], [(20, [4, 3], [30, (Int.negSucc 0), 1, 0, 0, (Int.negSucc 0), 3, 2005000]), (24, [0, 3], []), (24, [1, 4], []), (24, [2, 5], [])]), (25, [(0, (2, 0, 0, [165])), (1, (0, 0, 23, [])), (2, (0, 1, 49, [])), (3, (0, 0, 1, []))], [], (0, 0), [(0, 0, 99975), (2, 7, (Int.negSucc 1)), (0, 0, 100000), (0, 0, 0), (0, 0, 0), (0, 0, 0), (0, 0, 0)], [(1, 4, (Int.negSucc 999999999999), 0), (2, 5, (Int.negSucc 999999999999), 0), (4, 1, (Int.negSucc 999999999999), 0), (5, 2, (Int.negSucc 999999999999), 0)], [], [(2, 0, 0, [165]), (0, 0, 23, []), (0, 1, 49, [])], 0, [(0, (Int.negSucc 1), 60, [])], [(20, [4, 3], [30, (Int.negSucc 0), 1, 0, 0, (Int.negSucc 0), 3, 2005000]), (20, [3, 6, 7], [50, 0, 1, 22, 0, 16, 4, 12, 5, 2, 0, 25, 15, 0, 22, 2, 0, 25, 0, 0, 1, 1, 1, 2]), (20, [6, 5, 3], [50, 1, 2, 2005, 2002, 2022, 3, 6, 1, 2, 1, 0, 0, 1, 3, 6, 0, 2, 1, 1, 0, 48, 5, 6, 3, 2, 2, 2, 2, 5, 0, 5, 3, 2, 22, 7, 0, 0, 0]), (24, [0, 3], []), (24, [1, 4], []), (24, [2, 5], [])]), (34, [(0, (2, 0, 0, [165])), (1, (0, 0, 23, [])), (2, (0, 1, 49, [])), (3, (0, 0, 1, [])), (4, (0, 0, 24, []))], [], (0, 0), [(0, 0, 99975), (2, 8, (Int.negSucc 1)), (0, 0, 99966), (1, 7, 24), (0, 0, 100000), (0, 0, 0), (0, 0, 0)], [(1, 4, (Int.negSucc 999999999999), 0), (2, 5, (Int.negSucc 999999999999), 0), (4, 1, (Int.negSucc 999999999999), 0), (5, 2, (Int.negSucc 999999999999), 0), (6, 7, (Int.negSucc 999999999999), 0)], [], [(2, 0, 0, [165]), (0, 0, 23, []), (0, 1, 49, [])], 0, [(0, (Int.negSucc 1), 60, [])], [(20, [4, 3], [30, (Int.negSucc 0), 1, 0, 0, (Int.negSucc 0), 3, 2005000]), (20, [3, 6, 8], [50, 0, 1, 22, 0, 16, 4, 12, 5, 2, 0, 26, 15, 0, 22, 2, 0, 25, 0, 0, 1, 1, 1, 2]), (20, [6, 5, 7, 3], [50, 0, 1, 3022, 3, 6, 1, 2, 1, 0, 0, 1, 3, 6, 0, 2, 1, 1, 0, 48, 5, 2, 1, 2, 0, 5, 3, 3, 22, 7, 0, 0, 0]), (24, [0, 3], []), (24, [1, 4], []), (24, [2, 5], [])]), (62, [(0, (2, 0, 0, [165])), (1, (0, 0, 23, [])), (2, (0, 1, 49, [])), (3, (0, 0, 1, [])), (4, (0, 0, 23, [])), (5, (0, 0, 48, [])), (6, (0, 0, 48, []))], [], (0, 0), [(0, 0, 99975), (2, 10, (Int.negSucc 1)), (0, 0, 99966), (1, 7, 24), (0, 0, 99938), (1, 9, 48), (0, 0, 100000)], [(1, 4, (Int.negSucc 999999999999), 0), (2, 5, (Int.negSucc 999999999999), 0), (4, 1, (Int.negSucc 999999999999), 0), (5, 2, (Int.negSucc 999999999999), 0), (6, 7, (Int.negSucc 999999999999), 0), (8, 9, (Int.negSucc 999999999999), 0)], [], [(2, 0, 0, [165]), (0, 0, 23, []), (0, 1, 49, [])], 0, [(0, (Int.negSucc 1), 60, [])], [(20, [4, 3], [30, (Int.negSucc 0), 1, 0, 0, (Int.negSucc 0), 3, 2005000]), (20, [3, 6, 10], [50, 0, 1, 22, 0, 16, 4, 12, 5, 2, 0, 26, 15, 0, 22, 2, 0, 25, 0, 0, 1, 1, 1, 2]), (20, [6, 5, 7, 3], [50, 0, 1, 3022, 3, 6, 1, 2, 1, 0, 0, 1, 3, 6, 0, 2, 1, 1, 0, 48, 5, 2, 1, 2, 0, 5, 3, 3, 22, 7, 0, 0, 0]), (20, [3, 7], [50, 0, 1, 22, 1, 5, 3, 0, 22, 1, 1, 0, 1]), (23, [8, 9], [0, 1, (Int.negSucc 0)]), (20, [7, 3], [30, (Int.negSucc 0), 1, 0, 0, (Int.negSucc 0), 3, 2005000]), (24, [0, 3], []), (24, [1, 4], []), (24, [2, 5], [])])]
def t_Mo_isInCore_ct : ct_L := [(1, 401, e_Mo_edges), (1, 405, e_Mo_has), (1, 475, e_Mo_nodes), (1, 563, e_Mo_other)]
set_option maxRecDepth 100000 in
theorem c_Mo_isInCore {l : Launch} {D : va_G} {kA : Nat → ClassId} (h_Mo_edges : ct_ok PRD l D kA GG y_Mo_edges z_Mo_edges e_Mo_edges) (h_Mo_has : ct_ok PRD l D kA GG y_Mo_has z_Mo_has e_Mo_has) (h_Mo_nodes : ct_ok PRD l D kA GG y_Mo_nodes z_Mo_nodes e_Mo_nodes) (h_Mo_other : ct_ok PRD l D kA GG y_Mo_other z_Mo_other e_Mo_other) : ct_ok PRD l D kA GG y_Mo_isInCore z_Mo_isInCore e_Mo_isInCore := chk_all_ok (FT := [(48, 13, 22)]) (PT := []) (CT := t_Mo_isInCore_ct) (KT := []) (NT := []) (AN := n_Mo_isInCore_an) (OT := [o_Mo_isInCore_0, o_Mo_isInCore_1, o_Mo_isInCore_2, o_Mo_isInCore_3, o_Mo_isInCore_4, o_Mo_isInCore_5, o_Mo_isInCore_6, o_Mo_isInCore_7, o_Mo_isInCore_8, o_Mo_isInCore_9, o_Mo_isInCore_10, o_Mo_isInCore_11]) 7 372 (List.forall_mem_cons.mpr ⟨oo_Mo_isInCore_0, List.forall_mem_cons.mpr ⟨oo_Mo_isInCore_1, List.forall_mem_cons.mpr ⟨oo_Mo_isInCore_2, List.forall_mem_cons.mpr ⟨oo_Mo_isInCore_3, List.forall_mem_cons.mpr ⟨oo_Mo_isInCore_4, List.forall_mem_cons.mpr ⟨oo_Mo_isInCore_5, List.forall_mem_cons.mpr ⟨oo_Mo_isInCore_6, List.forall_mem_cons.mpr ⟨oo_Mo_isInCore_7, List.forall_mem_cons.mpr ⟨oo_Mo_isInCore_8, List.forall_mem_cons.mpr ⟨oo_Mo_isInCore_9, List.forall_mem_cons.mpr ⟨oo_Mo_isInCore_10, List.forall_mem_cons.mpr ⟨oo_Mo_isInCore_11, List.forall_mem_nil _⟩⟩⟩⟩⟩⟩⟩⟩⟩⟩⟩⟩) (by decide +kernel) ⟨List.forall_mem_cons.mpr ⟨gf_Mo_48, List.forall_mem_nil _⟩, List.forall_mem_nil _, List.forall_mem_cons.mpr ⟨cl_virtual (y := y_Mo_edges) (ci := 13) rfl rfl ⟨_, _, rfl⟩ (by decide +kernel) h_Mo_edges wm_3037 wm_9 wm_3034 wm_3036 wv_13_6 ⟨by decide, by decide, by decide +kernel⟩ (by decide), List.forall_mem_cons.mpr ⟨cl_virtual (y := y_Mo_has) (ci := 13) rfl rfl ⟨_, _, rfl⟩ (by decide +kernel) h_Mo_has wm_3041 wm_9 wm_3038 wm_3040 wv_13_7 ⟨by decide, by decide, by decide +kernel⟩ (by decide), List.forall_mem_cons.mpr ⟨cl_virtual (y := y_Mo_nodes) (ci := 13) rfl rfl ⟨_, _, rfl⟩ (by decide +kernel) h_Mo_nodes wm_3025 wm_9 wm_3022 wm_3024 wv_13_3 ⟨by decide, by decide, by decide +kernel⟩ (by decide), List.forall_mem_cons.mpr ⟨cl_virtual (y := y_Mo_other) (ci := 13) rfl rfl ⟨_, _, rfl⟩ (by decide +kernel) h_Mo_other wm_3331 wm_9 wm_3328 wm_3330 wv_17_6 ⟨by decide, by decide, by decide +kernel⟩ (by decide), List.forall_mem_nil _⟩⟩⟩⟩, List.forall_mem_nil _, List.forall_mem_nil _, GG_pl⟩ (by decide +kernel)
set_option maxHeartbeats 4000000 in
theorem vc_Mo_parts_0_0 (x2 : Int) (partOf_0 : Int → Int) (all_0 : Int → Int) (r_0 : Int) (k2 : 0 ≤ x2 ∧ x2 ≤ 0) : PT0 (r_0) (all_0) (partOf_0) (x2) := by
  first
    | (intro v a b; exfalso; omega)
def o_Mo_parts_0 : or_T := (4, 3, [(2, (0, 0, 0, []))], [], [], [], [(20, [0, 2], [60, 1, 2, 372, 5, 2, 16]), (24, [0, 0], [])], [], [])
theorem oo_Mo_parts_0 {kA : Nat → ClassId} : or_ok PRD kA GG o_Mo_parts_0 := by
  refine or_mk fun A ta ws vs hD hth hl => ?_
  intro t2 k2
  have nf0 : fc_1 PRD (20, [0, 2], [60, 1, 2, 372, 5, 2, 16]) ws (vs) := ⟨nf_in hl rfl, sgq_1651 (vc_Mo_parts_0_0 (v_iv (n_v vs 2)) (w_ei ws (w_ar ws (n_v vs 0) 16)) (w_ei ws (w_ar ws (n_v vs 0) 2)) (w_fi ws (n_v vs 0) 5) k2)⟩
  have nf1 : fc_1 PRD (24, [0, 0], []) ws (vs) := by
    refine ⟨nf_in hl rfl, sgq_1 ?_⟩
    · show n_v vs 0 = n_v vs 0
      first | rfl | simp only [true_and]
  refine ⟨(fun _ h => (by cases h)), [], trivial, ?_, (fun _ h => (by cases h))⟩
  rw [List.append_nil]
  exact List.forall_mem_cons.mpr ⟨⟨show (20 : Nat) < 100 from by decide, nf0⟩, List.forall_mem_cons.mpr ⟨⟨show (24 : Nat) < 100 from by decide, nf1⟩, (fun _ h => (by cases h))⟩⟩
set_option maxHeartbeats 4000000 in
theorem vc_Mo_parts_1_0 (x2 : Int) (x3 : Int) (x4 : Int) (x5 : Int) (all_0 : Int → Int) (r_0 : Int) (partOf_0 : Int → Int) (k2 : 0 ≤ x2 ∧ x2 ≤ 0) (k3 : 0 ≤ x3 ∧ x3 ≤ 24) (k4 : 0 ≤ x4 ∧ x4 ≤ 24) (k5 : 0 ≤ x5 ∧ x5 ≤ 0) (d0 : x4 + 0 ≤ x3 ∧ x3 ≤ x4 + 4294967296) (f0 : x4 ≤ x3) (f1 : 1 * x4 + ((-1) * all_0 (r_0 + 0) + 0) ≤ 0) (f2 : (-1) * x4 + (1 * all_0 (r_0 + 0) + 0) ≤ 0) (f3 : PT0 (r_0) (all_0) (partOf_0) (x3)) : PT1 (r_0) (all_0) (partOf_0) (x5) (x2) := by
  try simp only [Int.add_zero] at *
  first
    | exact pt1_start ‹PT0 _ _ _ _› (by omega) (by omega) (by omega)
def o_Mo_parts_1 : or_T := (27, 6, [(2, (0, 0, 0, [])), (3, (0, 0, 24, [])), (4, (0, 0, 24, [])), (5, (0, 0, 0, []))], [(7, [3, 4], [3]), (20, [4, 1], [30, 0, 1, 0, 0, -1, 3, 2005000]), (20, [4, 1], [30, 0, -1, 0, 0, 1, 3, 2005000]), (20, [1, 3], [60, 1, 2, 372, 5, 2, 16]), (24, [0, 1], [])], [], [], [(20, [1, 5, 2], [60, 1, 2, 373, 5, 2, 16])], [], [(3, 4, 0, 4294967296)])
theorem oo_Mo_parts_1 {kA : Nat → ClassId} : or_ok PRD kA GG o_Mo_parts_1 := by
  refine or_mk fun A ta ws vs hD hth hl => ?_
  intro t2 k2 t3 k3 t4 k4 t5 k5 d0 f0 f1 f2 f3 f4
  replace f0 := shm_2 f0
  replace f1 := shm_126 f1
  replace f2 := shm_127 f2
  replace f3 := shm_1651 f3
  replace f4 := shm_5 f4
  have q1 : n_v vs 1 = n_v vs 0 := f4.symm
  simp only [q1] at f1 f2 f3
  have nf0 : fc_1 PRD (20, [1, 5, 2], [60, 1, 2, 373, 5, 2, 16]) ws (vs) := by
    refine ⟨nf_in hl rfl, sgq_1652 ?_⟩
    · show PT1 (w_fi ws (n_v vs 1) 5) (w_ei ws (w_ar ws (n_v vs 1) 2)) (w_ei ws (w_ar ws (n_v vs 1) 16)) (v_iv (n_v vs 5)) (v_iv (n_v vs 2))
      rw [q1]
      exact vc_Mo_parts_1_0 (v_iv (n_v vs 2)) (v_iv (n_v vs 3)) (v_iv (n_v vs 4)) (v_iv (n_v vs 5)) (w_ei ws (w_ar ws (n_v vs 0) 2)) (w_fi ws (n_v vs 0) 5) (w_ei ws (w_ar ws (n_v vs 0) 16)) k2 k3 k4 k5 d0 f0 f1 f2 f3
  refine ⟨(fun _ h => (by cases h)), [], trivial, ?_, (fun _ h => (by cases h))⟩
  rw [List.append_nil]
  exact List.forall_mem_cons.mpr ⟨⟨show (20 : Nat) < 100 from by decide, nf0⟩, (fun _ h => (by cases h))⟩
set_option maxHeartbeats 4000000 in
theorem vc_Mo_parts_2_0 (x3 : Int) (x6 : Int) (x7 : Int) (all_0 : Int → Int) (r_0 : Int) (all_1 : Int → Int) (partOf_1 : Int → Int) (r_1 : Int) (partOf_0 : Int → Int) (k3 : 0 ≤ x3 ∧ x3 ≤ 23) (k6 : (-1) ≤ x6 ∧ x6 ≤ (-1)) (k7 : 1 ≤ x7 ∧ x7 ≤ 24) (f0 : x7 = x3 + 1) (f9 : PT0 (r_1) (all_1) (partOf_1) (x3)) (fe_0_5_1 : r_0 = r_1) (hE_0_2_1 : ∀ j : Int, all_0 j = all_1 j) (hE_0_16_1 : ∀ j : Int, 0 ≤ j → (j = x3 → partOf_0 j = x6) ∧ (j ≠ x3 → partOf_0 j = partOf_1 j)) : PT0 (r_0) (all_0) (partOf_0) (x7) := by
  subst fe_0_5_1
  have e_hE_0_2_1 := funext hE_0_2_1; subst e_hE_0_2_1
  first
    | exact pt0_step ‹PT0 _ _ _ _› (by assumption) (by omega) (by omega) (by omega)
def o_Mo_parts_2 : or_T := (4, 8, [(0, (2, 0, 0, [165])), (3, (0, 0, 23, [])), (5, (2, 0, 0, [171])), (6, (0, -1, -1, [])), (7, (0, 1, 24, []))], [(6, [7, 3], [1]), (24, [0, 1], []), (100, [5, 3, 6], []), (9, [5, 1], [16]), (20, [1, 3], [60, 1, 2, 372, 5, 2, 16])], [], [], [(20, [1, 7], [60, 1, 2, 372, 5, 2, 16])], [], [(7, 3, 1, 1), (3, 4, -4294967296, -1)])
theorem oo_Mo_parts_2 {kA : Nat → ClassId} : or_ok PRD kA GG o_Mo_parts_2 := by
  refine or_mk fun A ta ws vs hD hth hl => ?_
  intro t0 r0 t3 k3 t5 r5 t6 k6 t7 k7 d0 d2 f0 f3 ta1 w1 le1 s1 f5 f9
  replace f0 := shm_4 f0
  replace f3 := shm_5 f3
  have s1 : (∀ b j, w_el ws b j = if b = v_ad (n_v vs 5) ∧ j = (v_iv (n_v vs 3)).toNat then v_iv (n_v vs 6) else w_el w1 b j) ∧ ∀ b k, w_fd ws b k = w_fd w1 b k := s1.2
  replace f5 := shm_176 f5
  replace f9 := shm_1651 f9
  have q1 : n_v vs 1 = n_v vs 0 := f3.symm
  simp only [q1] at f5 f9
  have ar_0_2_1 : w_ar w1 (n_v vs 0) 2 = w_ar ws (n_v vs 0) 2 := congrArg v_ad (s1.2 _ _).symm
  have cr_0_2 := fdq_10 hD hth r0
  have ar_0_16_1 : w_ar w1 (n_v vs 0) 16 = w_ar ws (n_v vs 0) 16 := congrArg v_ad (s1.2 _ _).symm
  have ad_5 : v_ad (n_v vs 5) = w_ar ws (n_v vs 0) 16 := (congrArg v_ad f5).trans ar_0_16_1
  simp only [ar_0_2_1, ar_0_16_1] at f9
  have fe_0_5_1 : w_fi ws (n_v vs 0) 5 = w_fi w1 (n_v vs 0) 5 := congrArg v_iv (s1.2 _ _)
  have hE_0_2_1 : ∀ j : Int, w_ei ws (w_ar ws (n_v vs 0) 2) j = w_ei w1 (w_ar ws (n_v vs 0) 2) j := el_kp s1.1 r5 cr_0_2 (by decide)
  have hE_0_16_1 : ∀ j : Int, 0 ≤ j → (j = v_iv (n_v vs 3) → w_ei ws (w_ar ws (n_v vs 0) 16) j = v_iv (n_v vs 6)) ∧ (j ≠ v_iv (n_v vs 3) → w_ei ws (w_ar ws (n_v vs 0) 16) j = w_ei w1 (w_ar ws (n_v vs 0) 16) j) := fun j hj => ⟨fun h => by unfold w_ei; rw [s1.1, if_pos ⟨ad_5.symm, by rw [h]⟩], fun h => by unfold w_ei; rw [s1.1, if_neg (fun e => h (by have := e.2; omega))]⟩
  have nf0 : fc_1 PRD (20, [1, 7], [60, 1, 2, 372, 5, 2, 16]) ws (vs) := by
    refine ⟨nf_in hl rfl, sgq_1651 ?_⟩
    · show PT0 (w_fi ws (n_v vs 1) 5) (w_ei ws (w_ar ws (n_v vs 1) 2)) (w_ei ws (w_ar ws (n_v vs 1) 16)) (v_iv (n_v vs 7))
      rw [q1]
      exact vc_Mo_parts_2_0 (v_iv (n_v vs 3)) (v_iv (n_v vs 6)) (v_iv (n_v vs 7)) (w_ei ws (w_ar ws (n_v vs 0) 2)) (w_fi ws (n_v vs 0) 5) (w_ei w1 (w_ar ws (n_v vs 0) 2)) (w_ei w1 (w_ar ws (n_v vs 0) 16)) (w_fi w1 (n_v vs 0) 5) (w_ei ws (w_ar ws (n_v vs 0) 16)) k3 k6 k7 f0 f9 fe_0_5_1 hE_0_2_1 hE_0_16_1
  refine ⟨(fun _ h => (by cases h)), [], trivial, ?_, (fun _ h => (by cases h))⟩
  rw [List.append_nil]
  exact List.forall_mem_cons.mpr ⟨⟨show (20 : Nat) < 100 from by decide, nf0⟩, (fun _ h => (by cases h))⟩
set_option maxHeartbeats 4000000 in
theorem vc_Mo_parts_3_0 (x2 : Int) (x3 : Int) (all_0 : Int → Int) (r_0 : Int) (partOf_0 : Int → Int) (k2 : 0 ≤ x2 ∧ x2 ≤ 24) (k3 : 0 ≤ x3 ∧ x3 ≤ 24) (f3 : PT1 (r_0) (all_0) (partOf_0) (x3) (x2)) : PTP (r_0) (all_0) (partOf_0) (x2) := by
  exact pt1_end ‹PT1 _ _ _ _ _›
def o_Mo_parts_3 : or_T := (97, 5, [(2, (0, 0, 24, [])), (3, (0, 0, 24, []))], [(20, [1, 3, 2], [60, 1, 2, 373, 5, 2, 16]), (24, [0, 1], [])], [], [], [(20, [0, 2], [60, 1, 2, 375, 5, 2, 16])], [], [])
theorem oo_Mo_parts_3 {kA : Nat → ClassId} : or_ok PRD kA GG o_Mo_parts_3 := by
  refine or_mk fun A ta ws vs hD hth hl => ?_
  intro t2 k2 t3 k3 f3 f4
  replace f3 := shm_1652 f3
  replace f4 := shm_5 f4
  have q1 : n_v vs 1 = n_v vs 0 := f4.symm
  simp only [q1] at f3
  have nf0 : fc_1 PRD (20, [0, 2], [60, 1, 2, 375, 5, 2, 16]) ws (vs) := ⟨nf_in hl rfl, sgq_1653 (vc_Mo_parts_3_0 (v_iv (n_v vs 2)) (v_iv (n_v vs 3)) (w_ei ws (w_ar ws (n_v vs 0) 2)) (w_fi ws (n_v vs 0) 5) (w_ei ws (w_ar ws (n_v vs 0) 16)) k2 k3 f3)⟩
  refine ⟨(fun _ h => (by cases h)), [], trivial, ?_, (fun _ h => (by cases h))⟩
  rw [List.append_nil]
  exact List.forall_mem_cons.mpr ⟨⟨show (20 : Nat) < 100 from by decide, nf0⟩, (fun _ h => (by cases h))⟩
set_option maxHeartbeats 4000000 in
theorem vc_Mo_parts_4_0 (x3 : Int) (x6 : Int) (partOf_0 : Int → Int) (k3 : 0 ≤ x3 ∧ x3 ≤ 23) (k6 : (-1) ≤ x6 ∧ x6 ≤ (-1)) (h1 : x6 = partOf_0 (x3)) : partOf_0 (x3) ≤ (-1) := by
  first
    | omega
    | (rw [← ‹x6 = partOf_0 x3›]; omega)
def o_Mo_parts_4 : or_T := (49, 7, [(3, (0, 0, 23, [])), (6, (0, -1, -1, []))], [(10, [6, 5, 3], []), (9, [5, 1], [16]), (24, [0, 1], [])], [], [], [(20, [1, 3], [50, 0, 1, 16, 0, 5, 3, 0, 16, 1, 1, 0, -1])], [], [])
theorem oo_Mo_parts_4 {kA : Nat → ClassId} : or_ok PRD kA GG o_Mo_parts_4 := by
  refine or_mk fun A ta ws vs hD hth hl => ?_
  intro t3 k3 t6 k6 f1 f2 f7
  replace f1 := shm_107 f1
  replace f2 := shm_176 f2
  replace f7 := shm_5 f7
  have q1 : n_v vs 1 = n_v vs 0 := f7.symm
  simp only [q1] at f2
  have ad_5 : v_ad (n_v vs 5) = w_ar ws (n_v vs 0) 16 := congrArg v_ad f2
  simp only [ad_5] at f1
  have h1 : v_iv (n_v vs 6) = w_ei ws (w_ar ws (n_v vs 0) 16) (v_iv (n_v vs 3)) := f1
  have nf0 : fc_1 PRD (20, [1, 3], [50, 0, 1, 16, 0, 5, 3, 0, 16, 1, 1, 0, -1]) ws (vs) := by
    refine ⟨nf_in hl rfl, sgq_1654 ?_⟩
    · show w_ei ws (w_ar ws (n_v vs 1) 16) (v_iv (n_v vs 3)) ≤ (-1)
      rw [q1]
      exact vc_Mo_parts_4_0 (v_iv (n_v vs 3)) (v_iv (n_v vs 6)) (w_ei ws (w_ar ws (n_v vs 0) 16)) k3 k6 h1
  refine ⟨(fun _ h => (by cases h)), [], trivial, ?_, (fun _ h => (by cases h))⟩
  rw [List.append_nil]
  exact List.forall_mem_cons.mpr ⟨⟨show (20 : Nat) < 100 from by decide, nf0⟩, (fun _ h => (by cases h))⟩
set_option maxHeartbeats 4000000 in
theorem vc_Mo_parts_5_0 (x2 : Int) (x3 : Int) (x4 : Int) (x7 : Int) (partOf_0 : Int → Int) (all_0 : Int → Int) (r_0 : Int) (farOf_0 : Int → Int) (k2 : 0 ≤ x2 ∧ x2 ≤ 23) (k3 : 0 ≤ x3 ∧ x3 ≤ 23) (k4 : 1 ≤ x4 ∧ x4 ≤ 24) (k7 : 0 ≤ x7 ∧ x7 ≤ 0) (d0 : x4 + (-4294967296) ≤ x3 ∧ x3 ≤ x4 + (-1)) (f0 : partOf_0 (x3) ≤ (-1)) (f1 : 1 * x4 + ((-1) * all_0 (r_0 + 0) + 0) ≤ 0) (f2 : (-1) * x4 + (1 * all_0 (r_0 + 0) + 0) ≤ 0) (f3 : PT1 (r_0) (all_0) (partOf_0) (x3) (x2)) (f5 : FAP (r_0) (all_0) (farOf_0) (x3)) : PT2 (r_0) (all_0) (farOf_0) (partOf_0) (x3) (x2) (x7) := by
  try simp only [Int.add_zero] at *
  first
    | exact pt2_start ‹PT1 _ _ _ _ _› (by omega) (by omega) (by omega) ‹FAP _ _ _ _› (by omega)
def o_Mo_parts_5 : or_T := (54, 8, [(2, (0, 0, 23, [])), (3, (0, 0, 23, [])), (4, (0, 1, 24, [])), (7, (0, 0, 0, []))], [(20, [1, 3], [50, 0, 1, 16, 0, 5, 3, 0, 16, 1, 1, 0, -1]), (20, [4, 1], [30, 0, 1, 0, 0, -1, 3, 2005000]), (20, [4, 1], [30, 0, -1, 0, 0, 1, 3, 2005000]), (20, [1, 3, 2], [60, 1, 2, 373, 5, 2, 16]), (24, [0, 1], []), (20, [1, 3], [60, 1, 2, 371, 5, 2, 19])], [], [], [(20, [1, 3, 2, 7], [60, 1, 3, 374, 5, 2, 19, 16])], [], [(3, 4, -4294967296, -1)])
theorem oo_Mo_parts_5 {kA : Nat → ClassId} : or_ok PRD kA GG o_Mo_parts_5 := by
  refine or_mk fun A ta ws vs hD hth hl => ?_
  intro t2 k2 t3 k3 t4 k4 t7 k7 d0 f0 f1 f2 f3 f4 f5
  replace f0 := shm_1654 f0
  replace f1 := shm_126 f1
  replace f2 := shm_127 f2
  replace f3 := shm_1652 f3
  replace f4 := shm_5 f4
  replace f5 := shm_1573 f5
  have q1 : n_v vs 1 = n_v vs 0 := f4.symm
  simp only [q1] at f0 f1 f2 f3 f5
  have nf0 : fc_1 PRD (20, [1, 3, 2, 7], [60, 1, 3, 374, 5, 2, 19, 16]) ws (vs) := by
    refine ⟨nf_in hl rfl, sgq_1655 ?_⟩
    · show PT2 (w_fi ws (n_v vs 1) 5) (w_ei ws (w_ar ws (n_v vs 1) 2)) (w_ei ws (w_ar ws (n_v vs 1) 19)) (w_ei ws (w_ar ws (n_v vs 1) 16)) (v_iv (n_v vs 3)) (v_iv (n_v vs 2)) (v_iv (n_v vs 7))
      rw [q1]
      exact vc_Mo_parts_5_0 (v_iv (n_v vs 2)) (v_iv (n_v vs 3)) (v_iv (n_v vs 4)) (v_iv (n_v vs 7)) (w_ei ws (w_ar ws (n_v vs 0) 16)) (w_ei ws (w_ar ws (n_v vs 0) 2)) (w_fi ws (n_v vs 0) 5) (w_ei ws (w_ar ws (n_v vs 0) 19)) k2 k3 k4 k7 d0 f0 f1 f2 f3 f5
  refine ⟨(fun _ h => (by cases h)), [], trivial, ?_, (fun _ h => (by cases h))⟩
  rw [List.append_nil]
  exact List.forall_mem_cons.mpr ⟨⟨show (20 : Nat) < 100 from by decide, nf0⟩, (fun _ h => (by cases h))⟩
set_option maxHeartbeats 4000000 in
theorem vc_Mo_parts_6_0 (x2 : Int) (x3 : Int) (x6 : Int) (x7 : Int) (partOf_0 : Int → Int) (all_0 : Int → Int) (r_0 : Int) (k2 : 0 ≤ x2 ∧ x2 ≤ 23) (k3 : 0 ≤ x3 ∧ x3 ≤ 23) (k6 : 0 ≤ x6 ∧ x6 ≤ 24) (k7 : 1 ≤ x7 ∧ x7 ≤ 24) (f0 : x7 = x3 + 1) (h2 : x6 = partOf_0 (x3)) (f7 : PT1 (r_0) (all_0) (partOf_0) (x3) (x2)) : PT1 (r_0) (all_0) (partOf_0) (x7) (x2) := by
  try simp only [Int.add_zero] at *
  first
    | exact pt1_skip ‹PT1 _ _ _ _ _› (by omega) (by omega)
def o_Mo_parts_6 : or_T := (27, 8, [(0, (2, 0, 0, [165])), (1, (2, 0, 0, [165])), (2, (0, 0, 23, [])), (3, (0, 0, 23, [])), (4, (0, 1, 24, [])), (5, (2, 0, 0, [171])), (6, (0, 0, 24, [])), (7, (0, 1, 24, []))], [(6, [7, 3], [1]), (8, [6], [3]), (10, [6, 5, 3], []), (9, [5, 1], [16]), (7, [3, 4], [2]), (20, [4, 1], [30, 0, 1, 0, 0, -1, 3, 2005000]), (20, [4, 1], [30, 0, -1, 0, 0, 1, 3, 2005000]), (20, [1, 3, 2], [60, 1, 2, 373, 5, 2, 16]), (24, [0, 1], [])], [], [], [(20, [1, 7, 2], [60, 1, 2, 373, 5, 2, 16])], [], [(7, 3, 1, 1), (7, 4, -4294967296, 0), (3, 4, -4294967296, -1), (2, 3, -4294967296, 0)])
theorem oo_Mo_parts_6 {kA : Nat → ClassId} : or_ok PRD kA GG o_Mo_parts_6 := by
  refine or_mk fun A ta ws vs hD hth hl => ?_
  intro t0 r0 t1 r1 t2 k2 t3 k3 t4 k4 t5 r5 t6 k6 t7 k7 d0 d1 d2 d3 f0 f1 f2 f3 f4 f5 f6 f7 f8
  replace f0 := shm_4 f0
  replace f2 := shm_107 f2
  replace f3 := shm_176 f3
  replace f7 := shm_1652 f7
  replace f8 := shm_5 f8
  have q1 : n_v vs 1 = n_v vs 0 := f8.symm
  simp only [q1] at f3 f7
  have ad_5 : v_ad (n_v vs 5) = w_ar ws (n_v vs 0) 16 := congrArg v_ad f3
  simp only [ad_5] at f2
  have h2 : v_iv (n_v vs 6) = w_ei ws (w_ar ws (n_v vs 0) 16) (v_iv (n_v vs 3)) := f2
  have nf0 : fc_1 PRD (20, [1, 7, 2], [60, 1, 2, 373, 5, 2, 16]) ws (vs) := by
    refine ⟨nf_in hl rfl, sgq_1652 ?_⟩
    · show PT1 (w_fi ws (n_v vs 1) 5) (w_ei ws (w_ar ws (n_v vs 1) 2)) (w_ei ws (w_ar ws (n_v vs 1) 16)) (v_iv (n_v vs 7)) (v_iv (n_v vs 2))
      rw [q1]
      exact vc_Mo_parts_6_0 (v_iv (n_v vs 2)) (v_iv (n_v vs 3)) (v_iv (n_v vs 6)) (v_iv (n_v vs 7)) (w_ei ws (w_ar ws (n_v vs 0) 16)) (w_ei ws (w_ar ws (n_v vs 0) 2)) (w_fi ws (n_v vs 0) 5) k2 k3 k6 k7 f0 h2 f7
  refine ⟨(fun _ h => (by cases h)), [], trivial, ?_, (fun _ h => (by cases h))⟩
  rw [List.append_nil]
  exact List.forall_mem_cons.mpr ⟨⟨show (20 : Nat) < 100 from by decide, nf0⟩, (fun _ h => (by cases h))⟩
set_option maxHeartbeats 4000000 in
theorem vc_Mo_parts_7_0 (x2 : Int) (x3 : Int) (x4 : Int) (x5 : Int) (x6 : Int) (x7 : Int) (all_0 : Int → Int) (r_0 : Int) (farOf_0 : Int → Int) (partOf_0 : Int → Int) (k2 : 0 ≤ x2 ∧ x2 ≤ 23) (k3 : 0 ≤ x3 ∧ x3 ≤ 23) (k4 : 0 ≤ x4 ∧ x4 ≤ 24) (k5 : 0 ≤ x5 ∧ x5 ≤ 24) (k6 : 1 ≤ x6 ∧ x6 ≤ 24) (k7 : 1 ≤ x7 ∧ x7 ≤ 24) (d3 : x5 + 0 ≤ x4 ∧ x4 ≤ x5 + 4294967296) (f0 : x7 = x3 + 1) (f1 : x6 = x2 + 1) (f2 : x5 ≤ x4) (f3 : 1 * x5 + ((-1) * all_0 (r_0 + 0) + 0) ≤ 0) (f4 : (-1) * x5 + (1 * all_0 (r_0 + 0) + 0) ≤ 0) (f5 : PT2 (r_0) (all_0) (farOf_0) (partOf_0) (x3) (x2) (x4)) : PT1 (r_0) (all_0) (partOf_0) (x7) (x6) := by
  try simp only [Int.add_zero] at *
  first
    | exact pt2_end ‹PT2 _ _ _ _ _ _ _› (by omega) (by omega) (by omega)
def o_Mo_parts_7 : or_T := (27, 8, [(0, (2, 0, 0, [165])), (1, (2, 0, 0, [165])), (2, (0, 0, 23, [])), (3, (0, 0, 23, [])), (4, (0, 0, 24, [])), (5, (0, 0, 24, [])), (6, (0, 1, 24, [])), (7, (0, 1, 24, []))], [(6, [7, 3], [1]), (6, [6, 2], [1]), (7, [4, 5], [3]), (20, [5, 1], [30, 0, 1, 0, 0, -1, 3, 2005000]), (20, [5, 1], [30, 0, -1, 0, 0, 1, 3, 2005000]), (20, [1, 3, 2, 4], [60, 1, 3, 374, 5, 2, 19, 16]), (24, [0, 1], [])], [], [], [(20, [1, 7, 6], [60, 1, 2, 373, 5, 2, 16])], [], [(7, 3, 1, 1), (6, 2, 1, 1), (6, 3, -4294967296, 1), (4, 5, 0, 4294967296), (2, 3, -4294967296, 0)])
theorem oo_Mo_parts_7 {kA : Nat → ClassId} : or_ok PRD kA GG o_Mo_parts_7 := by
  refine or_mk fun A ta ws vs hD hth hl => ?_
  intro t0 r0 t1 r1 t2 k2 t3 k3 t4 k4 t5 k5 t6 k6 t7 k7 d0 d1 d2 d3 d4 f0 f1 f2 f3 f4 f5 f6
  replace f0 := shm_4 f0
  replace f1 := shm_4 f1
  replace f2 := shm_2 f2
  replace f3 := shm_126 f3
  replace f4 := shm_127 f4
  replace f5 := shm_1655 f5
  replace f6 := shm_5 f6
  have q1 : n_v vs 1 = n_v vs 0 := f6.symm
  simp only [q1] at f3 f4 f5
  have nf0 : fc_1 PRD (20, [1, 7, 6], [60, 1, 2, 373, 5, 2, 16]) ws (vs) := by
    refine ⟨nf_in hl rfl, sgq_1652 ?_⟩
    · show PT1 (w_fi ws (n_v vs 1) 5) (w_ei ws (w_ar ws (n_v vs 1) 2)) (w_ei ws (w_ar ws (n_v vs 1) 16)) (v_iv (n_v vs 7)) (v_iv (n_v vs 6))
      rw [q1]
      exact vc_Mo_parts_7_0 (v_iv (n_v vs 2)) (v_iv (n_v vs 3)) (v_iv (n_v vs 4)) (v_iv (n_v vs 5)) (v_iv (n_v vs 6)) (v_iv (n_v vs 7)) (w_ei ws (w_ar ws (n_v vs 0) 2)) (w_fi ws (n_v vs 0) 5) (w_ei ws (w_ar ws (n_v vs 0) 19)) (w_ei ws (w_ar ws (n_v vs 0) 16)) k2 k3 k4 k5 k6 k7 d3 f0 f1 f2 f3 f4 f5
  refine ⟨(fun _ h => (by cases h)), [], trivial, ?_, (fun _ h => (by cases h))⟩
  rw [List.append_nil]
  exact List.forall_mem_cons.mpr ⟨⟨show (20 : Nat) < 100 from by decide, nf0⟩, (fun _ h => (by cases h))⟩
set_option maxHeartbeats 4000000 in
theorem vc_Mo_parts_8_0 (x2 : Int) (x3 : Int) (x4 : Int) (x7 : Int) (x9 : Int) (farOf_0 : Int → Int) (all_0 : Int → Int) (r_0 : Int) (partOf_0 : Int → Int) (k2 : 0 ≤ x2 ∧ x2 ≤ 23) (k3 : 0 ≤ x3 ∧ x3 ≤ 23) (k4 : 0 ≤ x4 ∧ x4 ≤ 23) (k7 : 1000000 ≤ x7 ∧ x7 ≤ 1000000) (k9 : 1 ≤ x9 ∧ x9 ≤ 24) (f0 : x9 = x4 + 1) (h2 : x7 = farOf_0 (x4)) (f7 : PT2 (r_0) (all_0) (farOf_0) (partOf_0) (x3) (x2) (x4)) : PT2 (r_0) (all_0) (farOf_0) (partOf_0) (x3) (x2) (x9) := by
  try simp only [Int.add_zero] at *
  first
    | exact pt2_no ‹PT2 _ _ _ _ _ _ _› (by omega) (by omega)
def o_Mo_parts_8 : or_T := (54, 10, [(2, (0, 0, 23, [])), (3, (0, 0, 23, [])), (4, (0, 0, 23, [])), (7, (0, 1000000, 1000000, [])), (9, (0, 1, 24, []))], [(6, [9, 4], [1]), (10, [7, 6, 4], []), (9, [6, 1], [19]), (20, [1, 3, 2, 4], [60, 1, 3, 374, 5, 2, 19, 16]), (24, [0, 1], [])], [], [], [(20, [1, 3, 2, 9], [60, 1, 3, 374, 5, 2, 19, 16])], [], [])
theorem oo_Mo_parts_8 {kA : Nat → ClassId} : or_ok PRD kA GG o_Mo_parts_8 := by
  refine or_mk fun A ta ws vs hD hth hl => ?_
  intro t2 k2 t3 k3 t4 k4 t7 k7 t9 k9 f0 f2 f3 f7 f8
  replace f0 := shm_4 f0
  replace f2 := shm_107 f2
  replace f3 := shm_796 f3
  replace f7 := shm_1655 f7
  replace f8 := shm_5 f8
  have q1 : n_v vs 1 = n_v vs 0 := f8.symm
  simp only [q1] at f3 f7
  have ad_6 : v_ad (n_v vs 6) = w_ar ws (n_v vs 0) 19 := congrArg v_ad f3
  simp only [ad_6] at f2
  have h2 : v_iv (n_v vs 7) = w_ei ws (w_ar ws (n_v vs 0) 19) (v_iv (n_v vs 4)) := f2
  have nf0 : fc_1 PRD (20, [1, 3, 2, 9], [60, 1, 3, 374, 5, 2, 19, 16]) ws (vs) := by
    refine ⟨nf_in hl rfl, sgq_1655 ?_⟩
    · show PT2 (w_fi ws (n_v vs 1) 5) (w_ei ws (w_ar ws (n_v vs 1) 2)) (w_ei ws (w_ar ws (n_v vs 1) 19)) (w_ei ws (w_ar ws (n_v vs 1) 16)) (v_iv (n_v vs 3)) (v_iv (n_v vs 2)) (v_iv (n_v vs 9))
      rw [q1]
      exact vc_Mo_parts_8_0 (v_iv (n_v vs 2)) (v_iv (n_v vs 3)) (v_iv (n_v vs 4)) (v_iv (n_v vs 7)) (v_iv (n_v vs 9)) (w_ei ws (w_ar ws (n_v vs 0) 19)) (w_ei ws (w_ar ws (n_v vs 0) 2)) (w_fi ws (n_v vs 0) 5) (w_ei ws (w_ar ws (n_v vs 0) 16)) k2 k3 k4 k7 k9 f0 h2 f7
  refine ⟨(fun _ h => (by cases h)), [], trivial, ?_, (fun _ h => (by cases h))⟩
  rw [List.append_nil]
  exact List.forall_mem_cons.mpr ⟨⟨show (20 : Nat) < 100 from by decide, nf0⟩, (fun _ h => (by cases h))⟩
set_option maxHeartbeats 4000000 in
theorem vc_Mo_parts_9_0 (x2 : Int) (x3 : Int) (x4 : Int) (x7 : Int) (x10 : Int) (all_0 : Int → Int) (r_0 : Int) (farOf_1 : Int → Int) (all_1 : Int → Int) (partOf_1 : Int → Int) (r_1 : Int) (partOf_0 : Int → Int) (farOf_0 : Int → Int) (k2 : 0 ≤ x2 ∧ x2 ≤ 23) (k3 : 0 ≤ x3 ∧ x3 ≤ 23) (k4 : 0 ≤ x4 ∧ x4 ≤ 23) (k7 : 0 ≤ x7 ∧ x7 ≤ 999999) (k10 : 1 ≤ x10 ∧ x10 ≤ 24) (d0 : x4 + 1 ≤ x10 ∧ x10 ≤ x4 + 1) (f0 : x10 = x4 + 1) (h7 : x7 = farOf_1 (x4)) (f12 : PT2 (r_1) (all_1) (farOf_1) (partOf_1) (x3) (x2) (x4)) (fe_0_5_1 : r_0 = r_1) (hE_0_2_1 : ∀ j : Int, all_0 j = all_1 j) (hE_0_16_1 : ∀ j : Int, 0 ≤ j → (j = x4 → partOf_0 j = x2) ∧ (j ≠ x4 → partOf_0 j = partOf_1 j)) (hE_0_19_1 : ∀ j : Int, farOf_0 j = farOf_1 j) : PT2 (r_0) (all_0) (farOf_0) (partOf_0) (x3) (x2) (x10) := by
  subst fe_0_5_1
  have e_hE_0_2_1 := funext hE_0_2_1; subst e_hE_0_2_1
  have e_hE_0_19_1 := funext hE_0_19_1; subst e_hE_0_19_1
  try simp only [Int.add_zero] at *
  first
    | exact pt2_yes ‹PT2 _ _ _ _ _ _ _› (by omega) (by omega) (by omega) (by assumption) (by omega) (by omega)
def o_Mo_parts_9 : or_T := (54, 11, [(0, (2, 0, 0, [165])), (2, (0, 0, 23, [])), (3, (0, 0, 23, [])), (4, (0, 0, 23, [])), (7, (0, 0, 999999, [])), (9, (2, 0, 0, [171])), (10, (0, 1, 24, []))], [(6, [10, 4], [1]), (24, [0, 1], []), (100, [9, 4, 2], []), (9, [9, 1], [16]), (10, [7, 6, 4], []), (9, [6, 1], [19]), (20, [1, 3, 2, 4], [60, 1, 3, 374, 5, 2, 19, 16])], [], [], [(20, [1, 3, 2, 10], [60, 1, 3, 374, 5, 2, 19, 16])], [], [(10, 4, 1, 1), (4, 5, -4294967296, -1), (2, 3, -4294967296, 0)])
theorem oo_Mo_parts_9 {kA : Nat → ClassId} : or_ok PRD kA GG o_Mo_parts_9 := by
  refine or_mk fun A ta ws vs hD hth hl => ?_
  intro t0 r0 t2 k2 t3 k3 t4 k4 t7 k7 t9 r9 t10 k10 d0 d2 d3 f0 f3 ta1 w1 le1 s1 f5 f7 f8 f12
  replace f0 := shm_4 f0
  replace f3 := shm_5 f3
  have s1 : (∀ b j, w_el ws b j = if b = v_ad (n_v vs 9) ∧ j = (v_iv (n_v vs 4)).toNat then v_iv (n_v vs 2) else w_el w1 b j) ∧ ∀ b k, w_fd ws b k = w_fd w1 b k := s1.2
  replace f5 := shm_176 f5
  replace f7 := shm_107 f7
  replace f8 := shm_796 f8
  replace f12 := shm_1655 f12
  have q1 : n_v vs 1 = n_v vs 0 := f3.symm
  simp only [q1] at f5 f8 f12
  have ar_0_2_1 : w_ar w1 (n_v vs 0) 2 = w_ar ws (n_v vs 0) 2 := congrArg v_ad (s1.2 _ _).symm
  have cr_0_2 := fdq_10 hD hth r0
  have ar_0_16_1 : w_ar w1 (n_v vs 0) 16 = w_ar ws (n_v vs 0) 16 := congrArg v_ad (s1.2 _ _).symm
  have ar_0_19_1 : w_ar w1 (n_v vs 0) 19 = w_ar ws (n_v vs 0) 19 := congrArg v_ad (s1.2 _ _).symm
  have cr_0_19 := fdq_299 hD hth r0
  have ad_9 : v_ad (n_v vs 9) = w_ar ws (n_v vs 0) 16 := (congrArg v_ad f5).trans ar_0_16_1
  have ad_6 : v_ad (n_v vs 6) = w_ar ws (n_v vs 0) 19 := (congrArg v_ad f8).trans ar_0_19_1
  simp only [ad_6] at f7
  have h7 : v_iv (n_v vs 7) = w_ei w1 (w_ar ws (n_v vs 0) 19) (v_iv (n_v vs 4)) := f7
  simp only [ar_0_2_1, ar_0_16_1, ar_0_19_1] at f12
  have fe_0_5_1 : w_fi ws (n_v vs 0) 5 = w_fi w1 (n_v vs 0) 5 := congrArg v_iv (s1.2 _ _)
  have hE_0_2_1 : ∀ j : Int, w_ei ws (w_ar ws (n_v vs 0) 2) j = w_ei w1 (w_ar ws (n_v vs 0) 2) j := el_kp s1.1 r9 cr_0_2 (by decide)
  have hE_0_16_1 : ∀ j : Int, 0 ≤ j → (j = v_iv (n_v vs 4) → w_ei ws (w_ar ws (n_v vs 0) 16) j = v_iv (n_v vs 2)) ∧ (j ≠ v_iv (n_v vs 4) → w_ei ws (w_ar ws (n_v vs 0) 16) j = w_ei w1 (w_ar ws (n_v vs 0) 16) j) := fun j hj => ⟨fun h => by unfold w_ei; rw [s1.1, if_pos ⟨ad_9.symm, by rw [h]⟩], fun h => by unfold w_ei; rw [s1.1, if_neg (fun e => h (by have := e.2; omega))]⟩
  have hE_0_19_1 : ∀ j : Int, w_ei ws (w_ar ws (n_v vs 0) 19) j = w_ei w1 (w_ar ws (n_v vs 0) 19) j := el_kp s1.1 r9 cr_0_19 (by decide)
  have nf0 : fc_1 PRD (20, [1, 3, 2, 10], [60, 1, 3, 374, 5, 2, 19, 16]) ws (vs) := by
    refine ⟨nf_in hl rfl, sgq_1655 ?_⟩
    · show PT2 (w_fi ws (n_v vs 1) 5) (w_ei ws (w_ar ws (n_v vs 1) 2)) (w_ei ws (w_ar ws (n_v vs 1) 19)) (w_ei ws (w_ar ws (n_v vs 1) 16)) (v_iv (n_v vs 3)) (v_iv (n_v vs 2)) (v_iv (n_v vs 10))
      rw [q1]
      exact vc_Mo_parts_9_0 (v_iv (n_v vs 2)) (v_iv (n_v vs 3)) (v_iv (n_v vs 4)) (v_iv (n_v vs 7)) (v_iv (n_v vs 10)) (w_ei ws (w_ar ws (n_v vs 0) 2)) (w_fi ws (n_v vs 0) 5) (w_ei w1 (w_ar ws (n_v vs 0) 19)) (w_ei w1 (w_ar ws (n_v vs 0) 2)) (w_ei w1 (w_ar ws (n_v vs 0) 16)) (w_fi w1 (n_v vs 0) 5) (w_ei ws (w_ar ws (n_v vs 0) 16)) (w_ei ws (w_ar ws (n_v vs 0) 19)) k2 k3 k4 k7 k10 d0 f0 h7 f12 fe_0_5_1 hE_0_2_1 hE_0_16_1 hE_0_19_1
  refine ⟨(fun _ h => (by cases h)), [], trivial, ?_, (fun _ h => (by cases h))⟩
  rw [List.append_nil]
  exact List.forall_mem_cons.mpr ⟨⟨show (20 : Nat) < 100 from by decide, nf0⟩, (fun _ h => (by cases h))⟩
def n_Mo_parts_an : List an_T := [(4, [(0, (2, 0, 0, [165])), (1, (0, 0, 0, [])), (2, (0, 0, 24, []))], [], (0, 0), [(0, 0, 99996), (1, 3, 24), (0, 0, 100000), (0, 0, 0), (0, 0, 0)], [], [], [(2, 0, 0, [165])], 0, [], [(20, [1, 3], [60, 1, 2, 372, 5, 2, 16]), (24, [0, 1], [])]), (27, [(0, (2, 0, 0, [165])), (1, (0, 0, 24, [])), (2, (0, 0, 24, []))], [], (0, 0), [(0, 0, 99973), (1, 3, 24), (0, 0, 100000), (0, 0, 0), (0, 0, 0)], [(2, 3, (Int.negSucc 999999999999), 0)], [], [(2, 0, 0, [165])], 0, [], [(20, [1, 3, 2], [60, 1, 2, 373, 5, 2, 16]), (24, [0, 1], [])]), (54, [(0, (2, 0, 0, [165])), (1, (0, 0, 23, [])), (2, (0, 0, 23, [])), (3, (0, 0, 24, []))], [], (0, 0), [(0, 0, 99973), (1, 3, 24), (0, 0, 99946), (1, 4, 24), (0, 0, 100000)], [(2, 3, (Int.negSucc 999999999999), 0)], [], [(2, 0, 0, [165])], 0, [], [(20, [1, 3, 2, 4], [60, 1, 3, 374, 5, 2, 19, 16]), (24, [0, 1], [])])]
def t_Mo_parts_ct : ct_L := [(1, 475, e_Mo_nodes), (1, 550, e_Mo_farFrom)]
set_option maxRecDepth 100000 in
theorem c_Mo_parts {l : Launch} {D : va_G} {kA : Nat → ClassId} (h_Mo_farFrom : ct_ok PRD l D kA GG y_Mo_farFrom z_Mo_farFrom e_Mo_farFrom) (h_Mo_nodes : ct_ok PRD l D kA GG y_Mo_nodes z_Mo_nodes e_Mo_nodes) : ct_ok PRD l D kA GG y_Mo_parts z_Mo_parts e_Mo_parts := chk_all_ok (FT := [(29, 13, 16), (38, 13, 19)]) (PT := []) (CT := t_Mo_parts_ct) (KT := [(1, 546, .int (1000000), (0, 1000000, 1000000, []))]) (NT := []) (AN := n_Mo_parts_an) (OT := [o_Mo_parts_0, o_Mo_parts_1, o_Mo_parts_2, o_Mo_parts_3, o_Mo_parts_4, o_Mo_parts_5, o_Mo_parts_6, o_Mo_parts_7, o_Mo_parts_8, o_Mo_parts_9]) 5 232 (List.forall_mem_cons.mpr ⟨oo_Mo_parts_0, List.forall_mem_cons.mpr ⟨oo_Mo_parts_1, List.forall_mem_cons.mpr ⟨oo_Mo_parts_2, List.forall_mem_cons.mpr ⟨oo_Mo_parts_3, List.forall_mem_cons.mpr ⟨oo_Mo_parts_4, List.forall_mem_cons.mpr ⟨oo_Mo_parts_5, List.forall_mem_cons.mpr ⟨oo_Mo_parts_6, List.forall_mem_cons.mpr ⟨oo_Mo_parts_7, List.forall_mem_cons.mpr ⟨oo_Mo_parts_8, List.forall_mem_cons.mpr ⟨oo_Mo_parts_9, List.forall_mem_nil _⟩⟩⟩⟩⟩⟩⟩⟩⟩⟩) (by decide +kernel) ⟨List.forall_mem_cons.mpr ⟨gf_Mo_29, List.forall_mem_cons.mpr ⟨gf_Mo_38, List.forall_mem_nil _⟩⟩, List.forall_mem_nil _, List.forall_mem_cons.mpr ⟨cl_virtual (y := y_Mo_nodes) (ci := 13) rfl rfl ⟨_, _, rfl⟩ (by decide +kernel) h_Mo_nodes wm_3025 wm_9 wm_3022 wm_3024 wv_13_3 ⟨by decide, by decide, by decide +kernel⟩ (by decide), List.forall_mem_cons.mpr ⟨cl_virtual (y := y_Mo_farFrom) (ci := 13) rfl rfl ⟨_, _, rfl⟩ (by decide +kernel) h_Mo_farFrom wm_3287 wm_9 wm_3284 wm_3286 wv_16_12 ⟨by decide, by decide, by decide +kernel⟩ (by decide), List.forall_mem_nil _⟩⟩, List.forall_mem_cons.mpr ⟨kx_Mo_1_546, List.forall_mem_nil _⟩, List.forall_mem_nil _, GG_pl⟩ (by decide +kernel)

set_option maxHeartbeats 4000000 in
theorem vc_Mo_putBest_0_0 (x1 : Int) (x2 : Int) (x3 : Int) (order_0 : Int → Int) (k1 : 1 ≤ x1 ∧ x1 ≤ 23) (k2 : 9 ≤ x2 ∧ x2 ≤ 24) (k3 : 0 ≤ x3 ∧ x3 ≤ 0) (f2 : (x1 + 1) ≤ x2) (f3 : PRM (order_0) (x2)) : PB0 (order_0) (x2) (x1) (x3) := by
  first
    | exact ⟨⟨‹PRM _ _›, by omega, by omega⟩, fun j a b => by exfalso; omega⟩
def o_Mo_putBest_0 : or_T := (2, 4, [(1, (0, 1, 23, [])), (2, (0, 9, 24, [])), (3, (0, 0, 0, []))], [(20, [1, 2], [50, 0, 0, 0, 6, 4, 2, 1, 0, 0, 1, 1, 1]), (20, [0, 2], [60, 0, 1, 338, 96])], [], [], [(20, [0, 2, 1, 3], [60, 0, 1, 340, 96]), (24, [0, 0], []), (24, [2, 2], [])], [], [])
theorem oo_Mo_putBest_0 {kA : Nat → ClassId} : or_ok PRD kA GG o_Mo_putBest_0 := by
  refine or_mk fun A ta ws vs hD hth hl => ?_
  intro t1 k1 t2 k2 t3 k3 f2 f3
  have nf0 : fc_1 PRD (20, [0, 2, 1, 3], [60, 0, 1, 340, 96]) ws (vs) := ⟨nf_in hl rfl, sgq_1658 (vc_Mo_putBest_0_0 (v_iv (n_v vs 1)) (v_iv (n_v vs 2)) (v_iv (n_v vs 3)) (w_ei ws (w_ar ws (n_v vs 0) 96)) k1 k2 k3 (shm_396 f2) (shm_1657 f3))⟩
  have nf1 : fc_1 PRD (24, [0, 0], []) ws (vs) := by
    refine ⟨nf_in hl rfl, sgq_1 ?_⟩
    · show n_v vs 0 = n_v vs 0
      first | rfl | simp only [true_and]
  have nf2 : fc_1 PRD (24, [2, 2], []) ws (vs) := by
    refine ⟨nf_in hl rfl, sgq_1 ?_⟩
    · show n_v vs 2 = n_v vs 2
      first | rfl | simp only [true_and]
  refine ⟨(fun _ h => (by cases h)), [], trivial, ?_, (fun _ h => (by cases h))⟩
  rw [List.append_nil]
  exact List.forall_mem_cons.mpr ⟨⟨show (20 : Nat) < 100 from by decide, nf0⟩, List.forall_mem_cons.mpr ⟨⟨show (24 : Nat) < 100 from by decide, nf1⟩, List.forall_mem_cons.mpr ⟨⟨show (24 : Nat) < 100 from by decide, nf2⟩, (fun _ h => (by cases h))⟩⟩⟩
set_option maxHeartbeats 4000000 in
theorem vc_Mo_putBest_1_0 (x2 : Int) (x4 : Int) (x6 : Int) (x8 : Int) (order_0 : Int → Int) (k2 : 9 ≤ x2 ∧ x2 ≤ 24) (k4 : 1 ≤ x4 ∧ x4 ≤ 23) (k6 : 0 ≤ x6 ∧ x6 ≤ 25) (k8 : 1 ≤ x8 ∧ x8 ≤ 23) (d0 : x4 + 0 ≤ x8 ∧ x8 ≤ x4 + 0) (h1 : x8 = order_0 (x6)) (f4 : PB0 (order_0) (x2) (x4) (x6)) : PB1 (order_0) (x2) (x4) (x6) := by
  first
    | exact pb1_start ‹PB0 _ _ _ _› (by omega) (by omega)
def o_Mo_putBest_1 : or_T := (21, 9, [(2, (0, 9, 24, [])), (4, (0, 1, 23, [])), (6, (0, 0, 25, [])), (8, (0, 1, 23, []))], [(10, [8, 7, 6], []), (9, [7, 3], [96]), (20, [3, 5, 4, 6], [60, 0, 1, 340, 96]), (24, [0, 3], []), (24, [2, 5], [])], [], [], [(20, [3, 5, 4, 6], [60, 0, 1, 341, 96])], [], [(8, 4, 0, 0)])
theorem oo_Mo_putBest_1 {kA : Nat → ClassId} : or_ok PRD kA GG o_Mo_putBest_1 := by
  refine or_mk fun A ta ws vs hD hth hl => ?_
  intro t2 k2 t4 k4 t6 k6 t8 k8 d0 f1 f2 f4 f6 f7
  replace f1 := shm_107 f1
  replace f2 := shm_666 f2
  replace f4 := shm_1658 f4
  replace f6 := shm_5 f6
  replace f7 := shm_5 f7
  have q3 : n_v vs 3 = n_v vs 0 := f6.symm
  have q5 : n_v vs 5 = n_v vs 2 := f7.symm
  simp only [q3, q5] at f2 f4
  have ad_7 : v_ad (n_v vs 7) = w_ar ws (n_v vs 0) 96 := congrArg v_ad f2
  simp only [ad_7] at f1
  have h1 : v_iv (n_v vs 8) = w_ei ws (w_ar ws (n_v vs 0) 96) (v_iv (n_v vs 6)) := f1
  have nf0 : fc_1 PRD (20, [3, 5, 4, 6], [60, 0, 1, 341, 96]) ws (vs) := by
    refine ⟨nf_in hl rfl, sgq_1659 ?_⟩
    · show PB1 (w_ei ws (w_ar ws (n_v vs 3) 96)) (v_iv (n_v vs 5)) (v_iv (n_v vs 4)) (v_iv (n_v vs 6))
      simp only [q3, q5]
      exact vc_Mo_putBest_1_0 (v_iv (n_v vs 2)) (v_iv (n_v vs 4)) (v_iv (n_v vs 6)) (v_iv (n_v vs 8)) (w_ei ws (w_ar ws (n_v vs 0) 96)) k2 k4 k6 k8 d0 h1 f4
  refine ⟨(fun _ h => (by cases h)), [], trivial, ?_, (fun _ h => (by cases h))⟩
  rw [List.append_nil]
  exact List.forall_mem_cons.mpr ⟨⟨show (20 : Nat) < 100 from by decide, nf0⟩, (fun _ h => (by cases h))⟩
set_option maxHeartbeats 4000000 in
theorem vc_Mo_putBest_2_r0 (x2 : Int) (x4 : Int) (x5 : Int) (x6 : Int) (order_0 : Int → Int) (k2 : 9 ≤ x2 ∧ x2 ≤ 24) (k4 : 1 ≤ x4 ∧ x4 ≤ 23) (k5 : 9 ≤ x5 ∧ x5 ≤ 24) (k6 : 0 ≤ x6 ∧ x6 ≤ 25) (d0 : x5 + (-4294967296) ≤ x2 ∧ x2 ≤ x5 + 0) (d1 : x2 + (-4294967296) ≤ x5 ∧ x5 ≤ x2 + 0) (f4 : PB0 (order_0) (x2) (x4) (x6)) : 0 ≤ x6 ∧ x6 ≤ 24 := by
  first
    | (have h := pb0_lt ‹PB0 _ _ _ _›; omega)
def o_Mo_putBest_2 : or_T := (12, 9, [(0, (2, 0, 0, [165])), (2, (0, 9, 24, [])), (3, (2, 0, 0, [165])), (4, (0, 1, 23, [])), (5, (0, 9, 24, [])), (6, (0, 0, 25, [])), (7, (2, 0, 0, [232])), (8, (0, 0, 25, []))], [(7, [8, 4], [1]), (10, [8, 7, 6], []), (9, [7, 3], [96]), (20, [5], [50, 0, 0, 0, 2, 1, 0, 0, 24]), (20, [3, 5, 4, 6], [60, 0, 1, 340, 96]), (20, [4], [50, 0, 0, 0, 2, 0, 1, 1, 0]), (24, [0, 3], []), (24, [2, 5], [])], [(6, (0, 0, 24, []))], [], [], [], [(2, 5, -4294967296, 0), (5, 2, -4294967296, 0)])
theorem oo_Mo_putBest_2 {kA : Nat → ClassId} : or_ok PRD kA GG o_Mo_putBest_2 := by
  refine or_mk fun A ta ws vs hD hth hl => ?_
  intro t0 r0 t2 k2 t3 r3 t4 k4 t5 k5 t6 k6 t7 r7 t8 k8 d0 d1 f0 f1 f2 f3 f4 f5 f6 f7
  replace f4 := shm_1658 f4
  replace f6 := shm_5 f6
  replace f7 := shm_5 f7
  have q3 : n_v vs 3 = n_v vs 0 := f6.symm
  have q5 : n_v vs 5 = n_v vs 2 := f7.symm
  simp only [q3, q5] at f4
  have hrf0 : 0 ≤ v_iv (n_v vs 6) ∧ v_iv (n_v vs 6) ≤ 24 := vc_Mo_putBest_2_r0 (v_iv (n_v vs 2)) (v_iv (n_v vs 4)) (v_iv (n_v vs 5)) (v_iv (n_v vs 6)) (w_ei ws (w_ar ws (n_v vs 0) 96)) k2 k4 k5 k6 d0 d1 f4
  have rf6 : tv_ok ta (0, 0, 24, []) (n_v vs 6) := tv_in t6 (by first | omega | grind) (by first | omega | grind)
  refine ⟨List.forall_mem_cons.mpr ⟨rf6, (fun _ h => (by cases h))⟩, [], trivial, ?_, (fun _ h => (by cases h))⟩
  rw [List.append_nil]
  exact (fun _ h => (by cases h))
set_option maxHeartbeats 4000000 in
theorem vc_Mo_putBest_3_0 (x2 : Int) (x4 : Int) (x6 : Int) (x8 : Int) (x9 : Int) (order_0 : Int → Int) (k2 : 9 ≤ x2 ∧ x2 ≤ 24) (k4 : 1 ≤ x4 ∧ x4 ≤ 23) (k6 : 0 ≤ x6 ∧ x6 ≤ 24) (k8 : 0 ≤ x8 ∧ x8 ≤ 25) (k9 : 1 ≤ x9 ∧ x9 ≤ 25) (f0 : x9 = x6 + 1) (f1 : x8 ≠ x4) (h2 : x8 = order_0 (x6)) (f5 : PB0 (order_0) (x2) (x4) (x6)) : PB0 (order_0) (x2) (x4) (x9) := by
  first
    | exact pb0_next ‹PB0 _ _ _ _› (by omega) (by omega)
def o_Mo_putBest_3 : or_T := (2, 10, [(2, (0, 9, 24, [])), (4, (0, 1, 23, [])), (6, (0, 0, 24, [])), (8, (0, 0, 25, [])), (9, (0, 1, 25, []))], [(6, [9, 6], [1]), (7, [8, 4], [1]), (10, [8, 7, 6], []), (9, [7, 3], [96]), (20, [3, 5, 4, 6], [60, 0, 1, 340, 96]), (24, [0, 3], []), (24, [2, 5], [])], [], [], [(20, [3, 5, 4, 9], [60, 0, 1, 340, 96])], [], [])
theorem oo_Mo_putBest_3 {kA : Nat → ClassId} : or_ok PRD kA GG o_Mo_putBest_3 := by
  refine or_mk fun A ta ws vs hD hth hl => ?_
  intro t2 k2 t4 k4 t6 k6 t8 k8 t9 k9 f0 f1 f2 f3 f5 f7 f8
  replace f0 := shm_4 f0
  replace f1 := shm_40 f1
  replace f2 := shm_107 f2
  replace f3 := shm_666 f3
  replace f5 := shm_1658 f5
  replace f7 := shm_5 f7
  replace f8 := shm_5 f8
  have q3 : n_v vs 3 = n_v vs 0 := f7.symm
  have q5 : n_v vs 5 = n_v vs 2 := f8.symm
  simp only [q3, q5] at f3 f5
  have ad_7 : v_ad (n_v vs 7) = w_ar ws (n_v vs 0) 96 := congrArg v_ad f3
  simp only [ad_7] at f2
  have h2 : v_iv (n_v vs 8) = w_ei ws (w_ar ws (n_v vs 0) 96) (v_iv (n_v vs 6)) := f2
  have nf0 : fc_1 PRD (20, [3, 5, 4, 9], [60, 0, 1, 340, 96]) ws (vs) := by
    refine ⟨nf_in hl rfl, sgq_1658 ?_⟩
    · show PB0 (w_ei ws (w_ar ws (n_v vs 3) 96)) (v_iv (n_v vs 5)) (v_iv (n_v vs 4)) (v_iv (n_v vs 9))
      simp only [q3, q5]
      exact vc_Mo_putBest_3_0 (v_iv (n_v vs 2)) (v_iv (n_v vs 4)) (v_iv (n_v vs 6)) (v_iv (n_v vs 8)) (v_iv (n_v vs 9)) (w_ei ws (w_ar ws (n_v vs 0) 96)) k2 k4 k6 k8 k9 f0 f1 h2 f5
  refine ⟨(fun _ h => (by cases h)), [], trivial, ?_, (fun _ h => (by cases h))⟩
  rw [List.append_nil]
  exact List.forall_mem_cons.mpr ⟨⟨show (20 : Nat) < 100 from by decide, nf0⟩, (fun _ h => (by cases h))⟩
set_option maxHeartbeats 4000000 in
theorem vc_Mo_putBest_4_0 (x2 : Int) (x4 : Int) (x5 : Int) (x7 : Int) (x9 : Int) (order_0 : Int → Int) (k2 : 9 ≤ x2 ∧ x2 ≤ 24) (k4 : 1 ≤ x4 ∧ x4 ≤ 23) (k5 : 9 ≤ x5 ∧ x5 ≤ 24) (k7 : 8 ≤ x7 ∧ x7 ≤ 25) (k9 : 9 ≤ x9 ∧ x9 ≤ 26) (d0 : x5 + 0 ≤ x9 ∧ x9 ≤ x5 + 4294967296) (d1 : x7 + 1 ≤ x9 ∧ x9 ≤ x7 + 1) (d2 : x5 + (-4294967296) ≤ x2 ∧ x2 ≤ x5 + 0) (d3 : x2 + (-4294967296) ≤ x5 ∧ x5 ≤ x2 + 0) (f3 : PB1 (order_0) (x2) (x4) (x7)) : WO2 (order_0) (x2) (x4) := by
  first
    | exact pb1_end ‹PB1 _ _ _ _› (by omega)
set_option maxHeartbeats 4000000 in
theorem vc_Mo_putBest_4_1 (x11 : Int) (k11 : 1 ≤ x11 ∧ x11 ≤ 1) : 1 ≤ x11 := by
  first
    | omega
set_option maxHeartbeats 4000000 in
theorem vc_Mo_putBest_4_2 (x2 : Int) (x5 : Int) (x11 : Int) (k2 : 9 ≤ x2 ∧ x2 ≤ 24) (k5 : 9 ≤ x5 ∧ x5 ≤ 24) (k11 : 1 ≤ x11 ∧ x11 ≤ 1) (d2 : x5 + (-4294967296) ≤ x2 ∧ x2 ≤ x5 + 0) (d3 : x2 + (-4294967296) ≤ x5 ∧ x5 ≤ x2 + 0) : (x11 + 1) ≤ x2 := by
  first
    | omega
def o_Mo_putBest_4 : or_T := (62, 13, [(2, (0, 9, 24, [])), (4, (0, 1, 23, [])), (5, (0, 9, 24, [])), (7, (0, 8, 25, [])), (9, (0, 9, 26, [])), (11, (0, 1, 1, []))], [(20, [3, 5, 4, 7], [60, 0, 1, 341, 96]), (24, [0, 3], []), (24, [2, 5], [])], [], [], [(20, [3, 5, 4], [60, 0, 1, 339, 96]), (20, [11], [50, 0, 0, 0, 2, 0, 1, 1, 0]), (20, [11, 5], [50, 0, 0, 0, 6, 4, 2, 1, 0, 0, 1, 1, 1])], [], [(9, 5, 0, 4294967296), (9, 7, 1, 1), (2, 5, -4294967296, 0), (5, 2, -4294967296, 0)])
theorem oo_Mo_putBest_4 {kA : Nat → ClassId} : or_ok PRD kA GG o_Mo_putBest_4 := by
  refine or_mk fun A ta ws vs hD hth hl => ?_
  intro t2 k2 t4 k4 t5 k5 t7 k7 t9 k9 t11 k11 d0 d1 d2 d3 f3 f5 f6
  replace f3 := shm_1659 f3
  replace f5 := shm_5 f5
  replace f6 := shm_5 f6
  have q3 : n_v vs 3 = n_v vs 0 := f5.symm
  have q5 : n_v vs 5 = n_v vs 2 := f6.symm
  simp only [q5, q3] at f3
  have nf0 : fc_1 PRD (20, [3, 5, 4], [60, 0, 1, 339, 96]) ws (vs) := by
    refine ⟨nf_in hl rfl, sgq_1660 ?_⟩
    · show WO2 (w_ei ws (w_ar ws (n_v vs 3) 96)) (v_iv (n_v vs 5)) (v_iv (n_v vs 4))
      simp only [q3, q5]
      exact vc_Mo_putBest_4_0 (v_iv (n_v vs 2)) (v_iv (n_v vs 4)) (v_iv (n_v vs 5)) (v_iv (n_v vs 7)) (v_iv (n_v vs 9)) (w_ei ws (w_ar ws (n_v vs 0) 96)) k2 k4 k5 k7 k9 d0 d1 d2 d3 f3
  have nf1 : fc_1 PRD (20, [11], [50, 0, 0, 0, 2, 0, 1, 1, 0]) ws (vs) := ⟨nf_in hl rfl, sgq_710 (vc_Mo_putBest_4_1 (v_iv (n_v vs 11)) k11)⟩
  have nf2 : fc_1 PRD (20, [11, 5], [50, 0, 0, 0, 6, 4, 2, 1, 0, 0, 1, 1, 1]) ws (vs) := by
    refine ⟨nf_in hl rfl, sgq_396 ?_⟩
    · show (v_iv (n_v vs 11) + 1) ≤ v_iv (n_v vs 5)
      rw [q5]
      exact vc_Mo_putBest_4_2 (v_iv (n_v vs 2)) (v_iv (n_v vs 5)) (v_iv (n_v vs 11)) k2 k5 k11 d2 d3
  refine ⟨(fun _ h => (by cases h)), [], trivial, ?_, (fun _ h => (by cases h))⟩
  rw [List.append_nil]
  exact List.forall_mem_cons.mpr ⟨⟨show (20 : Nat) < 100 from by decide, nf0⟩, List.forall_mem_cons.mpr ⟨⟨show (20 : Nat) < 100 from by decide, nf1⟩, List.forall_mem_cons.mpr ⟨⟨show (20 : Nat) < 100 from by decide, nf2⟩, (fun _ h => (by cases h))⟩⟩⟩
set_option maxHeartbeats 4000000 in
theorem vc_Mo_putBest_5_0 (x2 : Int) (x4 : Int) (x5 : Int) (x7 : Int) (x9 : Int) (x12 : Int) (x13 : Int) (x14 : Int) (order_1 : Int → Int) (order_0 : Int → Int) (k2 : 9 ≤ x2 ∧ x2 ≤ 24) (k4 : 1 ≤ x4 ∧ x4 ≤ 23) (k5 : 9 ≤ x5 ∧ x5 ≤ 24) (k7 : 0 ≤ x7 ∧ x7 ≤ 22) (k9 : 1 ≤ x9 ∧ x9 ≤ 23) (k12 : 1 ≤ x12 ∧ x12 ≤ 23) (k13 : 0 ≤ x13 ∧ x13 ≤ 25) (k14 : 1 ≤ x14 ∧ x14 ≤ 23) (d0 : x7 + 1 ≤ x14 ∧ x14 ≤ x7 + 1) (d1 : x7 + 1 ≤ x12 ∧ x12 ≤ x7 + 1) (d2 : x5 + (-4294967296) ≤ x9 ∧ x9 ≤ x5 + (-1)) (d3 : x7 + 1 ≤ x9 ∧ x9 ≤ x7 + 1) (d4 : x5 + (-4294967296) ≤ x2 ∧ x2 ≤ x5 + 0) (d5 : x2 + (-4294967296) ≤ x5 ∧ x5 ≤ x2 + 0) (f0 : x14 = x7 + 1) (h6 : x13 = order_1 (x12)) (f12 : PB1 (order_1) (x2) (x4) (x7)) (hE_0_96_1 : ∀ j : Int, 0 ≤ j → (j = x7 → order_0 j = x13) ∧ (j ≠ x7 → order_0 j = order_1 j)) : PB1 (order_0) (x2) (x4) (x14) := by
  first
    | exact pb1_step ‹PB1 _ _ _ _› (by omega) (by omega) (by assumption) (by omega) (by assumption) (by omega)
def o_Mo_putBest_5 : or_T := (21, 15, [(0, (2, 0, 0, [165])), (2, (0, 9, 24, [])), (4, (0, 1, 23, [])), (5, (0, 9, 24, [])), (7, (0, 0, 22, [])), (9, (0, 1, 23, [])), (12, (0, 1, 23, [])), (13, (0, 0, 25, [])), (14, (0, 1, 23, []))], [(6, [14, 7], [1]), (24, [0, 3], []), (24, [2, 5], []), (100, [10, 7, 13], []), (10, [13, 10, 12], []), (9, [10, 3], [96]), (20, [3, 5, 4, 7], [60, 0, 1, 341, 96])], [], [], [(20, [3, 5, 4, 14], [60, 0, 1, 341, 96])], [], [(14, 7, 1, 1), (12, 7, 1, 1), (9, 5, -4294967296, -1), (9, 7, 1, 1), (2, 5, -4294967296, 0), (5, 2, -4294967296, 0)])
theorem oo_Mo_putBest_5 {kA : Nat → ClassId} : or_ok PRD kA GG o_Mo_putBest_5 := by
  refine or_mk fun A ta ws vs hD hth hl => ?_
  intro t0 r0 t2 k2 t4 k4 t5 k5 t7 k7 t9 k9 t12 k12 t13 k13 t14 k14 d0 d1 d2 d3 d4 d5 f0 f3 f4 ta1 w1 le1 s1 f6 f8 f12
  replace f0 := shm_4 f0
  replace f3 := shm_5 f3
  replace f4 := shm_5 f4
  have s1 : (∀ b j, w_el ws b j = if b = v_ad (n_v vs 10) ∧ j = (v_iv (n_v vs 7)).toNat then v_iv (n_v vs 13) else w_el w1 b j) ∧ ∀ b k, w_fd ws b k = w_fd w1 b k := s1.2
  replace f6 := shm_107 f6
  replace f8 := shm_666 f8
  replace f12 := shm_1659 f12
  have q3 : n_v vs 3 = n_v vs 0 := f3.symm
  have q5 : n_v vs 5 = n_v vs 2 := f4.symm
  simp only [q5, q3] at f8 f12
  have ar_0_96_1 : w_ar w1 (n_v vs 0) 96 = w_ar ws (n_v vs 0) 96 := congrArg v_ad (s1.2 _ _).symm
  have ad_10 : v_ad (n_v vs 10) = w_ar ws (n_v vs 0) 96 := (congrArg v_ad f8).trans ar_0_96_1
  simp only [ad_10] at f6
  have h6 : v_iv (n_v vs 13) = w_ei w1 (w_ar ws (n_v vs 0) 96) (v_iv (n_v vs 12)) := f6
  simp only [ar_0_96_1] at f12
  have hE_0_96_1 : ∀ j : Int, 0 ≤ j → (j = v_iv (n_v vs 7) → w_ei ws (w_ar ws (n_v vs 0) 96) j = v_iv (n_v vs 13)) ∧ (j ≠ v_iv (n_v vs 7) → w_ei ws (w_ar ws (n_v vs 0) 96) j = w_ei w1 (w_ar ws (n_v vs 0) 96) j) := fun j hj => ⟨fun h => by unfold w_ei; rw [s1.1, if_pos ⟨ad_10.symm, by rw [h]⟩], fun h => by unfold w_ei; rw [s1.1, if_neg (fun e => h (by have := e.2; omega))]⟩
  have nf0 : fc_1 PRD (20, [3, 5, 4, 14], [60, 0, 1, 341, 96]) ws (vs) := by
    refine ⟨nf_in hl rfl, sgq_1659 ?_⟩
    · show PB1 (w_ei ws (w_ar ws (n_v vs 3) 96)) (v_iv (n_v vs 5)) (v_iv (n_v vs 4)) (v_iv (n_v vs 14))
      simp only [q3, q5]
      exact vc_Mo_putBest_5_0 (v_iv (n_v vs 2)) (v_iv (n_v vs 4)) (v_iv (n_v vs 5)) (v_iv (n_v vs 7)) (v_iv (n_v vs 9)) (v_iv (n_v vs 12)) (v_iv (n_v vs 13)) (v_iv (n_v vs 14)) (w_ei w1 (w_ar ws (n_v vs 0) 96)) (w_ei ws (w_ar ws (n_v vs 0) 96)) k2 k4 k5 k7 k9 k12 k13 k14 d0 d1 d2 d3 d4 d5 f0 h6 f12 hE_0_96_1
  refine ⟨(fun _ h => (by cases h)), [], trivial, ?_, (fun _ h => (by cases h))⟩
  rw [List.append_nil]
  exact List.forall_mem_cons.mpr ⟨⟨show (20 : Nat) < 100 from by decide, nf0⟩, (fun _ h => (by cases h))⟩
set_option maxHeartbeats 4000000 in
theorem vc_Mo_putBest_6_0 (x2 : Int) (x4 : Int) (x5 : Int) (x8 : Int) (x11 : Int) (order_0 : Int → Int) (k2 : 9 ≤ x2 ∧ x2 ≤ 24) (k4 : 1 ≤ x4 ∧ x4 ≤ 23) (k5 : 9 ≤ x5 ∧ x5 ≤ 24) (k8 : 1 ≤ x8 ∧ x8 ≤ 23) (k11 : 8 ≤ x11 ∧ x11 ≤ 23) (d0 : x5 + (-1) ≤ x11 ∧ x11 ≤ x5 + (-1)) (d1 : x2 + (-4294967296) ≤ x11 ∧ x11 ≤ x2 + (-1)) (d3 : x5 + (-4294967296) ≤ x2 ∧ x2 ≤ x5 + 0) (f3 : WO2 (order_0) (x2) (x4)) (f4 : 1 ≤ x8) (f5 : (x8 + 1) ≤ x2) : PB2 (order_0) (x2) (x4) (x8) (x11) := by
  first
    | exact pb2_start ‹WO2 _ _ _› (by omega) (by omega) (by omega)
def o_Mo_putBest_6 : or_T := (177, 12, [(2, (0, 9, 24, [])), (4, (0, 1, 23, [])), (5, (0, 9, 24, [])), (8, (0, 1, 23, [])), (11, (0, 8, 23, []))], [(20, [3, 5, 4], [60, 0, 1, 339, 96]), (20, [8], [50, 0, 0, 0, 2, 0, 1, 1, 0]), (20, [8, 5], [50, 0, 0, 0, 6, 4, 2, 1, 0, 0, 1, 1, 1]), (24, [0, 3], []), (24, [2, 5], [])], [], [], [(20, [3, 5, 4, 8, 11], [60, 0, 1, 342, 96])], [], [(11, 5, -1, -1), (11, 2, -4294967296, -1), (2, 5, -4294967296, 0)])
theorem oo_Mo_putBest_6 {kA : Nat → ClassId} : or_ok PRD kA GG o_Mo_putBest_6 := by
  refine or_mk fun A ta ws vs hD hth hl => ?_
  intro t2 k2 t4 k4 t5 k5 t8 k8 t11 k11 d0 d1 d3 f3 f4 f5 f6 f7
  replace f3 := shm_1660 f3
  replace f4 := shm_710 f4
  replace f5 := shm_396 f5
  replace f6 := shm_5 f6
  replace f7 := shm_5 f7
  have q3 : n_v vs 3 = n_v vs 0 := f6.symm
  have q5 : n_v vs 5 = n_v vs 2 := f7.symm
  simp only [q5, q3] at f3 f5
  have nf0 : fc_1 PRD (20, [3, 5, 4, 8, 11], [60, 0, 1, 342, 96]) ws (vs) := by
    refine ⟨nf_in hl rfl, sgq_1661 ?_⟩
    · show PB2 (w_ei ws (w_ar ws (n_v vs 3) 96)) (v_iv (n_v vs 5)) (v_iv (n_v vs 4)) (v_iv (n_v vs 8)) (v_iv (n_v vs 11))
      simp only [q3, q5]
      exact vc_Mo_putBest_6_0 (v_iv (n_v vs 2)) (v_iv (n_v vs 4)) (v_iv (n_v vs 5)) (v_iv (n_v vs 8)) (v_iv (n_v vs 11)) (w_ei ws (w_ar ws (n_v vs 0) 96)) k2 k4 k5 k8 k11 d0 d1 d3 f3 f4 f5
  refine ⟨(fun _ h => (by cases h)), [], trivial, ?_, (fun _ h => (by cases h))⟩
  rw [List.append_nil]
  exact List.forall_mem_cons.mpr ⟨⟨show (20 : Nat) < 100 from by decide, nf0⟩, (fun _ h => (by cases h))⟩
set_option maxHeartbeats 4000000 in
theorem vc_Mo_putBest_7_0 (x2 : Int) (x4 : Int) (x5 : Int) (x9 : Int) (x11 : Int) (order_0 : Int → Int) (k2 : 9 ≤ x2 ∧ x2 ≤ 24) (k4 : 1 ≤ x4 ∧ x4 ≤ 23) (k5 : 9 ≤ x5 ∧ x5 ≤ 24) (k9 : 1 ≤ x9 ∧ x9 ≤ 23) (k11 : 8 ≤ x11 ∧ x11 ≤ 23) (d0 : x5 + (-1) ≤ x11 ∧ x11 ≤ x5 + (-1)) (d1 : x2 + (-4294967296) ≤ x11 ∧ x11 ≤ x2 + (-1)) (d3 : x5 + (-4294967296) ≤ x2 ∧ x2 ≤ x5 + 0) (f1 : x9 < x2) (f3 : WO2 (order_0) (x2) (x4)) : PB2 (order_0) (x2) (x4) (x9) (x11) := by
  first
    | exact pb2_start ‹WO2 _ _ _› (by omega) (by omega) (by omega)
def o_Mo_putBest_7 : or_T := (73, 12, [(2, (0, 9, 24, [])), (4, (0, 1, 23, [])), (5, (0, 9, 24, [])), (9, (0, 1, 23, [])), (11, (0, 8, 23, []))], [(7, [9, 5], [2]), (20, [3, 5, 4], [60, 0, 1, 339, 96]), (24, [0, 3], []), (24, [2, 5], [])], [], [], [(20, [3, 5, 4, 9, 11], [60, 0, 1, 342, 96])], [], [(11, 5, -1, -1), (11, 2, -4294967296, -1), (2, 5, -4294967296, 0)])
theorem oo_Mo_putBest_7 {kA : Nat → ClassId} : or_ok PRD kA GG o_Mo_putBest_7 := by
  refine or_mk fun A ta ws vs hD hth hl => ?_
  intro t2 k2 t4 k4 t5 k5 t9 k9 t11 k11 d0 d1 d3 f1 f3 f6 f7
  replace f1 := shm_6 f1
  replace f3 := shm_1660 f3
  replace f6 := shm_5 f6
  replace f7 := shm_5 f7
  have q3 : n_v vs 3 = n_v vs 0 := f6.symm
  have q5 : n_v vs 5 = n_v vs 2 := f7.symm
  simp only [q5, q3] at f1 f3
  have nf0 : fc_1 PRD (20, [3, 5, 4, 9, 11], [60, 0, 1, 342, 96]) ws (vs) := by
    refine ⟨nf_in hl rfl, sgq_1661 ?_⟩
    · show PB2 (w_ei ws (w_ar ws (n_v vs 3) 96)) (v_iv (n_v vs 5)) (v_iv (n_v vs 4)) (v_iv (n_v vs 9)) (v_iv (n_v vs 11))
      simp only [q3, q5]
      exact vc_Mo_putBest_7_0 (v_iv (n_v vs 2)) (v_iv (n_v vs 4)) (v_iv (n_v vs 5)) (v_iv (n_v vs 9)) (v_iv (n_v vs 11)) (w_ei ws (w_ar ws (n_v vs 0) 96)) k2 k4 k5 k9 k11 d0 d1 d3 f1 f3
  refine ⟨(fun _ h => (by cases h)), [], trivial, ?_, (fun _ h => (by cases h))⟩
  rw [List.append_nil]
  exact List.forall_mem_cons.mpr ⟨⟨show (20 : Nat) < 100 from by decide, nf0⟩, (fun _ h => (by cases h))⟩
set_option maxHeartbeats 4000000 in
theorem vc_Mo_putBest_8_0 (x2 : Int) (x4 : Int) (x9 : Int) (x10 : Int) (order_1 : Int → Int) (order_0 : Int → Int) (k2 : 9 ≤ x2 ∧ x2 ≤ 24) (k4 : 1 ≤ x4 ∧ x4 ≤ 23) (k9 : 1 ≤ x9 ∧ x9 ≤ 23) (k10 : 1 ≤ x10 ∧ x10 ≤ 23) (f7 : x10 ≤ x9) (f9 : PB2 (order_1) (x2) (x4) (x9) (x10)) (hE_0_96_1 : ∀ j : Int, 0 ≤ j → (j = x9 → order_0 j = x4) ∧ (j ≠ x9 → order_0 j = order_1 j)) : PB3 (order_0) (x2) (x4) (x9) (x9) := by
  exact pb3_start ‹PB2 _ _ _ _ _› (by omega) (by assumption) (by omega) (by omega)
def o_Mo_putBest_8 : or_T := (112, 12, [(0, (2, 0, 0, [165])), (2, (0, 9, 24, [])), (4, (0, 1, 23, [])), (9, (0, 1, 23, [])), (10, (0, 1, 23, []))], [(24, [0, 3], []), (24, [2, 5], []), (100, [11, 9, 4], []), (9, [11, 3], [96]), (7, [10, 9], [5]), (20, [3, 5, 4, 9, 10], [60, 0, 1, 342, 96])], [], [], [(20, [3, 5, 4, 9, 9], [60, 0, 1, 343, 96])], [], [(10, 9, -4294967296, 0), (8, 9, -4294967296, 0)])
theorem oo_Mo_putBest_8 {kA : Nat → ClassId} : or_ok PRD kA GG o_Mo_putBest_8 := by
  refine or_mk fun A ta ws vs hD hth hl => ?_
  intro t0 r0 t2 k2 t4 k4 t9 k9 t10 k10 d0 d3 f3 f4 ta1 w1 le1 s1 f6 f7 f9
  replace f3 := shm_5 f3
  replace f4 := shm_5 f4
  have s1 : (∀ b j, w_el ws b j = if b = v_ad (n_v vs 11) ∧ j = (v_iv (n_v vs 9)).toNat then v_iv (n_v vs 4) else w_el w1 b j) ∧ ∀ b k, w_fd ws b k = w_fd w1 b k := s1.2
  replace f6 := shm_666 f6
  replace f7 := shm_24 f7
  replace f9 := shm_1661 f9
  have q3 : n_v vs 3 = n_v vs 0 := f3.symm
  have q5 : n_v vs 5 = n_v vs 2 := f4.symm
  simp only [q5, q3] at f6 f9
  have ar_0_96_1 : w_ar w1 (n_v vs 0) 96 = w_ar ws (n_v vs 0) 96 := congrArg v_ad (s1.2 _ _).symm
  have ad_11 : v_ad (n_v vs 11) = w_ar ws (n_v vs 0) 96 := (congrArg v_ad f6).trans ar_0_96_1
  simp only [ar_0_96_1] at f9
  have hE_0_96_1 : ∀ j : Int, 0 ≤ j → (j = v_iv (n_v vs 9) → w_ei ws (w_ar ws (n_v vs 0) 96) j = v_iv (n_v vs 4)) ∧ (j ≠ v_iv (n_v vs 9) → w_ei ws (w_ar ws (n_v vs 0) 96) j = w_ei w1 (w_ar ws (n_v vs 0) 96) j) := fun j hj => ⟨fun h => by unfold w_ei; rw [s1.1, if_pos ⟨ad_11.symm, by rw [h]⟩], fun h => by unfold w_ei; rw [s1.1, if_neg (fun e => h (by have := e.2; omega))]⟩
  have nf0 : fc_1 PRD (20, [3, 5, 4, 9, 9], [60, 0, 1, 343, 96]) ws (vs) := by
    refine ⟨nf_in hl rfl, sgq_1662 ?_⟩
    · show PB3 (w_ei ws (w_ar ws (n_v vs 3) 96)) (v_iv (n_v vs 5)) (v_iv (n_v vs 4)) (v_iv (n_v vs 9)) (v_iv (n_v vs 9))
      simp only [q3, q5]
      exact vc_Mo_putBest_8_0 (v_iv (n_v vs 2)) (v_iv (n_v vs 4)) (v_iv (n_v vs 9)) (v_iv (n_v vs 10)) (w_ei w1 (w_ar ws (n_v vs 0) 96)) (w_ei ws (w_ar ws (n_v vs 0) 96)) k2 k4 k9 k10 f7 f9 hE_0_96_1
  refine ⟨(fun _ h => (by cases h)), [], trivial, ?_, (fun _ h => (by cases h))⟩
  rw [List.append_nil]
  exact List.forall_mem_cons.mpr ⟨⟨show (20 : Nat) < 100 from by decide, nf0⟩, (fun _ h => (by cases h))⟩
set_option maxHeartbeats 4000000 in
theorem vc_Mo_putBest_9_0 (x9 : Int) (k9 : 1 ≤ x9 ∧ x9 ≤ 23) : 1 ≤ x9 := by
  first
    | omega
set_option maxHeartbeats 4000000 in
theorem vc_Mo_putBest_9_1 (x2 : Int) (x4 : Int) (x5 : Int) (x9 : Int) (order_0 : Int → Int) (k2 : 9 ≤ x2 ∧ x2 ≤ 24) (k4 : 1 ≤ x4 ∧ x4 ≤ 23) (k5 : 9 ≤ x5 ∧ x5 ≤ 24) (k9 : 1 ≤ x9 ∧ x9 ≤ 23) (d1 : x5 + (-4294967296) ≤ x2 ∧ x2 ≤ x5 + 0) (d2 : x2 + (-4294967296) ≤ x5 ∧ x5 ≤ x2 + 0) (f0 : PB3 (order_0) (x2) (x4) (x9) (x9)) : (x9 + 1) ≤ x2 := by
  first
    | (have h := pb_len ‹PB2 _ _ _ _ _›; omega)
def o_Mo_putBest_9 : or_T := (136, 13, [(2, (0, 9, 24, [])), (4, (0, 1, 23, [])), (5, (0, 9, 24, [])), (9, (0, 1, 23, []))], [(20, [3, 5, 4, 9, 9], [60, 0, 1, 343, 96]), (24, [0, 3], []), (24, [2, 5], [])], [], [], [(20, [9], [50, 0, 0, 0, 2, 0, 1, 1, 0]), (20, [9, 5], [50, 0, 0, 0, 6, 4, 2, 1, 0, 0, 1, 1, 1])], [], [(2, 5, -4294967296, 0), (5, 2, -4294967296, 0)])
theorem oo_Mo_putBest_9 {kA : Nat → ClassId} : or_ok PRD kA GG o_Mo_putBest_9 := by
  refine or_mk fun A ta ws vs hD hth hl => ?_
  intro t2 k2 t4 k4 t5 k5 t9 k9 d1 d2 f0 f4 f5
  replace f0 := shm_1662 f0
  replace f4 := shm_5 f4
  replace f5 := shm_5 f5
  have q3 : n_v vs 3 = n_v vs 0 := f4.symm
  have q5 : n_v vs 5 = n_v vs 2 := f5.symm
  simp only [q3, q5] at f0
  have nf0 : fc_1 PRD (20, [9], [50, 0, 0, 0, 2, 0, 1, 1, 0]) ws (vs) := ⟨nf_in hl rfl, sgq_710 (vc_Mo_putBest_9_0 (v_iv (n_v vs 9)) k9)⟩
  have nf1 : fc_1 PRD (20, [9, 5], [50, 0, 0, 0, 6, 4, 2, 1, 0, 0, 1, 1, 1]) ws (vs) := by
    refine ⟨nf_in hl rfl, sgq_396 ?_⟩
    · show (v_iv (n_v vs 9) + 1) ≤ v_iv (n_v vs 5)
      rw [q5]
      exact vc_Mo_putBest_9_1 (v_iv (n_v vs 2)) (v_iv (n_v vs 4)) (v_iv (n_v vs 5)) (v_iv (n_v vs 9)) (w_ei ws (w_ar ws (n_v vs 0) 96)) k2 k4 k5 k9 d1 d2 f0
  refine ⟨(fun _ h => (by cases h)), [], trivial, ?_, (fun _ h => (by cases h))⟩
  rw [List.append_nil]
  exact List.forall_mem_cons.mpr ⟨⟨show (20 : Nat) < 100 from by decide, nf0⟩, List.forall_mem_cons.mpr ⟨⟨show (20 : Nat) < 100 from by decide, nf1⟩, (fun _ h => (by cases h))⟩⟩
set_option maxHeartbeats 4000000 in
theorem vc_Mo_putBest_10_0 (x2 : Int) (x4 : Int) (x9 : Int) (x10 : Int) (x13 : Int) (x14 : Int) (x15 : Int) (order_1 : Int → Int) (order_0 : Int → Int) (k2 : 9 ≤ x2 ∧ x2 ≤ 24) (k4 : 1 ≤ x4 ∧ x4 ≤ 23) (k9 : 1 ≤ x9 ∧ x9 ≤ 22) (k10 : 2 ≤ x10 ∧ x10 ≤ 23) (k13 : 1 ≤ x13 ∧ x13 ≤ 22) (k14 : 0 ≤ x14 ∧ x14 ≤ 25) (k15 : 1 ≤ x15 ∧ x15 ≤ 22) (d0 : x10 + (-1) ≤ x15 ∧ x15 ≤ x10 + (-1)) (d4 : x10 + (-1) ≤ x13 ∧ x13 ≤ x10 + (-1)) (h7 : x14 = order_1 (x13)) (f10 : x9 < x10) (f12 : PB2 (order_1) (x2) (x4) (x9) (x10)) (hE_0_96_1 : ∀ j : Int, 0 ≤ j → (j = x10 → order_0 j = x14) ∧ (j ≠ x10 → order_0 j = order_1 j)) : PB2 (order_0) (x2) (x4) (x9) (x15) := by
  first
    | exact pb2_step ‹PB2 _ _ _ _ _› (by omega) (by omega) (by assumption) (by omega) (by assumption) (by omega)
def o_Mo_putBest_10 : or_T := (73, 16, [(0, (2, 0, 0, [165])), (2, (0, 9, 24, [])), (4, (0, 1, 23, [])), (9, (0, 1, 22, [])), (10, (0, 2, 23, [])), (13, (0, 1, 22, [])), (14, (0, 0, 25, [])), (15, (0, 1, 22, []))], [(24, [0, 3], []), (24, [2, 5], []), (100, [11, 10, 14], []), (10, [14, 11, 13], []), (9, [11, 3], [96]), (7, [10, 9], [4]), (20, [3, 5, 4, 9, 10], [60, 0, 1, 342, 96])], [], [], [(20, [3, 5, 4, 9, 15], [60, 0, 1, 342, 96])], [], [(15, 10, -1, -1), (13, 10, -1, -1), (10, 9, 1, 4294967296), (10, 2, -4294967296, -1), (10, 5, -4294967296, -1)])
theorem oo_Mo_putBest_10 {kA : Nat → ClassId} : or_ok PRD kA GG o_Mo_putBest_10 := by
  refine or_mk fun A ta ws vs hD hth hl => ?_
  intro t0 r0 t2 k2 t4 k4 t9 k9 t10 k10 t13 k13 t14 k14 t15 k15 d0 d4 d8 d12 d13 f4 f5 ta1 w1 le1 s1 f7 f9 f10 f12
  replace f4 := shm_5 f4
  replace f5 := shm_5 f5
  have s1 : (∀ b j, w_el ws b j = if b = v_ad (n_v vs 11) ∧ j = (v_iv (n_v vs 10)).toNat then v_iv (n_v vs 14) else w_el w1 b j) ∧ ∀ b k, w_fd ws b k = w_fd w1 b k := s1.2
  replace f7 := shm_107 f7
  replace f9 := shm_666 f9
  replace f10 := shm_21 f10
  replace f12 := shm_1661 f12
  have q3 : n_v vs 3 = n_v vs 0 := f4.symm
  have q5 : n_v vs 5 = n_v vs 2 := f5.symm
  simp only [q5, q3] at f9 f12
  have ar_0_96_1 : w_ar w1 (n_v vs 0) 96 = w_ar ws (n_v vs 0) 96 := congrArg v_ad (s1.2 _ _).symm
  have ad_11 : v_ad (n_v vs 11) = w_ar ws (n_v vs 0) 96 := (congrArg v_ad f9).trans ar_0_96_1
  simp only [ad_11] at f7
  have h7 : v_iv (n_v vs 14) = w_ei w1 (w_ar ws (n_v vs 0) 96) (v_iv (n_v vs 13)) := f7
  simp only [ar_0_96_1] at f12
  have hE_0_96_1 : ∀ j : Int, 0 ≤ j → (j = v_iv (n_v vs 10) → w_ei ws (w_ar ws (n_v vs 0) 96) j = v_iv (n_v vs 14)) ∧ (j ≠ v_iv (n_v vs 10) → w_ei ws (w_ar ws (n_v vs 0) 96) j = w_ei w1 (w_ar ws (n_v vs 0) 96) j) := fun j hj => ⟨fun h => by unfold w_ei; rw [s1.1, if_pos ⟨ad_11.symm, by rw [h]⟩], fun h => by unfold w_ei; rw [s1.1, if_neg (fun e => h (by have := e.2; omega))]⟩
  have nf0 : fc_1 PRD (20, [3, 5, 4, 9, 15], [60, 0, 1, 342, 96]) ws (vs) := by
    refine ⟨nf_in hl rfl, sgq_1661 ?_⟩
    · show PB2 (w_ei ws (w_ar ws (n_v vs 3) 96)) (v_iv (n_v vs 5)) (v_iv (n_v vs 4)) (v_iv (n_v vs 9)) (v_iv (n_v vs 15))
      simp only [q3, q5]
      exact vc_Mo_putBest_10_0 (v_iv (n_v vs 2)) (v_iv (n_v vs 4)) (v_iv (n_v vs 9)) (v_iv (n_v vs 10)) (v_iv (n_v vs 13)) (v_iv (n_v vs 14)) (v_iv (n_v vs 15)) (w_ei w1 (w_ar ws (n_v vs 0) 96)) (w_ei ws (w_ar ws (n_v vs 0) 96)) k2 k4 k9 k10 k13 k14 k15 d0 d4 h7 f10 f12 hE_0_96_1
  refine ⟨(fun _ h => (by cases h)), [], trivial, ?_, (fun _ h => (by cases h))⟩
  rw [List.append_nil]
  exact List.forall_mem_cons.mpr ⟨⟨show (20 : Nat) < 100 from by decide, nf0⟩, (fun _ h => (by cases h))⟩
set_option maxHeartbeats 4000000 in
theorem vc_Mo_putBest_11_0 (x2 : Int) (x4 : Int) (x5 : Int) (x9 : Int) (x11 : Int) (x13 : Int) (order_0 : Int → Int) (k2 : 9 ≤ x2 ∧ x2 ≤ 24) (k4 : 1 ≤ x4 ∧ x4 ≤ 23) (k5 : 9 ≤ x5 ∧ x5 ≤ 24) (k9 : 1 ≤ x9 ∧ x9 ≤ 23) (k11 : 8 ≤ x11 ∧ x11 ≤ 23) (k13 : 9 ≤ x13 ∧ x13 ≤ 24) (d2 : x5 + 0 ≤ x13 ∧ x13 ≤ x5 + 4294967296) (d3 : x11 + 1 ≤ x13 ∧ x13 ≤ x11 + 1) (d4 : x5 + (-4294967296) ≤ x2 ∧ x2 ≤ x5 + 0) (d5 : x2 + (-4294967296) ≤ x5 ∧ x5 ≤ x2 + 0) (f4 : PB3 (order_0) (x2) (x4) (x9) (x11)) : WO2 (order_0) (x2) (x4) := by
  first
    | exact pb3_end ‹PB3 _ _ _ _ _› (by omega)
def o_Mo_putBest_11 : or_T := (62, 15, [(2, (0, 9, 24, [])), (4, (0, 1, 23, [])), (5, (0, 9, 24, [])), (9, (0, 1, 23, [])), (11, (0, 8, 23, [])), (13, (0, 9, 24, []))], [(20, [3, 5, 4, 9, 11], [60, 0, 1, 343, 96]), (24, [0, 3], []), (24, [2, 5], [])], [], [], [(20, [3, 5, 4], [60, 0, 1, 339, 96])], [], [(13, 5, 0, 4294967296), (13, 11, 1, 1), (2, 5, -4294967296, 0), (5, 2, -4294967296, 0)])
theorem oo_Mo_putBest_11 {kA : Nat → ClassId} : or_ok PRD kA GG o_Mo_putBest_11 := by
  refine or_mk fun A ta ws vs hD hth hl => ?_
  intro t2 k2 t4 k4 t5 k5 t9 k9 t11 k11 t13 k13 d2 d3 d4 d5 f4 f7 f8
  replace f4 := shm_1663 f4
  replace f7 := shm_5 f7
  replace f8 := shm_5 f8
  have q3 : n_v vs 3 = n_v vs 0 := f7.symm
  have q5 : n_v vs 5 = n_v vs 2 := f8.symm
  simp only [q5, q3] at f4
  have nf0 : fc_1 PRD (20, [3, 5, 4], [60, 0, 1, 339, 96]) ws (vs) := by
    refine ⟨nf_in hl rfl, sgq_1660 ?_⟩
    · show WO2 (w_ei ws (w_ar ws (n_v vs 3) 96)) (v_iv (n_v vs 5)) (v_iv (n_v vs 4))
      simp only [q3, q5]
      exact vc_Mo_putBest_11_0 (v_iv (n_v vs 2)) (v_iv (n_v vs 4)) (v_iv (n_v vs 5)) (v_iv (n_v vs 9)) (v_iv (n_v vs 11)) (v_iv (n_v vs 13)) (w_ei ws (w_ar ws (n_v vs 0) 96)) k2 k4 k5 k9 k11 k13 d2 d3 d4 d5 f4
  refine ⟨(fun _ h => (by cases h)), [], trivial, ?_, (fun _ h => (by cases h))⟩
  rw [List.append_nil]
  exact List.forall_mem_cons.mpr ⟨⟨show (20 : Nat) < 100 from by decide, nf0⟩, (fun _ h => (by cases h))⟩
set_option maxHeartbeats 4000000 in
theorem vc_Mo_putBest_12_0 (x2 : Int) (x4 : Int) (x5 : Int) (x9 : Int) (x11 : Int) (x13 : Int) (x16 : Int) (x17 : Int) (x18 : Int) (order_1 : Int → Int) (order_0 : Int → Int) (k2 : 9 ≤ x2 ∧ x2 ≤ 24) (k4 : 1 ≤ x4 ∧ x4 ≤ 23) (k5 : 9 ≤ x5 ∧ x5 ≤ 24) (k9 : 1 ≤ x9 ∧ x9 ≤ 23) (k11 : 1 ≤ x11 ∧ x11 ≤ 22) (k13 : 2 ≤ x13 ∧ x13 ≤ 23) (k16 : 2 ≤ x16 ∧ x16 ≤ 23) (k17 : 0 ≤ x17 ∧ x17 ≤ 25) (k18 : 2 ≤ x18 ∧ x18 ≤ 23) (d0 : x11 + 1 ≤ x18 ∧ x18 ≤ x11 + 1) (d1 : x11 + 1 ≤ x16 ∧ x16 ≤ x11 + 1) (d2 : x5 + (-4294967296) ≤ x13 ∧ x13 ≤ x5 + (-1)) (d3 : x11 + 1 ≤ x13 ∧ x13 ≤ x11 + 1) (d4 : x5 + (-4294967296) ≤ x2 ∧ x2 ≤ x5 + 0) (d5 : x2 + (-4294967296) ≤ x5 ∧ x5 ≤ x2 + 0) (f0 : x18 = x11 + 1) (h7 : x17 = order_1 (x16)) (f13 : PB3 (order_1) (x2) (x4) (x9) (x11)) (hE_0_96_1 : ∀ j : Int, 0 ≤ j → (j = x11 → order_0 j = x17) ∧ (j ≠ x11 → order_0 j = order_1 j)) : PB3 (order_0) (x2) (x4) (x9) (x18) := by
  first
    | exact pb3_step ‹PB3 _ _ _ _ _› (by omega) (by omega) (by assumption) (by omega) (by assumption) (by omega)
def o_Mo_putBest_12 : or_T := (136, 19, [(0, (2, 0, 0, [165])), (2, (0, 9, 24, [])), (4, (0, 1, 23, [])), (5, (0, 9, 24, [])), (9, (0, 1, 23, [])), (11, (0, 1, 22, [])), (13, (0, 2, 23, [])), (16, (0, 2, 23, [])), (17, (0, 0, 25, [])), (18, (0, 2, 23, []))], [(6, [18, 11], [1]), (24, [0, 3], []), (24, [2, 5], []), (100, [14, 11, 17], []), (10, [17, 14, 16], []), (9, [14, 3], [96]), (20, [3, 5, 4, 9, 11], [60, 0, 1, 343, 96])], [], [], [(20, [3, 5, 4, 9, 18], [60, 0, 1, 343, 96])], [], [(18, 11, 1, 1), (16, 11, 1, 1), (13, 5, -4294967296, -1), (13, 11, 1, 1), (2, 5, -4294967296, 0), (5, 2, -4294967296, 0), (8, 11, -4294967296, 0), (9, 11, -4294967296, 0)])
theorem oo_Mo_putBest_12 {kA : Nat → ClassId} : or_ok PRD kA GG o_Mo_putBest_12 := by
  refine or_mk fun A ta ws vs hD hth hl => ?_
  intro t0 r0 t2 k2 t4 k4 t5 k5 t9 k9 t11 k11 t13 k13 t16 k16 t17 k17 t18 k18 d0 d1 d2 d3 d4 d5 d7 d8 f0 f4 f5 ta1 w1 le1 s1 f7 f9 f13
  replace f0 := shm_4 f0
  replace f4 := shm_5 f4
  replace f5 := shm_5 f5
  have s1 : (∀ b j, w_el ws b j = if b = v_ad (n_v vs 14) ∧ j = (v_iv (n_v vs 11)).toNat then v_iv (n_v vs 17) else w_el w1 b j) ∧ ∀ b k, w_fd ws b k = w_fd w1 b k := s1.2
  replace f7 := shm_107 f7
  replace f9 := shm_666 f9
  replace f13 := shm_1663 f13
  have q3 : n_v vs 3 = n_v vs 0 := f4.symm
  have q5 : n_v vs 5 = n_v vs 2 := f5.symm
  simp only [q5, q3] at f9 f13
  have ar_0_96_1 : w_ar w1 (n_v vs 0) 96 = w_ar ws (n_v vs 0) 96 := congrArg v_ad (s1.2 _ _).symm
  have ad_14 : v_ad (n_v vs 14) = w_ar ws (n_v vs 0) 96 := (congrArg v_ad f9).trans ar_0_96_1
  simp only [ad_14] at f7
  have h7 : v_iv (n_v vs 17) = w_ei w1 (w_ar ws (n_v vs 0) 96) (v_iv (n_v vs 16)) := f7
  simp only [ar_0_96_1] at f13
  have hE_0_96_1 : ∀ j : Int, 0 ≤ j → (j = v_iv (n_v vs 11) → w_ei ws (w_ar ws (n_v vs 0) 96) j = v_iv (n_v vs 17)) ∧ (j ≠ v_iv (n_v vs 11) → w_ei ws (w_ar ws (n_v vs 0) 96) j = w_ei w1 (w_ar ws (n_v vs 0) 96) j) := fun j hj => ⟨fun h => by unfold w_ei; rw [s1.1, if_pos ⟨ad_14.symm, by rw [h]⟩], fun h => by unfold w_ei; rw [s1.1, if_neg (fun e => h (by have := e.2; omega))]⟩
  have nf0 : fc_1 PRD (20, [3, 5, 4, 9, 18], [60, 0, 1, 343, 96]) ws (vs) := by
    refine ⟨nf_in hl rfl, sgq_1663 ?_⟩
    · show PB3 (w_ei ws (w_ar ws (n_v vs 3) 96)) (v_iv (n_v vs 5)) (v_iv (n_v vs 4)) (v_iv (n_v vs 9)) (v_iv (n_v vs 18))
      simp only [q3, q5]
      exact vc_Mo_putBest_12_0 (v_iv (n_v vs 2)) (v_iv (n_v vs 4)) (v_iv (n_v vs 5)) (v_iv (n_v vs 9)) (v_iv (n_v vs 11)) (v_iv (n_v vs 13)) (v_iv (n_v vs 16)) (v_iv (n_v vs 17)) (v_iv (n_v vs 18)) (w_ei w1 (w_ar ws (n_v vs 0) 96)) (w_ei ws (w_ar ws (n_v vs 0) 96)) k2 k4 k5 k9 k11 k13 k16 k17 k18 d0 d1 d2 d3 d4 d5 f0 h7 f13 hE_0_96_1
  refine ⟨(fun _ h => (by cases h)), [], trivial, ?_, (fun _ h => (by cases h))⟩
  rw [List.append_nil]
  exact List.forall_mem_cons.mpr ⟨⟨show (20 : Nat) < 100 from by decide, nf0⟩, (fun _ h => (by cases h))⟩
set_option maxHeartbeats 4000000 in
theorem vc_Mo_putBest_13_0 (x2 : Int) (x4 : Int) (x8 : Int) (x9 : Int) (order_1 : Int → Int) (order_0 : Int → Int) (k2 : 9 ≤ x2 ∧ x2 ≤ 24) (k4 : 1 ≤ x4 ∧ x4 ≤ 23) (k8 : 1 ≤ x8 ∧ x8 ≤ 23) (k9 : 1 ≤ x9 ∧ x9 ≤ 23) (f5 : x9 ≤ x8) (f7 : PB2 (order_1) (x2) (x4) (x8) (x9)) (hE_0_96_1 : ∀ j : Int, 0 ≤ j → (j = x8 → order_0 j = x4) ∧ (j ≠ x8 → order_0 j = order_1 j)) : PRM (order_0) (x2) := by
  exact pb2_end ‹PB2 _ _ _ _ _› (by omega) (by assumption) (by omega) (by omega)
def o_Mo_putBest_13 : or_T := (214, 11, [(0, (2, 0, 0, [165])), (2, (0, 9, 24, [])), (4, (0, 1, 23, [])), (8, (0, 1, 23, [])), (9, (0, 1, 23, []))], [(24, [0, 3], []), (24, [2, 5], []), (100, [10, 8, 4], []), (9, [10, 3], [96]), (7, [9, 8], [5]), (20, [3, 5, 4, 8, 9], [60, 0, 1, 342, 96])], [], [], [(20, [0, 2], [60, 0, 1, 338, 96])], [], [(9, 8, -4294967296, 0)])
theorem oo_Mo_putBest_13 {kA : Nat → ClassId} : or_ok PRD kA GG o_Mo_putBest_13 := by
  refine or_mk fun A ta ws vs hD hth hl => ?_
  intro t0 r0 t2 k2 t4 k4 t8 k8 t9 k9 d0 f1 f2 ta1 w1 le1 s1 f4 f5 f7
  replace f1 := shm_5 f1
  replace f2 := shm_5 f2
  have s1 : (∀ b j, w_el ws b j = if b = v_ad (n_v vs 10) ∧ j = (v_iv (n_v vs 8)).toNat then v_iv (n_v vs 4) else w_el w1 b j) ∧ ∀ b k, w_fd ws b k = w_fd w1 b k := s1.2
  replace f4 := shm_666 f4
  replace f7 := shm_1661 f7
  have q3 : n_v vs 3 = n_v vs 0 := f1.symm
  have q5 : n_v vs 5 = n_v vs 2 := f2.symm
  simp only [q5, q3] at f4 f7
  have ar_0_96_1 : w_ar w1 (n_v vs 0) 96 = w_ar ws (n_v vs 0) 96 := congrArg v_ad (s1.2 _ _).symm
  have ad_10 : v_ad (n_v vs 10) = w_ar ws (n_v vs 0) 96 := (congrArg v_ad f4).trans ar_0_96_1
  simp only [ar_0_96_1] at f7
  have hE_0_96_1 : ∀ j : Int, 0 ≤ j → (j = v_iv (n_v vs 8) → w_ei ws (w_ar ws (n_v vs 0) 96) j = v_iv (n_v vs 4)) ∧ (j ≠ v_iv (n_v vs 8) → w_ei ws (w_ar ws (n_v vs 0) 96) j = w_ei w1 (w_ar ws (n_v vs 0) 96) j) := fun j hj => ⟨fun h => by unfold w_ei; rw [s1.1, if_pos ⟨ad_10.symm, by rw [h]⟩], fun h => by unfold w_ei; rw [s1.1, if_neg (fun e => h (by have := e.2; omega))]⟩
  have nf0 : fc_1 PRD (20, [0, 2], [60, 0, 1, 338, 96]) ws (vs) := ⟨nf_in hl rfl, sgq_1657 (vc_Mo_putBest_13_0 (v_iv (n_v vs 2)) (v_iv (n_v vs 4)) (v_iv (n_v vs 8)) (v_iv (n_v vs 9)) (w_ei w1 (w_ar ws (n_v vs 0) 96)) (w_ei ws (w_ar ws (n_v vs 0) 96)) k2 k4 k8 k9 (shm_24 f5) f7 hE_0_96_1)⟩
  refine ⟨(fun _ h => (by cases h)), [], trivial, ?_, (fun _ h => (by cases h))⟩
  rw [List.append_nil]
  exact List.forall_mem_cons.mpr ⟨⟨show (20 : Nat) < 100 from by decide, nf0⟩, (fun _ h => (by cases h))⟩
set_option maxHeartbeats 4000000 in
theorem vc_Mo_putBest_14_0 (x2 : Int) (x4 : Int) (x8 : Int) (x9 : Int) (x12 : Int) (x13 : Int) (x14 : Int) (order_1 : Int → Int) (order_0 : Int → Int) (k2 : 9 ≤ x2 ∧ x2 ≤ 24) (k4 : 1 ≤ x4 ∧ x4 ≤ 23) (k8 : 1 ≤ x8 ∧ x8 ≤ 22) (k9 : 2 ≤ x9 ∧ x9 ≤ 23) (k12 : 1 ≤ x12 ∧ x12 ≤ 22) (k13 : 0 ≤ x13 ∧ x13 ≤ 25) (k14 : 1 ≤ x14 ∧ x14 ≤ 22) (d0 : x9 + (-1) ≤ x14 ∧ x14 ≤ x9 + (-1)) (d4 : x9 + (-1) ≤ x12 ∧ x12 ≤ x9 + (-1)) (h5 : x13 = order_1 (x12)) (f8 : x8 < x9) (f10 : PB2 (order_1) (x2) (x4) (x8) (x9)) (hE_0_96_1 : ∀ j : Int, 0 ≤ j → (j = x9 → order_0 j = x13) ∧ (j ≠ x9 → order_0 j = order_1 j)) : PB2 (order_0) (x2) (x4) (x8) (x14) := by
  first
    | exact pb2_step ‹PB2 _ _ _ _ _› (by omega) (by omega) (by assumption) (by omega) (by assumption) (by omega)
def o_Mo_putBest_14 : or_T := (177, 15, [(0, (2, 0, 0, [165])), (2, (0, 9, 24, [])), (4, (0, 1, 23, [])), (8, (0, 1, 22, [])), (9, (0, 2, 23, [])), (12, (0, 1, 22, [])), (13, (0, 0, 25, [])), (14, (0, 1, 22, []))], [(24, [0, 3], []), (24, [2, 5], []), (100, [10, 9, 13], []), (10, [13, 10, 12], []), (9, [10, 3], [96]), (7, [9, 8], [4]), (20, [3, 5, 4, 8, 9], [60, 0, 1, 342, 96])], [], [], [(20, [3, 5, 4, 8, 14], [60, 0, 1, 342, 96])], [], [(14, 9, -1, -1), (12, 9, -1, -1), (9, 8, 1, 4294967296), (9, 2, -4294967296, -1), (9, 5, -4294967296, -1)])
theorem oo_Mo_putBest_14 {kA : Nat → ClassId} : or_ok PRD kA GG o_Mo_putBest_14 := by
  refine or_mk fun A ta ws vs hD hth hl => ?_
  intro t0 r0 t2 k2 t4 k4 t8 k8 t9 k9 t12 k12 t13 k13 t14 k14 d0 d4 d8 d11 d12 f2 f3 ta1 w1 le1 s1 f5 f7 f8 f10
  replace f2 := shm_5 f2
  replace f3 := shm_5 f3
  have s1 : (∀ b j, w_el ws b j = if b = v_ad (n_v vs 10) ∧ j = (v_iv (n_v vs 9)).toNat then v_iv (n_v vs 13) else w_el w1 b j) ∧ ∀ b k, w_fd ws b k = w_fd w1 b k := s1.2
  replace f5 := shm_107 f5
  replace f7 := shm_666 f7
  replace f8 := shm_21 f8
  replace f10 := shm_1661 f10
  have q3 : n_v vs 3 = n_v vs 0 := f2.symm
  have q5 : n_v vs 5 = n_v vs 2 := f3.symm
  simp only [q5, q3] at f7 f10
  have ar_0_96_1 : w_ar w1 (n_v vs 0) 96 = w_ar ws (n_v vs 0) 96 := congrArg v_ad (s1.2 _ _).symm
  have ad_10 : v_ad (n_v vs 10) = w_ar ws (n_v vs 0) 96 := (congrArg v_ad f7).trans ar_0_96_1
  simp only [ad_10] at f5
  have h5 : v_iv (n_v vs 13) = w_ei w1 (w_ar ws (n_v vs 0) 96) (v_iv (n_v vs 12)) := f5
  simp only [ar_0_96_1] at f10
  have hE_0_96_1 : ∀ j : Int, 0 ≤ j → (j = v_iv (n_v vs 9) → w_ei ws (w_ar ws (n_v vs 0) 96) j = v_iv (n_v vs 13)) ∧ (j ≠ v_iv (n_v vs 9) → w_ei ws (w_ar ws (n_v vs 0) 96) j = w_ei w1 (w_ar ws (n_v vs 0) 96) j) := fun j hj => ⟨fun h => by unfold w_ei; rw [s1.1, if_pos ⟨ad_10.symm, by rw [h]⟩], fun h => by unfold w_ei; rw [s1.1, if_neg (fun e => h (by have := e.2; omega))]⟩
  have nf0 : fc_1 PRD (20, [3, 5, 4, 8, 14], [60, 0, 1, 342, 96]) ws (vs) := by
    refine ⟨nf_in hl rfl, sgq_1661 ?_⟩
    · show PB2 (w_ei ws (w_ar ws (n_v vs 3) 96)) (v_iv (n_v vs 5)) (v_iv (n_v vs 4)) (v_iv (n_v vs 8)) (v_iv (n_v vs 14))
      simp only [q3, q5]
      exact vc_Mo_putBest_14_0 (v_iv (n_v vs 2)) (v_iv (n_v vs 4)) (v_iv (n_v vs 8)) (v_iv (n_v vs 9)) (v_iv (n_v vs 12)) (v_iv (n_v vs 13)) (v_iv (n_v vs 14)) (w_ei w1 (w_ar ws (n_v vs 0) 96)) (w_ei ws (w_ar ws (n_v vs 0) 96)) k2 k4 k8 k9 k12 k13 k14 d0 d4 h5 f8 f10 hE_0_96_1
  refine ⟨(fun _ h => (by cases h)), [], trivial, ?_, (fun _ h => (by cases h))⟩
  rw [List.append_nil]
  exact List.forall_mem_cons.mpr ⟨⟨show (20 : Nat) < 100 from by decide, nf0⟩, (fun _ h => (by cases h))⟩
def n_Mo_putBest_an : List an_T := [(2, [(0, (2, 0, 0, [165])), (1, (0, 1, 23, [])), (2, (0, 9, 24, [])), (3, (0, 0, 25, []))], [], (0, 0), [(0, 0, 99998), (1, 6, 25), (0, 0, 100000), (0, 0, 0), (0, 0, 0)], [(1, 4, (Int.negSucc 999999999999), 0), (2, 5, (Int.negSucc 999999999999), 0), (4, 1, (Int.negSucc 999999999999), 0), (5, 2, (Int.negSucc 999999999999), 0)], [], [(2, 0, 0, [165]), (0, 1, 23, []), (0, 9, 24, [])], 0, [], [(20, [5], [50, 0, 0, 0, 2, 1, 0, 0, 24]), (20, [3, 5, 4, 6], [60, 0, 1, 340, 96]), (20, [4], [50, 0, 0, 0, 2, 0, 1, 1, 0]), (24, [0, 3], []), (24, [2, 5], [])]), (21, [(0, (2, 0, 0, [165])), (1, (0, 1, 23, [])), (2, (0, 9, 24, [])), (3, (0, 0, 25, [])), (4, (0, 0, 25, []))], [], (0, 0), [(0, 0, 99979), (1, 7, 25), (0, 0, 100000), (0, 0, 0), (0, 0, 0)], [(1, 4, (Int.negSucc 999999999999), 0), (2, 5, (Int.negSucc 999999999999), 0), (4, 1, (Int.negSucc 999999999999), 0), (5, 2, (Int.negSucc 999999999999), 0), (6, 7, (Int.negSucc 999999999999), 0)], [], [(2, 0, 0, [165]), (0, 1, 23, []), (0, 9, 24, [])], 0, [], [(20, [5], [50, 0, 0, 0, 2, 1, 0, 0, 24]), (20, [3, 5, 4, 7], [60, 0, 1, 341, 96]), (20, [4], [50, 0, 0, 0, 2, 0, 1, 1, 0]), (24, [0, 3], []), (24, [2, 5], [])]), (62, [(0, (2, 0, 0, [165])), (1, (0, 1, 23, [])), (2, (0, 9, 24, [])), (3, (0, 0, 25, [])), (4, (0, (Int.negSucc 2147483647), 1000000, [])), (5, (0, 1, 23, [])), (6, (0, 1, 24, []))], [], (0, 0), [(0, 0, 99938), (1, 9, 24), (0, 0, 100000), (0, 0, 0), (0, 0, 0)], [(1, 4, (Int.negSucc 999999999999), 0), (2, 5, (Int.negSucc 999999999999), 0), (4, 1, (Int.negSucc 999999999999), 0), (5, 2, (Int.negSucc 999999999999), 0), (8, 9, (Int.negSucc 999999999999), 0)], [], [(2, 0, 0, [165]), (0, 1, 23, []), (0, 9, 24, [])], 0, [], [(20, [5], [50, 0, 0, 0, 2, 1, 0, 0, 24]), (20, [3, 5, 4], [60, 0, 1, 339, 96]), (20, [8], [50, 0, 0, 0, 2, 0, 1, 1, 0]), (20, [8, 5], [50, 0, 0, 0, 6, 4, 2, 1, 0, 0, 1, 1, 1]), (24, [0, 3], []), (24, [2, 5], [])]), (73, [(0, (2, 0, 0, [165])), (1, (0, 1, 23, [])), (2, (0, 9, 24, [])), (3, (0, 0, 25, [])), (4, (0, (Int.negSucc 2147483647), 1000000, [])), (5, (0, 1, 23, [])), (6, (0, 1, 23, [])), (7, (0, 1, 23, []))], [], (0, 0), [(0, 0, 99938), (1, 9, 24), (0, 0, 99927), (2, 10, 1), (0, 0, 100000)], [(1, 4, (Int.negSucc 999999999999), 0), (2, 5, (Int.negSucc 999999999999), 0), (4, 1, (Int.negSucc 999999999999), 0), (5, 2, (Int.negSucc 999999999999), 0), (8, 9, (Int.negSucc 999999999999), 0), (10, 2, (Int.negSucc 999999999999), (Int.negSucc 0)), (10, 5, (Int.negSucc 999999999999), (Int.negSucc 0))], [], [(2, 0, 0, [165]), (0, 1, 23, []), (0, 9, 24, [])], 0, [], [(20, [5], [50, 0, 0, 0, 2, 1, 0, 0, 24]), (20, [3, 5, 4, 9, 10], [60, 0, 1, 342, 96]), (20, [8], [50, 0, 0, 0, 2, 0, 1, 1, 0]), (20, [8, 5], [50, 0, 0, 0, 6, 4, 2, 1, 0, 0, 1, 1, 1]), (24, [0, 3], []), (24, [2, 5], [])]), (136, [(0, (2, 0, 0, [165])), (1, (0, 1, 23, [])), (2, (0, 9, 24, [])), (3, (0, 0, 25, [])), (4, (0, (Int.negSucc 2147483647), 1000000, [])), (5, (0, 1, 23, [])), (6, (0, 1, 23, [])), (7, (0, (Int.negSucc 2147483647), 2147483647, [])), (8, (0, 1, 23, []))], [], (0, 0), [(0, 0, 99938), (1, 9, 24), (0, 0, 99864), (1, 11, 23), (0, 0, 100000)], [(1, 4, (Int.negSucc 999999999999), 0), (2, 5, (Int.negSucc 999999999999), 0), (4, 1, (Int.negSucc 999999999999), 0), (5, 2, (Int.negSucc 999999999999), 0), (7, 10, (Int.negSucc 999999999999), 0), (8, 9, (Int.negSucc 999999999999), 0), (8, 11, (Int.negSucc 999999999999), 0), (9, 11, (Int.negSucc 999999999999), 0)], [], [(2, 0, 0, [165]), (0, 1, 23, []), (0, 9, 24, [])], 0, [], [(20, [5], [50, 0, 0, 0, 2, 1, 0, 0, 24]), (20, [3, 5, 4, 9, 11], [60, 0, 1, 343, 96]), (20, [8], [50, 0, 0, 0, 2, 0, 1, 1, 0]), (20, [8, 5], [50, 0, 0, 0, 6, 4, 2, 1, 0, 0, 1, 1, 1]), (24, [0, 3], []), (24, [2, 5], [])]), (177, [(0, (2, 0, 0, [165])), (1, (0, 1, 23, [])), (2, (0, 9, 24, [])), (3, (0, 0, 25, [])), (4, (0, (Int.negSucc 2147483647), 1000000, [])), (5, (0, 1, 23, [])), (6, (0, 1, 23, []))], [], (0, 0), [(0, 0, 99823), (2, 9, 1), (0, 0, 100000), (0, 0, 0), (0, 0, 0)], [(1, 4, (Int.negSucc 999999999999), 0), (2, 5, (Int.negSucc 999999999999), 0), (4, 1, (Int.negSucc 999999999999), 0), (5, 2, (Int.negSucc 999999999999), 0), (9, 2, (Int.negSucc 999999999999), (Int.negSucc 0)), (9, 5, (Int.negSucc 999999999999), (Int.negSucc 0))], [], [(2, 0, 0, [165]), (0, 1, 23, []), (0, 9, 24, [])], 0, [], [(20, [5], [50, 0, 0, 0, 2, 1, 0, 0, 24]), (20, [3, 5, 4, 8, 9], [60, 0, 1, 342, 96]), (24, [0, 3], []), (24, [2, 5], [])])]
def t_Mo_putBest_ct : ct_L := [(1, 988, e_Mo_chordCrossings)]
set_option maxRecDepth 100000 in
theorem c_Mo_putBest {l : Launch} {D : va_G} {kA : Nat → ClassId} (h_Mo_chordCrossings : ct_ok PRD l D kA GG y_Mo_chordCrossings z_Mo_chordCrossings e_Mo_chordCrossings) : ct_ok PRD l D kA GG y_Mo_putBest z_Mo_putBest e_Mo_putBest := chk_all_ok (FT := [(213, 13, 96)]) (PT := []) (CT := t_Mo_putBest_ct) (KT := [(1, 546, .int (1000000), (0, 1000000, 1000000, []))]) (NT := []) (AN := n_Mo_putBest_an) (OT := [o_Mo_putBest_0, o_Mo_putBest_1, o_Mo_putBest_2, o_Mo_putBest_3, o_Mo_putBest_4, o_Mo_putBest_5, o_Mo_putBest_6, o_Mo_putBest_7, o_Mo_putBest_8, o_Mo_putBest_9, o_Mo_putBest_10, o_Mo_putBest_11, o_Mo_putBest_12, o_Mo_putBest_13, o_Mo_putBest_14]) 5 484 (List.forall_mem_cons.mpr ⟨oo_Mo_putBest_0, List.forall_mem_cons.mpr ⟨oo_Mo_putBest_1, List.forall_mem_cons.mpr ⟨oo_Mo_putBest_2, List.forall_mem_cons.mpr ⟨oo_Mo_putBest_3, List.forall_mem_cons.mpr ⟨oo_Mo_putBest_4, List.forall_mem_cons.mpr ⟨oo_Mo_putBest_5, List.forall_mem_cons.mpr ⟨oo_Mo_putBest_6, List.forall_mem_cons.mpr ⟨oo_Mo_putBest_7, List.forall_mem_cons.mpr ⟨oo_Mo_putBest_8, List.forall_mem_cons.mpr ⟨oo_Mo_putBest_9, List.forall_mem_cons.mpr ⟨oo_Mo_putBest_10, List.forall_mem_cons.mpr ⟨oo_Mo_putBest_11, List.forall_mem_cons.mpr ⟨oo_Mo_putBest_12, List.forall_mem_cons.mpr ⟨oo_Mo_putBest_13, List.forall_mem_cons.mpr ⟨oo_Mo_putBest_14, List.forall_mem_nil _⟩⟩⟩⟩⟩⟩⟩⟩⟩⟩⟩⟩⟩⟩⟩) (by decide +kernel) ⟨List.forall_mem_cons.mpr ⟨gf_Mo_213, List.forall_mem_nil _⟩, List.forall_mem_nil _, List.forall_mem_cons.mpr ⟨cl_virtual (y := y_Mo_chordCrossings) (ci := 13) rfl rfl ⟨_, _, rfl⟩ (by decide +kernel) h_Mo_chordCrossings wm_3612 wm_9 wm_3609 wm_3611 wv_21_6 ⟨by decide, by decide, by decide +kernel⟩ (by decide), List.forall_mem_nil _⟩, List.forall_mem_cons.mpr ⟨kx_Mo_1_546, List.forall_mem_nil _⟩, List.forall_mem_nil _, GG_pl⟩ (by decide +kernel)
set_option maxHeartbeats 4000000 in
theorem vc_Mo_strong_0_0 (x3 : Int) (strongOf_0 : Int → Int) (k3 : 0 ≤ x3 ∧ x3 ≤ 0) : SO0 (strongOf_0) (x3) := by
  first
    | (intro i a b; exfalso; omega)
def o_Mo_strong_0 : or_T := (9, 4, [(3, (0, 0, 0, []))], [], [], [], [(20, [0, 3], [60, 0, 1, 357, 18]), (24, [0, 0], [])], [], [])
theorem oo_Mo_strong_0 {kA : Nat → ClassId} : or_ok PRD kA GG o_Mo_strong_0 := by
  refine or_mk fun A ta ws vs hD hth hl => ?_
  intro t3 k3
  have nf0 : fc_1 PRD (20, [0, 3], [60, 0, 1, 357, 18]) ws (vs) := ⟨nf_in hl rfl, sgq_1664 (vc_Mo_strong_0_0 (v_iv (n_v vs 3)) (w_ei ws (w_ar ws (n_v vs 0) 18)) k3)⟩
  have nf1 : fc_1 PRD (24, [0, 0], []) ws (vs) := by
    refine ⟨nf_in hl rfl, sgq_1 ?_⟩
    · show n_v vs 0 = n_v vs 0
      first | rfl | simp only [true_and]
  refine ⟨(fun _ h => (by cases h)), [], trivial, ?_, (fun _ h => (by cases h))⟩
  rw [List.append_nil]
  exact List.forall_mem_cons.mpr ⟨⟨show (20 : Nat) < 100 from by decide, nf0⟩, List.forall_mem_cons.mpr ⟨⟨show (24 : Nat) < 100 from by decide, nf1⟩, (fun _ h => (by cases h))⟩⟩
set_option maxHeartbeats 4000000 in
theorem vc_Mo_strong_1_0 (x4 : Int) (x5 : Int) (x6 : Int) (x7 : Int) (all_0 : Int → Int) (r_0 : Int) (reach_0 : Int → Int) (strongOf_0 : Int → Int) (k4 : 0 ≤ x4 ∧ x4 ≤ 0) (k5 : 0 ≤ x5 ∧ x5 ≤ 24) (k6 : 0 ≤ x6 ∧ x6 ≤ 24) (k7 : 0 ≤ x7 ∧ x7 ≤ 0) (d0 : x6 + 0 ≤ x5 ∧ x5 ≤ x6 + 4294967296) (f0 : x6 ≤ x5) (f1 : 1 * x6 + ((-1) * all_0 (r_0 + 0) + 0) ≤ 0) (f2 : (-1) * x6 + (1 * all_0 (r_0 + 0) + 0) ≤ 0) (f3 : WEN (r_0) (all_0) (reach_0)) (f4 : SO0 (strongOf_0) (x5)) : SOI (r_0) (all_0) (reach_0) (strongOf_0) (x7) (x4) := by
  try simp only [Int.add_zero] at *
  first
    | exact soi_start ‹WEN _ _ _› ‹SO0 _ _› (by omega) (by omega) (by omega)
def o_Mo_strong_1 : or_T := (32, 8, [(4, (0, 0, 0, [])), (5, (0, 0, 24, [])), (6, (0, 0, 24, [])), (7, (0, 0, 0, []))], [(7, [5, 6], [3]), (20, [6, 2], [30, 0, 1, 0, 0, -1, 3, 2005000]), (20, [6, 2], [30, 0, -1, 0, 0, 1, 3, 2005000]), (20, [2], [60, 1, 2, 354, 5, 2, 21]), (20, [2, 5], [60, 0, 1, 357, 18]), (24, [0, 2], [])], [], [], [(20, [2, 7, 4], [60, 1, 3, 355, 5, 2, 21, 18])], [], [(5, 6, 0, 4294967296)])
theorem oo_Mo_strong_1 {kA : Nat → ClassId} : or_ok PRD kA GG o_Mo_strong_1 := by
  refine or_mk fun A ta ws vs hD hth hl => ?_
  intro t4 k4 t5 k5 t6 k6 t7 k7 d0 f0 f1 f2 f3 f4 f5
  replace f0 := shm_2 f0
  replace f1 := shm_126 f1
  replace f2 := shm_127 f2
  replace f3 := shm_1586 f3
  replace f4 := shm_1664 f4
  replace f5 := shm_5 f5
  have q2 : n_v vs 2 = n_v vs 0 := f5.symm
  simp only [q2] at f1 f2 f3 f4
  have nf0 : fc_1 PRD (20, [2, 7, 4], [60, 1, 3, 355, 5, 2, 21, 18]) ws (vs) := by
    refine ⟨nf_in hl rfl, sgq_1665 ?_⟩
    · show SOI (w_fi ws (n_v vs 2) 5) (w_ei ws (w_ar ws (n_v vs 2) 2)) (w_ei ws (w_ar ws (n_v vs 2) 21)) (w_ei ws (w_ar ws (n_v vs 2) 18)) (v_iv (n_v vs 7)) (v_iv (n_v vs 4))
      rw [q2]
      exact vc_Mo_strong_1_0 (v_iv (n_v vs 4)) (v_iv (n_v vs 5)) (v_iv (n_v vs 6)) (v_iv (n_v vs 7)) (w_ei ws (w_ar ws (n_v vs 0) 2)) (w_fi ws (n_v vs 0) 5) (w_ei ws (w_ar ws (n_v vs 0) 21)) (w_ei ws (w_ar ws (n_v vs 0) 18)) k4 k5 k6 k7 d0 f0 f1 f2 f3 f4
  refine ⟨(fun _ h => (by cases h)), [], trivial, ?_, (fun _ h => (by cases h))⟩
  rw [List.append_nil]
  exact List.forall_mem_cons.mpr ⟨⟨show (20 : Nat) < 100 from by decide, nf0⟩, (fun _ h => (by cases h))⟩
set_option maxHeartbeats 4000000 in
theorem vc_Mo_strong_2_0 (x5 : Int) (x8 : Int) (x9 : Int) (all_0 : Int → Int) (r_0 : Int) (reach_0 : Int → Int) (all_1 : Int → Int) (reach_1 : Int → Int) (r_1 : Int) (strongOf_1 : Int → Int) (strongOf_0 : Int → Int) (k5 : 0 ≤ x5 ∧ x5 ≤ 23) (k8 : (-1) ≤ x8 ∧ x8 ≤ (-1)) (k9 : 1 ≤ x9 ∧ x9 ≤ 24) (f0 : x9 = x5 + 1) (f11 : SO0 (strongOf_1) (x5)) (fe_0_5_1 : r_0 = r_1) (hE_0_2_1 : ∀ j : Int, all_0 j = all_1 j) (hE_0_18_1 : ∀ j : Int, 0 ≤ j → (j = x5 → strongOf_0 j = x8) ∧ (j ≠ x5 → strongOf_0 j = strongOf_1 j)) (hE_0_21_1 : ∀ j : Int, reach_0 j = reach_1 j) : SO0 (strongOf_0) (x9) := by
  subst fe_0_5_1
  have e_hE_0_2_1 := funext hE_0_2_1; subst e_hE_0_2_1
  have e_hE_0_21_1 := funext hE_0_21_1; subst e_hE_0_21_1
  first
    | exact so0_step ‹SO0 _ _› (by omega) (by assumption) (by omega) (by omega)
def o_Mo_strong_2 : or_T := (9, 10, [(0, (2, 0, 0, [165])), (5, (0, 0, 23, [])), (7, (2, 0, 0, [173])), (8, (0, -1, -1, [])), (9, (0, 1, 24, []))], [(6, [9, 5], [1]), (24, [0, 2], []), (100, [7, 5, 8], []), (9, [7, 2], [18]), (20, [2, 5], [60, 0, 1, 357, 18])], [], [], [(20, [2, 9], [60, 0, 1, 357, 18])], [], [(9, 5, 1, 1), (5, 6, -4294967296, -1)])
theorem oo_Mo_strong_2 {kA : Nat → ClassId} : or_ok PRD kA GG o_Mo_strong_2 := by
  refine or_mk fun A ta ws vs hD hth hl => ?_
  intro t0 r0 t5 k5 t7 r7 t8 k8 t9 k9 d0 d2 f0 f4 ta1 w1 le1 s1 f6 f11
  replace f0 := shm_4 f0
  replace f4 := shm_5 f4
  have s1 : (∀ b j, w_el ws b j = if b = v_ad (n_v vs 7) ∧ j = (v_iv (n_v vs 5)).toNat then v_iv (n_v vs 8) else w_el w1 b j) ∧ ∀ b k, w_fd ws b k = w_fd w1 b k := s1.2
  replace f6 := shm_799 f6
  replace f11 := shm_1664 f11
  have q2 : n_v vs 2 = n_v vs 0 := f4.symm
  simp only [q2] at f6 f11
  have ar_0_2_1 : w_ar w1 (n_v vs 0) 2 = w_ar ws (n_v vs 0) 2 := congrArg v_ad (s1.2 _ _).symm
  have cr_0_2 := fdq_10 hD hth r0
  have ar_0_18_1 : w_ar w1 (n_v vs 0) 18 = w_ar ws (n_v vs 0) 18 := congrArg v_ad (s1.2 _ _).symm
  have ar_0_21_1 : w_ar w1 (n_v vs 0) 21 = w_ar ws (n_v vs 0) 21 := congrArg v_ad (s1.2 _ _).symm
  have cr_0_21 := fdq_300 hD hth r0
  have ad_7 : v_ad (n_v vs 7) = w_ar ws (n_v vs 0) 18 := (congrArg v_ad f6).trans ar_0_18_1
  simp only [ar_0_2_1, ar_0_21_1, ar_0_18_1] at f11
  have fe_0_5_1 : w_fi ws (n_v vs 0) 5 = w_fi w1 (n_v vs 0) 5 := congrArg v_iv (s1.2 _ _)
  have hE_0_2_1 : ∀ j : Int, w_ei ws (w_ar ws (n_v vs 0) 2) j = w_ei w1 (w_ar ws (n_v vs 0) 2) j := el_kp s1.1 r7 cr_0_2 (by decide)
  have hE_0_18_1 : ∀ j : Int, 0 ≤ j → (j = v_iv (n_v vs 5) → w_ei ws (w_ar ws (n_v vs 0) 18) j = v_iv (n_v vs 8)) ∧ (j ≠ v_iv (n_v vs 5) → w_ei ws (w_ar ws (n_v vs 0) 18) j = w_ei w1 (w_ar ws (n_v vs 0) 18) j) := fun j hj => ⟨fun h => by unfold w_ei; rw [s1.1, if_pos ⟨ad_7.symm, by rw [h]⟩], fun h => by unfold w_ei; rw [s1.1, if_neg (fun e => h (by have := e.2; omega))]⟩
  have hE_0_21_1 : ∀ j : Int, w_ei ws (w_ar ws (n_v vs 0) 21) j = w_ei w1 (w_ar ws (n_v vs 0) 21) j := el_kp s1.1 r7 cr_0_21 (by decide)
  have nf0 : fc_1 PRD (20, [2, 9], [60, 0, 1, 357, 18]) ws (vs) := by
    refine ⟨nf_in hl rfl, sgq_1664 ?_⟩
    · show SO0 (w_ei ws (w_ar ws (n_v vs 2) 18)) (v_iv (n_v vs 9))
      rw [q2]
      exact vc_Mo_strong_2_0 (v_iv (n_v vs 5)) (v_iv (n_v vs 8)) (v_iv (n_v vs 9)) (w_ei ws (w_ar ws (n_v vs 0) 2)) (w_fi ws (n_v vs 0) 5) (w_ei ws (w_ar ws (n_v vs 0) 21)) (w_ei w1 (w_ar ws (n_v vs 0) 2)) (w_ei w1 (w_ar ws (n_v vs 0) 21)) (w_fi w1 (n_v vs 0) 5) (w_ei w1 (w_ar ws (n_v vs 0) 18)) (w_ei ws (w_ar ws (n_v vs 0) 18)) k5 k8 k9 f0 f11 fe_0_5_1 hE_0_2_1 hE_0_18_1 hE_0_21_1
  refine ⟨(fun _ h => (by cases h)), [], trivial, ?_, (fun _ h => (by cases h))⟩
  rw [List.append_nil]
  exact List.forall_mem_cons.mpr ⟨⟨show (20 : Nat) < 100 from by decide, nf0⟩, (fun _ h => (by cases h))⟩
set_option maxHeartbeats 4000000 in
theorem vc_Mo_strong_3_0 (x4 : Int) (x5 : Int) (x6 : Int) (all_0 : Int → Int) (r_0 : Int) (reach_0 : Int → Int) (strongOf_0 : Int → Int) (k4 : 0 ≤ x4 ∧ x4 ≤ 24) (k5 : 0 ≤ x5 ∧ x5 ≤ 24) (k6 : 0 ≤ x6 ∧ x6 ≤ 24) (d0 : x6 + 0 ≤ x5 ∧ x5 ≤ x6 + 4294967296) (f0 : x6 ≤ x5) (f1 : 1 * x6 + ((-1) * all_0 (r_0 + 0) + 0) ≤ 0) (f2 : (-1) * x6 + (1 * all_0 (r_0 + 0) + 0) ≤ 0) (f3 : SOI (r_0) (all_0) (reach_0) (strongOf_0) (x5) (x4)) : STG (r_0) (all_0) (strongOf_0) (x4) := by
  try simp only [Int.add_zero] at *
  exact stg_of ‹SOI _ _ _ _ _ _› (by omega)
def o_Mo_strong_3 : or_T := (118, 7, [(4, (0, 0, 24, [])), (5, (0, 0, 24, [])), (6, (0, 0, 24, []))], [(7, [5, 6], [3]), (20, [6, 2], [30, 0, 1, 0, 0, -1, 3, 2005000]), (20, [6, 2], [30, 0, -1, 0, 0, 1, 3, 2005000]), (20, [2, 5, 4], [60, 1, 3, 355, 5, 2, 21, 18]), (24, [0, 2], [])], [], [], [(20, [0, 4], [60, 1, 2, 358, 5, 2, 18])], [], [(5, 6, 0, 4294967296)])
theorem oo_Mo_strong_3 {kA : Nat → ClassId} : or_ok PRD kA GG o_Mo_strong_3 := by
  refine or_mk fun A ta ws vs hD hth hl => ?_
  intro t4 k4 t5 k5 t6 k6 d0 f0 f1 f2 f3 f4
  replace f1 := shm_126 f1
  replace f2 := shm_127 f2
  replace f3 := shm_1665 f3
  replace f4 := shm_5 f4
  have q2 : n_v vs 2 = n_v vs 0 := f4.symm
  simp only [q2] at f1 f2 f3
  have nf0 : fc_1 PRD (20, [0, 4], [60, 1, 2, 358, 5, 2, 18]) ws (vs) := ⟨nf_in hl rfl, sgq_1666 (vc_Mo_strong_3_0 (v_iv (n_v vs 4)) (v_iv (n_v vs 5)) (v_iv (n_v vs 6)) (w_ei ws (w_ar ws (n_v vs 0) 2)) (w_fi ws (n_v vs 0) 5) (w_ei ws (w_ar ws (n_v vs 0) 21)) (w_ei ws (w_ar ws (n_v vs 0) 18)) k4 k5 k6 d0 (shm_2 f0) f1 f2 f3)⟩
  refine ⟨(fun _ h => (by cases h)), [], trivial, ?_, (fun _ h => (by cases h))⟩
  rw [List.append_nil]
  exact List.forall_mem_cons.mpr ⟨⟨show (20 : Nat) < 100 from by decide, nf0⟩, (fun _ h => (by cases h))⟩
set_option maxHeartbeats 4000000 in
theorem vc_Mo_strong_4_0 (x4 : Int) (x5 : Int) (x6 : Int) (x8 : Int) (strongOf_0 : Int → Int) (all_0 : Int → Int) (r_0 : Int) (reach_0 : Int → Int) (k4 : 0 ≤ x4 ∧ x4 ≤ 23) (k5 : 0 ≤ x5 ∧ x5 ≤ 23) (k6 : 1 ≤ x6 ∧ x6 ≤ 24) (k8 : (-1) ≤ x8 ∧ x8 ≤ (-1)) (d0 : x6 + (-4294967296) ≤ x5 ∧ x5 ≤ x6 + (-1)) (h1 : x8 = strongOf_0 (x5)) (f4 : 1 * x6 + ((-1) * all_0 (r_0 + 0) + 0) ≤ 0) (f5 : (-1) * x6 + (1 * all_0 (r_0 + 0) + 0) ≤ 0) (f6 : SOI (r_0) (all_0) (reach_0) (strongOf_0) (x5) (x4)) : SOJ (r_0) (all_0) (reach_0) (strongOf_0) (x5) (x5) (x4) := by
  try simp only [Int.add_zero] at *
  first
    | exact soj_start ‹SOI _ _ _ _ _ _› (by omega) (by omega) (by omega) (by omega)
def o_Mo_strong_4 : or_T := (55, 9, [(4, (0, 0, 23, [])), (5, (0, 0, 23, [])), (6, (0, 1, 24, [])), (8, (0, -1, -1, []))], [(10, [8, 7, 5], []), (9, [7, 2], [18]), (20, [6, 2], [30, 0, 1, 0, 0, -1, 3, 2005000]), (20, [6, 2], [30, 0, -1, 0, 0, 1, 3, 2005000]), (20, [2, 5, 4], [60, 1, 3, 355, 5, 2, 21, 18]), (24, [0, 2], [])], [], [], [(20, [2, 5, 5, 4], [60, 1, 3, 356, 5, 2, 21, 18])], [], [(5, 6, -4294967296, -1)])
theorem oo_Mo_strong_4 {kA : Nat → ClassId} : or_ok PRD kA GG o_Mo_strong_4 := by
  refine or_mk fun A ta ws vs hD hth hl => ?_
  intro t4 k4 t5 k5 t6 k6 t8 k8 d0 f1 f2 f4 f5 f6 f7
  replace f1 := shm_107 f1
  replace f2 := shm_799 f2
  replace f4 := shm_126 f4
  replace f5 := shm_127 f5
  replace f6 := shm_1665 f6
  replace f7 := shm_5 f7
  have q2 : n_v vs 2 = n_v vs 0 := f7.symm
  simp only [q2] at f2 f4 f5 f6
  have ad_7 : v_ad (n_v vs 7) = w_ar ws (n_v vs 0) 18 := congrArg v_ad f2
  simp only [ad_7] at f1
  have h1 : v_iv (n_v vs 8) = w_ei ws (w_ar ws (n_v vs 0) 18) (v_iv (n_v vs 5)) := f1
  have nf0 : fc_1 PRD (20, [2, 5, 5, 4], [60, 1, 3, 356, 5, 2, 21, 18]) ws (vs) := by
    refine ⟨nf_in hl rfl, sgq_1667 ?_⟩
    · show SOJ (w_fi ws (n_v vs 2) 5) (w_ei ws (w_ar ws (n_v vs 2) 2)) (w_ei ws (w_ar ws (n_v vs 2) 21)) (w_ei ws (w_ar ws (n_v vs 2) 18)) (v_iv (n_v vs 5)) (v_iv (n_v vs 5)) (v_iv (n_v vs 4))
      rw [q2]
      exact vc_Mo_strong_4_0 (v_iv (n_v vs 4)) (v_iv (n_v vs 5)) (v_iv (n_v vs 6)) (v_iv (n_v vs 8)) (w_ei ws (w_ar ws (n_v vs 0) 18)) (w_ei ws (w_ar ws (n_v vs 0) 2)) (w_fi ws (n_v vs 0) 5) (w_ei ws (w_ar ws (n_v vs 0) 21)) k4 k5 k6 k8 d0 h1 f4 f5 f6
  refine ⟨(fun _ h => (by cases h)), [], trivial, ?_, (fun _ h => (by cases h))⟩
  rw [List.append_nil]
  exact List.forall_mem_cons.mpr ⟨⟨show (20 : Nat) < 100 from by decide, nf0⟩, (fun _ h => (by cases h))⟩
set_option maxHeartbeats 4000000 in
theorem vc_Mo_strong_5_0 (x4 : Int) (x5 : Int) (x8 : Int) (x9 : Int) (strongOf_0 : Int → Int) (all_0 : Int → Int) (r_0 : Int) (reach_0 : Int → Int) (k4 : 0 ≤ x4 ∧ x4 ≤ 23) (k5 : 0 ≤ x5 ∧ x5 ≤ 23) (k8 : 0 ≤ x8 ∧ x8 ≤ 23) (k9 : 1 ≤ x9 ∧ x9 ≤ 24) (f0 : x9 = x5 + 1) (h2 : x8 = strongOf_0 (x5)) (f7 : SOI (r_0) (all_0) (reach_0) (strongOf_0) (x5) (x4)) : SOI (r_0) (all_0) (reach_0) (strongOf_0) (x9) (x4) := by
  try simp only [Int.add_zero] at *
  first
    | exact soi_skip ‹SOI _ _ _ _ _ _› (by omega) (by omega)
def o_Mo_strong_5 : or_T := (32, 10, [(0, (2, 0, 0, [165])), (2, (2, 0, 0, [165])), (4, (0, 0, 23, [])), (5, (0, 0, 23, [])), (6, (0, 1, 24, [])), (7, (2, 0, 0, [173])), (8, (0, 0, 23, [])), (9, (0, 1, 24, []))], [(6, [9, 5], [1]), (8, [8], [3]), (10, [8, 7, 5], []), (9, [7, 2], [18]), (7, [5, 6], [2]), (20, [6, 2], [30, 0, 1, 0, 0, -1, 3, 2005000]), (20, [6, 2], [30, 0, -1, 0, 0, 1, 3, 2005000]), (20, [2, 5, 4], [60, 1, 3, 355, 5, 2, 21, 18]), (24, [0, 2], [])], [], [], [(20, [2, 9, 4], [60, 1, 3, 355, 5, 2, 21, 18])], [], [(9, 5, 1, 1), (9, 6, -4294967296, 0), (5, 6, -4294967296, -1), (4, 5, -4294967296, 0)])
theorem oo_Mo_strong_5 {kA : Nat → ClassId} : or_ok PRD kA GG o_Mo_strong_5 := by
  refine or_mk fun A ta ws vs hD hth hl => ?_
  intro t0 r0 t2 r2 t4 k4 t5 k5 t6 k6 t7 r7 t8 k8 t9 k9 d0 d1 d2 d3 f0 f1 f2 f3 f4 f5 f6 f7 f8
  replace f0 := shm_4 f0
  replace f2 := shm_107 f2
  replace f3 := shm_799 f3
  replace f7 := shm_1665 f7
  replace f8 := shm_5 f8
  have q2 : n_v vs 2 = n_v vs 0 := f8.symm
  simp only [q2] at f3 f7
  have ad_7 : v_ad (n_v vs 7) = w_ar ws (n_v vs 0) 18 := congrArg v_ad f3
  simp only [ad_7] at f2
  have h2 : v_iv (n_v vs 8) = w_ei ws (w_ar ws (n_v vs 0) 18) (v_iv (n_v vs 5)) := f2
  have nf0 : fc_1 PRD (20, [2, 9, 4], [60, 1, 3, 355, 5, 2, 21, 18]) ws (vs) := by
    refine ⟨nf_in hl rfl, sgq_1665 ?_⟩
    · show SOI (w_fi ws (n_v vs 2) 5) (w_ei ws (w_ar ws (n_v vs 2) 2)) (w_ei ws (w_ar ws (n_v vs 2) 21)) (w_ei ws (w_ar ws (n_v vs 2) 18)) (v_iv (n_v vs 9)) (v_iv (n_v vs 4))
      rw [q2]
      exact vc_Mo_strong_5_0 (v_iv (n_v vs 4)) (v_iv (n_v vs 5)) (v_iv (n_v vs 8)) (v_iv (n_v vs 9)) (w_ei ws (w_ar ws (n_v vs 0) 18)) (w_ei ws (w_ar ws (n_v vs 0) 2)) (w_fi ws (n_v vs 0) 5) (w_ei ws (w_ar ws (n_v vs 0) 21)) k4 k5 k8 k9 f0 h2 f7
  refine ⟨(fun _ h => (by cases h)), [], trivial, ?_, (fun _ h => (by cases h))⟩
  rw [List.append_nil]
  exact List.forall_mem_cons.mpr ⟨⟨show (20 : Nat) < 100 from by decide, nf0⟩, (fun _ h => (by cases h))⟩
set_option maxHeartbeats 4000000 in
theorem vc_Mo_strong_6_0 (x4 : Int) (x5 : Int) (x6 : Int) (x7 : Int) (x8 : Int) (x9 : Int) (all_0 : Int → Int) (r_0 : Int) (reach_0 : Int → Int) (strongOf_0 : Int → Int) (k4 : 0 ≤ x4 ∧ x4 ≤ 23) (k5 : 0 ≤ x5 ∧ x5 ≤ 23) (k6 : 0 ≤ x6 ∧ x6 ≤ 24) (k7 : 0 ≤ x7 ∧ x7 ≤ 24) (k8 : 1 ≤ x8 ∧ x8 ≤ 24) (k9 : 1 ≤ x9 ∧ x9 ≤ 24) (d5 : x7 + 0 ≤ x6 ∧ x6 ≤ x7 + 4294967296) (f0 : x9 = x5 + 1) (f1 : x8 = x4 + 1) (f2 : x7 ≤ x6) (f3 : 1 * x7 + ((-1) * all_0 (r_0 + 0) + 0) ≤ 0) (f4 : (-1) * x7 + (1 * all_0 (r_0 + 0) + 0) ≤ 0) (f5 : SOJ (r_0) (all_0) (reach_0) (strongOf_0) (x5) (x6) (x4)) : SOI (r_0) (all_0) (reach_0) (strongOf_0) (x9) (x8) := by
  try simp only [Int.add_zero] at *
  first
    | exact soj_end ‹SOJ _ _ _ _ _ _ _› (by omega) (by omega) (by omega)
def o_Mo_strong_6 : or_T := (32, 10, [(0, (2, 0, 0, [165])), (2, (2, 0, 0, [165])), (4, (0, 0, 23, [])), (5, (0, 0, 23, [])), (6, (0, 0, 24, [])), (7, (0, 0, 24, [])), (8, (0, 1, 24, [])), (9, (0, 1, 24, []))], [(6, [9, 5], [1]), (6, [8, 4], [1]), (7, [6, 7], [3]), (20, [7, 2], [30, 0, 1, 0, 0, -1, 3, 2005000]), (20, [7, 2], [30, 0, -1, 0, 0, 1, 3, 2005000]), (20, [2, 5, 6, 4], [60, 1, 3, 356, 5, 2, 21, 18]), (24, [0, 2], [])], [], [], [(20, [2, 9, 8], [60, 1, 3, 355, 5, 2, 21, 18])], [], [(9, 5, 1, 1), (9, 6, -4294967296, 1), (8, 4, 1, 1), (8, 5, -4294967296, 1), (8, 6, -4294967296, 1), (6, 7, 0, 4294967296), (4, 5, -4294967296, 0), (4, 6, -4294967296, 0), (5, 6, -4294967296, 0)])
theorem oo_Mo_strong_6 {kA : Nat → ClassId} : or_ok PRD kA GG o_Mo_strong_6 := by
  refine or_mk fun A ta ws vs hD hth hl => ?_
  intro t0 r0 t2 r2 t4 k4 t5 k5 t6 k6 t7 k7 t8 k8 t9 k9 d0 d1 d2 d3 d4 d5 d6 d7 d8 f0 f1 f2 f3 f4 f5 f6
  replace f0 := shm_4 f0
  replace f1 := shm_4 f1
  replace f2 := shm_2 f2
  replace f3 := shm_126 f3
  replace f4 := shm_127 f4
  replace f5 := shm_1668 f5
  replace f6 := shm_5 f6
  have q2 : n_v vs 2 = n_v vs 0 := f6.symm
  simp only [q2] at f3 f4 f5
  have nf0 : fc_1 PRD (20, [2, 9, 8], [60, 1, 3, 355, 5, 2, 21, 18]) ws (vs) := by
    refine ⟨nf_in hl rfl, sgq_1665 ?_⟩
    · show SOI (w_fi ws (n_v vs 2) 5) (w_ei ws (w_ar ws (n_v vs 2) 2)) (w_ei ws (w_ar ws (n_v vs 2) 21)) (w_ei ws (w_ar ws (n_v vs 2) 18)) (v_iv (n_v vs 9)) (v_iv (n_v vs 8))
      rw [q2]
      exact vc_Mo_strong_6_0 (v_iv (n_v vs 4)) (v_iv (n_v vs 5)) (v_iv (n_v vs 6)) (v_iv (n_v vs 7)) (v_iv (n_v vs 8)) (v_iv (n_v vs 9)) (w_ei ws (w_ar ws (n_v vs 0) 2)) (w_fi ws (n_v vs 0) 5) (w_ei ws (w_ar ws (n_v vs 0) 21)) (w_ei ws (w_ar ws (n_v vs 0) 18)) k4 k5 k6 k7 k8 k9 d5 f0 f1 f2 f3 f4 f5
  refine ⟨(fun _ h => (by cases h)), [], trivial, ?_, (fun _ h => (by cases h))⟩
  rw [List.append_nil]
  exact List.forall_mem_cons.mpr ⟨⟨show (20 : Nat) < 100 from by decide, nf0⟩, (fun _ h => (by cases h))⟩
set_option maxHeartbeats 4000000 in
theorem vc_Mo_strong_7_0 (x4 : Int) (x5 : Int) (x6 : Int) (x10 : Int) (x11 : Int) (x12 : Int) (x13 : Int) (reach_0 : Int → Int) (all_0 : Int → Int) (r_0 : Int) (strongOf_0 : Int → Int) (k4 : 0 ≤ x4 ∧ x4 ≤ 23) (k5 : 0 ≤ x5 ∧ x5 ≤ 23) (k6 : 0 ≤ x6 ∧ x6 ≤ 23) (k10 : 0 ≤ x10 ∧ x10 ≤ 552) (k11 : 0 ≤ x11 ∧ x11 ≤ 575) (k12 : 0 ≤ x12 ∧ x12 ≤ 0) (k13 : 1 ≤ x13 ∧ x13 ≤ 24) (d0 : x6 + 1 ≤ x13 ∧ x13 ≤ x6 + 1) (f0 : x13 = x6 + 1) (h2 : x12 = reach_0 (x11)) (f3 : x11 = x10 + x6) (f4 : x10 = 24 * x5) (f9 : SOJ (r_0) (all_0) (reach_0) (strongOf_0) (x5) (x6) (x4)) : SOJ (r_0) (all_0) (reach_0) (strongOf_0) (x5) (x13) (x4) := by
  try simp only [Int.add_zero] at *
  first
    | exact soj_skip ‹SOJ _ _ _ _ _ _ _› (by omega) (fun h => by rw [← (by omega : x11 = 24 * x5 + x6)] at h; omega)
    | exact soj_skip ‹SOJ _ _ _ _ _ _ _› (by omega) (fun h => by rw [← (by omega : x15 = 24 * x6 + x5)] at h; omega)
def o_Mo_strong_7 : or_T := (55, 14, [(4, (0, 0, 23, [])), (5, (0, 0, 23, [])), (6, (0, 0, 23, [])), (9, (0, 24, 24, [])), (10, (0, 0, 552, [])), (11, (0, 0, 575, [])), (12, (0, 0, 0, [])), (13, (0, 1, 24, []))], [(6, [13, 6], [1]), (10, [12, 8, 11], []), (1, [11, 10, 6], []), (3, [10, 9, 5], []), (9, [8, 2], [21]), (20, [2, 5, 6, 4], [60, 1, 3, 356, 5, 2, 21, 18]), (24, [0, 2], [])], [], [], [(20, [2, 5, 13, 4], [60, 1, 3, 356, 5, 2, 21, 18])], [], [(13, 6, 1, 1)])
theorem oo_Mo_strong_7 {kA : Nat → ClassId} : or_ok PRD kA GG o_Mo_strong_7 := by
  refine or_mk fun A ta ws vs hD hth hl => ?_
  intro t4 k4 t5 k5 t6 k6 t9 k9 t10 k10 t11 k11 t12 k12 t13 k13 d0 f0 f2 f3 f4 f5 f9 f10
  replace f0 := shm_4 f0
  replace f2 := shm_107 f2
  replace f3 := shm_12 f3
  replace f4 := shm_38 f4
  rw [show v_iv (n_v vs 9) = 24 from by omega] at f4
  replace f5 := shm_1584 f5
  replace f9 := shm_1668 f9
  replace f10 := shm_5 f10
  have q2 : n_v vs 2 = n_v vs 0 := f10.symm
  simp only [q2] at f5 f9
  have ad_8 : v_ad (n_v vs 8) = w_ar ws (n_v vs 0) 21 := congrArg v_ad f5
  simp only [ad_8] at f2
  have h2 : v_iv (n_v vs 12) = w_ei ws (w_ar ws (n_v vs 0) 21) (v_iv (n_v vs 11)) := f2
  have nf0 : fc_1 PRD (20, [2, 5, 13, 4], [60, 1, 3, 356, 5, 2, 21, 18]) ws (vs) := by
    refine ⟨nf_in hl rfl, sgq_1668 ?_⟩
    · show SOJ (w_fi ws (n_v vs 2) 5) (w_ei ws (w_ar ws (n_v vs 2) 2)) (w_ei ws (w_ar ws (n_v vs 2) 21)) (w_ei ws (w_ar ws (n_v vs 2) 18)) (v_iv (n_v vs 5)) (v_iv (n_v vs 13)) (v_iv (n_v vs 4))
      rw [q2]
      exact vc_Mo_strong_7_0 (v_iv (n_v vs 4)) (v_iv (n_v vs 5)) (v_iv (n_v vs 6)) (v_iv (n_v vs 10)) (v_iv (n_v vs 11)) (v_iv (n_v vs 12)) (v_iv (n_v vs 13)) (w_ei ws (w_ar ws (n_v vs 0) 21)) (w_ei ws (w_ar ws (n_v vs 0) 2)) (w_fi ws (n_v vs 0) 5) (w_ei ws (w_ar ws (n_v vs 0) 18)) k4 k5 k6 k10 k11 k12 k13 d0 f0 h2 f3 f4 f9
  refine ⟨(fun _ h => (by cases h)), [], trivial, ?_, (fun _ h => (by cases h))⟩
  rw [List.append_nil]
  exact List.forall_mem_cons.mpr ⟨⟨show (20 : Nat) < 100 from by decide, nf0⟩, (fun _ h => (by cases h))⟩
set_option maxHeartbeats 4000000 in
theorem vc_Mo_strong_8_0 (x4 : Int) (x5 : Int) (x6 : Int) (x11 : Int) (x14 : Int) (x15 : Int) (x16 : Int) (x17 : Int) (reach_0 : Int → Int) (all_0 : Int → Int) (r_0 : Int) (strongOf_0 : Int → Int) (k4 : 0 ≤ x4 ∧ x4 ≤ 23) (k5 : 0 ≤ x5 ∧ x5 ≤ 23) (k6 : 0 ≤ x6 ∧ x6 ≤ 23) (k14 : 0 ≤ x14 ∧ x14 ≤ 552) (k15 : 0 ≤ x15 ∧ x15 ≤ 575) (k16 : 0 ≤ x16 ∧ x16 ≤ 0) (k17 : 1 ≤ x17 ∧ x17 ≤ 24) (d0 : x6 + 1 ≤ x17 ∧ x17 ≤ x6 + 1) (f0 : x17 = x6 + 1) (h2 : x16 = reach_0 (x15)) (f3 : x15 = x14 + x5) (f4 : x14 = 24 * x6) (f13 : SOJ (r_0) (all_0) (reach_0) (strongOf_0) (x5) (x6) (x4)) : SOJ (r_0) (all_0) (reach_0) (strongOf_0) (x5) (x17) (x4) := by
  try simp only [Int.add_zero] at *
  first
    | exact soj_skip ‹SOJ _ _ _ _ _ _ _› (by omega) (fun h => by rw [← (by omega : x11 = 24 * x5 + x6)] at h; omega)
    | exact soj_skip ‹SOJ _ _ _ _ _ _ _› (by omega) (fun h => by rw [← (by omega : x15 = 24 * x6 + x5)] at h; omega)
def o_Mo_strong_8 : or_T := (55, 18, [(4, (0, 0, 23, [])), (5, (0, 0, 23, [])), (6, (0, 0, 23, [])), (13, (0, 24, 24, [])), (14, (0, 0, 552, [])), (15, (0, 0, 575, [])), (16, (0, 0, 0, [])), (17, (0, 1, 24, []))], [(6, [17, 6], [1]), (10, [16, 8, 15], []), (1, [15, 14, 5], []), (3, [14, 13, 6], []), (9, [8, 2], [21]), (20, [2, 5, 6, 4], [60, 1, 3, 356, 5, 2, 21, 18]), (24, [0, 2], [])], [], [], [(20, [2, 5, 17, 4], [60, 1, 3, 356, 5, 2, 21, 18])], [], [(17, 6, 1, 1)])
theorem oo_Mo_strong_8 {kA : Nat → ClassId} : or_ok PRD kA GG o_Mo_strong_8 := by
  refine or_mk fun A ta ws vs hD hth hl => ?_
  intro t4 k4 t5 k5 t6 k6 t13 k13 t14 k14 t15 k15 t16 k16 t17 k17 d0 f0 f2 f3 f4 f5 f13 f14
  replace f0 := shm_4 f0
  replace f2 := shm_107 f2
  replace f3 := shm_12 f3
  replace f4 := shm_38 f4
  rw [show v_iv (n_v vs 13) = 24 from by omega] at f4
  replace f5 := shm_1584 f5
  replace f13 := shm_1668 f13
  replace f14 := shm_5 f14
  have q2 : n_v vs 2 = n_v vs 0 := f14.symm
  simp only [q2] at f5 f13
  have ad_8 : v_ad (n_v vs 8) = w_ar ws (n_v vs 0) 21 := congrArg v_ad f5
  simp only [ad_8] at f2
  have h2 : v_iv (n_v vs 16) = w_ei ws (w_ar ws (n_v vs 0) 21) (v_iv (n_v vs 15)) := f2
  have nf0 : fc_1 PRD (20, [2, 5, 17, 4], [60, 1, 3, 356, 5, 2, 21, 18]) ws (vs) := by
    refine ⟨nf_in hl rfl, sgq_1668 ?_⟩
    · show SOJ (w_fi ws (n_v vs 2) 5) (w_ei ws (w_ar ws (n_v vs 2) 2)) (w_ei ws (w_ar ws (n_v vs 2) 21)) (w_ei ws (w_ar ws (n_v vs 2) 18)) (v_iv (n_v vs 5)) (v_iv (n_v vs 17)) (v_iv (n_v vs 4))
      rw [q2]
      exact vc_Mo_strong_8_0 (v_iv (n_v vs 4)) (v_iv (n_v vs 5)) (v_iv (n_v vs 6)) (v_iv (n_v vs 11)) (v_iv (n_v vs 14)) (v_iv (n_v vs 15)) (v_iv (n_v vs 16)) (v_iv (n_v vs 17)) (w_ei ws (w_ar ws (n_v vs 0) 21)) (w_ei ws (w_ar ws (n_v vs 0) 2)) (w_fi ws (n_v vs 0) 5) (w_ei ws (w_ar ws (n_v vs 0) 18)) k4 k5 k6 k14 k15 k16 k17 d0 f0 h2 f3 f4 f13
  refine ⟨(fun _ h => (by cases h)), [], trivial, ?_, (fun _ h => (by cases h))⟩
  rw [List.append_nil]
  exact List.forall_mem_cons.mpr ⟨⟨show (20 : Nat) < 100 from by decide, nf0⟩, (fun _ h => (by cases h))⟩
set_option maxHeartbeats 4000000 in
theorem vc_Mo_strong_9_0 (x4 : Int) (x5 : Int) (x6 : Int) (x7 : Int) (x10 : Int) (x11 : Int) (x12 : Int) (x14 : Int) (x15 : Int) (x16 : Int) (x18 : Int) (all_0 : Int → Int) (r_0 : Int) (reach_1 : Int → Int) (all_1 : Int → Int) (strongOf_1 : Int → Int) (r_1 : Int) (strongOf_0 : Int → Int) (reach_0 : Int → Int) (k4 : 0 ≤ x4 ∧ x4 ≤ 23) (k5 : 0 ≤ x5 ∧ x5 ≤ 23) (k6 : 0 ≤ x6 ∧ x6 ≤ 23) (k7 : 1 ≤ x7 ∧ x7 ≤ 24) (k10 : 0 ≤ x10 ∧ x10 ≤ 552) (k11 : 0 ≤ x11 ∧ x11 ≤ 575) (k12 : 1 ≤ x12 ∧ x12 ≤ 1) (k14 : 0 ≤ x14 ∧ x14 ≤ 552) (k15 : 0 ≤ x15 ∧ x15 ≤ 575) (k16 : 1 ≤ x16 ∧ x16 ≤ 1) (k18 : 1 ≤ x18 ∧ x18 ≤ 24) (d0 : x6 + 1 ≤ x18 ∧ x18 ≤ x6 + 1) (d8 : x7 + (-4294967296) ≤ x6 ∧ x6 ≤ x7 + (-1)) (f0 : x18 = x6 + 1) (f1 : 1 * x7 + ((-1) * all_0 (r_0 + 0) + 0) ≤ 0) (f2 : (-1) * x7 + (1 * all_0 (r_0 + 0) + 0) ≤ 0) (h7 : x16 = reach_1 (x15)) (f8 : x15 = x14 + x5) (f9 : x14 = 24 * x6) (h12 : x12 = reach_1 (x11)) (f13 : x11 = x10 + x6) (f14 : x10 = 24 * x5) (f18 : SOJ (r_1) (all_1) (reach_1) (strongOf_1) (x5) (x6) (x4)) (fe_0_5_1 : r_0 = r_1) (hE_0_2_1 : ∀ j : Int, all_0 j = all_1 j) (hE_0_18_1 : ∀ j : Int, 0 ≤ j → (j = x6 → strongOf_0 j = x4) ∧ (j ≠ x6 → strongOf_0 j = strongOf_1 j)) (hE_0_21_1 : ∀ j : Int, reach_0 j = reach_1 j) : SOJ (r_0) (all_0) (reach_0) (strongOf_0) (x5) (x18) (x4) := by
  subst fe_0_5_1
  have e_hE_0_2_1 := funext hE_0_2_1; subst e_hE_0_2_1
  have e_hE_0_21_1 := funext hE_0_21_1; subst e_hE_0_21_1
  try simp only [Int.add_zero] at *
  first
    | exact soj_take ‹SOJ _ _ _ _ _ _ _› (by omega) (by omega) (by rw [← (by omega : x11 = 24 * x5 + x6)]; omega) (by rw [← (by omega : x15 = 24 * x6 + x5)]; omega) (by assumption) rfl rfl
def o_Mo_strong_9 : or_T := (55, 19, [(0, (2, 0, 0, [165])), (4, (0, 0, 23, [])), (5, (0, 0, 23, [])), (6, (0, 0, 23, [])), (7, (0, 1, 24, [])), (9, (0, 24, 24, [])), (10, (0, 0, 552, [])), (11, (0, 0, 575, [])), (12, (0, 1, 1, [])), (13, (0, 24, 24, [])), (14, (0, 0, 552, [])), (15, (0, 0, 575, [])), (16, (0, 1, 1, [])), (17, (2, 0, 0, [173])), (18, (0, 1, 24, []))], [(6, [18, 6], [1]), (20, [7, 2], [30, 0, 1, 0, 0, -1, 3, 2005000]), (20, [7, 2], [30, 0, -1, 0, 0, 1, 3, 2005000]), (24, [0, 2], []), (100, [17, 6, 4], []), (9, [17, 2], [18]), (10, [16, 8, 15], []), (1, [15, 14, 5], []), (3, [14, 13, 6], []), (9, [8, 2], [21]), (10, [12, 8, 11], []), (1, [11, 10, 6], []), (3, [10, 9, 5], []), (20, [2, 5, 6, 4], [60, 1, 3, 356, 5, 2, 21, 18])], [], [], [(20, [2, 5, 18, 4], [60, 1, 3, 356, 5, 2, 21, 18])], [], [(18, 6, 1, 1), (15, 6, -4294967296, 552), (11, 6, 0, 552), (6, 7, -4294967296, -1), (4, 5, -4294967296, 0), (4, 6, -4294967296, 0), (5, 6, -4294967296, 0)])
theorem oo_Mo_strong_9 {kA : Nat → ClassId} : or_ok PRD kA GG o_Mo_strong_9 := by
  refine or_mk fun A ta ws vs hD hth hl => ?_
  intro t0 r0 t4 k4 t5 k5 t6 k6 t7 k7 t9 k9 t10 k10 t11 k11 t12 k12 t13 k13 t14 k14 t15 k15 t16 k16 t17 r17 t18 k18 d0 d3 d5 d8 d9 d10 d11 f0 f1 f2 f3 ta1 w1 le1 s1 f5 f7 f8 f9 f10 f12 f13 f14 f18
  replace f0 := shm_4 f0
  replace f1 := shm_126 f1
  replace f2 := shm_127 f2
  replace f3 := shm_5 f3
  have s1 : (∀ b j, w_el ws b j = if b = v_ad (n_v vs 17) ∧ j = (v_iv (n_v vs 6)).toNat then v_iv (n_v vs 4) else w_el w1 b j) ∧ ∀ b k, w_fd ws b k = w_fd w1 b k := s1.2
  replace f5 := shm_799 f5
  replace f7 := shm_107 f7
  replace f8 := shm_12 f8
  replace f9 := shm_38 f9
  rw [show v_iv (n_v vs 13) = 24 from by omega] at f9
  replace f10 := shm_1584 f10
  replace f12 := shm_107 f12
  replace f13 := shm_12 f13
  replace f14 := shm_38 f14
  rw [show v_iv (n_v vs 9) = 24 from by omega] at f14
  replace f18 := shm_1668 f18
  have q2 : n_v vs 2 = n_v vs 0 := f3.symm
  simp only [q2] at f1 f2 f5 f10 f18
  have ar_0_2_1 : w_ar w1 (n_v vs 0) 2 = w_ar ws (n_v vs 0) 2 := congrArg v_ad (s1.2 _ _).symm
  have cr_0_2 := fdq_10 hD hth r0
  have ar_0_18_1 : w_ar w1 (n_v vs 0) 18 = w_ar ws (n_v vs 0) 18 := congrArg v_ad (s1.2 _ _).symm
  have ar_0_21_1 : w_ar w1 (n_v vs 0) 21 = w_ar ws (n_v vs 0) 21 := congrArg v_ad (s1.2 _ _).symm
  have cr_0_21 := fdq_300 hD hth r0
  have ad_17 : v_ad (n_v vs 17) = w_ar ws (n_v vs 0) 18 := (congrArg v_ad f5).trans ar_0_18_1
  have ad_8 : v_ad (n_v vs 8) = w_ar ws (n_v vs 0) 21 := (congrArg v_ad f10).trans ar_0_21_1
  simp only [ad_8] at f7
  have h7 : v_iv (n_v vs 16) = w_ei w1 (w_ar ws (n_v vs 0) 21) (v_iv (n_v vs 15)) := f7
  simp only [ad_8] at f12
  have h12 : v_iv (n_v vs 12) = w_ei w1 (w_ar ws (n_v vs 0) 21) (v_iv (n_v vs 11)) := f12
  simp only [ar_0_2_1, ar_0_18_1, ar_0_21_1] at f18
  have fe_0_5_1 : w_fi ws (n_v vs 0) 5 = w_fi w1 (n_v vs 0) 5 := congrArg v_iv (s1.2 _ _)
  have hE_0_2_1 : ∀ j : Int, w_ei ws (w_ar ws (n_v vs 0) 2) j = w_ei w1 (w_ar ws (n_v vs 0) 2) j := el_kp s1.1 r17 cr_0_2 (by decide)
  have hE_0_18_1 : ∀ j : Int, 0 ≤ j → (j = v_iv (n_v vs 6) → w_ei ws (w_ar ws (n_v vs 0) 18) j = v_iv (n_v vs 4)) ∧ (j ≠ v_iv (n_v vs 6) → w_ei ws (w_ar ws (n_v vs 0) 18) j = w_ei w1 (w_ar ws (n_v vs 0) 18) j) := fun j hj => ⟨fun h => by unfold w_ei; rw [s1.1, if_pos ⟨ad_17.symm, by rw [h]⟩], fun h => by unfold w_ei; rw [s1.1, if_neg (fun e => h (by have := e.2; omega))]⟩
  have hE_0_21_1 : ∀ j : Int, w_ei ws (w_ar ws (n_v vs 0) 21) j = w_ei w1 (w_ar ws (n_v vs 0) 21) j := el_kp s1.1 r17 cr_0_21 (by decide)
  have nf0 : fc_1 PRD (20, [2, 5, 18, 4], [60, 1, 3, 356, 5, 2, 21, 18]) ws (vs) := by
    refine ⟨nf_in hl rfl, sgq_1668 ?_⟩
    · show SOJ (w_fi ws (n_v vs 2) 5) (w_ei ws (w_ar ws (n_v vs 2) 2)) (w_ei ws (w_ar ws (n_v vs 2) 21)) (w_ei ws (w_ar ws (n_v vs 2) 18)) (v_iv (n_v vs 5)) (v_iv (n_v vs 18)) (v_iv (n_v vs 4))
      rw [q2]
      exact vc_Mo_strong_9_0 (v_iv (n_v vs 4)) (v_iv (n_v vs 5)) (v_iv (n_v vs 6)) (v_iv (n_v vs 7)) (v_iv (n_v vs 10)) (v_iv (n_v vs 11)) (v_iv (n_v vs 12)) (v_iv (n_v vs 14)) (v_iv (n_v vs 15)) (v_iv (n_v vs 16)) (v_iv (n_v vs 18)) (w_ei ws (w_ar ws (n_v vs 0) 2)) (w_fi ws (n_v vs 0) 5) (w_ei w1 (w_ar ws (n_v vs 0) 21)) (w_ei w1 (w_ar ws (n_v vs 0) 2)) (w_ei w1 (w_ar ws (n_v vs 0) 18)) (w_fi w1 (n_v vs 0) 5) (w_ei ws (w_ar ws (n_v vs 0) 18)) (w_ei ws (w_ar ws (n_v vs 0) 21)) k4 k5 k6 k7 k10 k11 k12 k14 k15 k16 k18 d0 d8 f0 f1 f2 h7 f8 f9 h12 f13 f14 f18 fe_0_5_1 hE_0_2_1 hE_0_18_1 hE_0_21_1
  refine ⟨(fun _ h => (by cases h)), [], trivial, ?_, (fun _ h => (by cases h))⟩
  rw [List.append_nil]
  exact List.forall_mem_cons.mpr ⟨⟨show (20 : Nat) < 100 from by decide, nf0⟩, (fun _ h => (by cases h))⟩
def n_Mo_strong_an : List an_T := [(9, [(0, (2, 0, 0, [165])), (1, (0, 0, 1, [])), (2, (0, 0, 0, [])), (3, (0, 0, 24, []))], [], (0, 0), [(0, 0, 99991), (1, 5, 24), (0, 0, 100000), (0, 0, 0), (0, 0, 0)], [(1, 3, (Int.negSucc 999999999999), 0), (3, 1, (Int.negSucc 999999999999), 0)], [], [(2, 0, 0, [165]), (0, 0, 1, [])], 0, [], [(20, [2], [60, 1, 2, 354, 5, 2, 21]), (20, [2, 5], [60, 0, 1, 357, 18]), (24, [0, 2], [])]), (32, [(0, (2, 0, 0, [165])), (1, (0, 0, 1, [])), (2, (0, 0, 24, [])), (3, (0, 0, 24, []))], [], (0, 0), [(0, 0, 99968), (1, 5, 24), (0, 0, 100000), (0, 0, 0), (0, 0, 0)], [(1, 3, (Int.negSucc 999999999999), 0), (3, 1, (Int.negSucc 999999999999), 0), (4, 5, (Int.negSucc 999999999999), 0)], [], [(2, 0, 0, [165]), (0, 0, 1, [])], 0, [], [(20, [2, 5, 4], [60, 1, 3, 355, 5, 2, 21, 18]), (24, [0, 2], [])]), (55, [(0, (2, 0, 0, [165])), (1, (0, 0, 1, [])), (2, (0, 0, 23, [])), (3, (0, 0, 23, [])), (4, (0, 0, 24, []))], [], (0, 0), [(0, 0, 99968), (1, 5, 24), (0, 0, 99945), (1, 6, 24), (0, 0, 100000)], [(1, 3, (Int.negSucc 999999999999), 0), (3, 1, (Int.negSucc 999999999999), 0), (4, 5, (Int.negSucc 999999999999), 0), (4, 6, (Int.negSucc 999999999999), 0), (5, 6, (Int.negSucc 999999999999), 0)], [], [(2, 0, 0, [165]), (0, 0, 1, [])], 0, [], [(20, [2, 5, 6, 4], [60, 1, 3, 356, 5, 2, 21, 18]), (24, [0, 2], [])])]
def t_Mo_strong_ct : ct_L := [(1, 475, e_Mo_nodes), (1, 556, e_Mo_reaching)]
set_option maxRecDepth 100000 in
theorem c_Mo_strong {l : Launch} {D : va_G} {kA : Nat → ClassId} (h_Mo_nodes : ct_ok PRD l D kA GG y_Mo_nodes z_Mo_nodes e_Mo_nodes) (h_Mo_reaching : ct_ok PRD l D kA GG y_Mo_reaching z_Mo_reaching e_Mo_reaching) : ct_ok PRD l D kA GG y_Mo_strong z_Mo_strong e_Mo_strong := chk_all_ok (FT := [(35, 13, 18), (44, 13, 21)]) (PT := []) (CT := t_Mo_strong_ct) (KT := []) (NT := []) (AN := n_Mo_strong_an) (OT := [o_Mo_strong_0, o_Mo_strong_1, o_Mo_strong_2, o_Mo_strong_3, o_Mo_strong_4, o_Mo_strong_5, o_Mo_strong_6, o_Mo_strong_7, o_Mo_strong_8, o_Mo_strong_9]) 5 288 (List.forall_mem_cons.mpr ⟨oo_Mo_strong_0, List.forall_mem_cons.mpr ⟨oo_Mo_strong_1, List.forall_mem_cons.mpr ⟨oo_Mo_strong_2, List.forall_mem_cons.mpr ⟨oo_Mo_strong_3, List.forall_mem_cons.mpr ⟨oo_Mo_strong_4, List.forall_mem_cons.mpr ⟨oo_Mo_strong_5, List.forall_mem_cons.mpr ⟨oo_Mo_strong_6, List.forall_mem_cons.mpr ⟨oo_Mo_strong_7, List.forall_mem_cons.mpr ⟨oo_Mo_strong_8, List.forall_mem_cons.mpr ⟨oo_Mo_strong_9, List.forall_mem_nil _⟩⟩⟩⟩⟩⟩⟩⟩⟩⟩) (by decide +kernel) ⟨List.forall_mem_cons.mpr ⟨gf_Mo_35, List.forall_mem_cons.mpr ⟨gf_Mo_44, List.forall_mem_nil _⟩⟩, List.forall_mem_nil _, List.forall_mem_cons.mpr ⟨cl_virtual (y := y_Mo_nodes) (ci := 13) rfl rfl ⟨_, _, rfl⟩ (by decide +kernel) h_Mo_nodes wm_3025 wm_9 wm_3022 wm_3024 wv_13_3 ⟨by decide, by decide, by decide +kernel⟩ (by decide), List.forall_mem_cons.mpr ⟨cl_virtual (y := y_Mo_reaching) (ci := 13) rfl rfl ⟨_, _, rfl⟩ (by decide +kernel) h_Mo_reaching wm_3295 wm_9 wm_3292 wm_3294 wv_16_14 ⟨by decide, by decide, by decide +kernel⟩ (by decide), List.forall_mem_nil _⟩⟩, List.forall_mem_nil _, List.forall_mem_nil _, GG_pl⟩ (by decide +kernel)

set_option maxHeartbeats 4000000 in
theorem vc_Mo_wayOf_0_0 (x1 : Int) (x2 : Int) (ends_0 : Int → Int) (k1 : 0 ≤ x1 ∧ x1 ≤ 79) (k2 : 0 ≤ x2 ∧ x2 ≤ 0) : WA (ends_0) (x1) (x2) := by
  first
    | (intro i a b; exfalso; omega)
    | (have h := ‹WA _ _ _›
       have hi := ‹ISE _ _ _ _›
       intro i a b z
       by_cases q : i = x4
       · rw [q] at z; exact (hi.mpr z) (by omega)
       · exact h i a (by omega) z)
set_option maxHeartbeats 4000000 in
theorem vc_Mo_wayOf_0_1 (x1 : Int) (x2 : Int) (pt_0 : Int → Int) (ph_0 : Int → Int) (pn_0 : Int) (pm_0 : Int) (drawnEdge_0 : Int → Int) (pieceOf_0 : Int → Int) (drawnNode_0 : Int → Int) (ends_0 : Int → Int) (k1 : 0 ≤ x1 ∧ x1 ≤ 79) (k2 : 0 ≤ x2 ∧ x2 ≤ 0) (f2 : WPR (pn_0) (pm_0) (pt_0) (ph_0) (drawnEdge_0) (pieceOf_0) (drawnNode_0) (ends_0) (x1)) (kz_0_31 : 0 ≤ pn_0 ∧ pn_0 ≤ 25) (kz_0_32 : 0 ≤ pm_0 ∧ pm_0 ≤ 80) : 1 * x2 + ((-1) * pn_0 + 0) ≤ (-1) := by
  first
    | (have hA := wpr_a (a := 0) ‹WPR _ _ _ _ _ _ _ _ _› (fun i a b => by exfalso; omega); omega)
    | (have hA := wpr_a (a := x4 + 1) ‹WPR _ _ _ _ _ _ _ _ _› (by
         have h := ‹WA _ _ _›
         have hi := ‹ISE _ _ _ _›
         intro i a b z
         by_cases q : i = x4
         · rw [q] at z; exact (hi.mpr z) (by omega)
         · exact h i a (by omega) z)
       omega)
def o_Mo_wayOf_0 : or_T := (2, 3, [(0, (2, 0, 0, [165])), (1, (0, 0, 79, [])), (2, (0, 0, 0, []))], [(20, [0, 1], [60, 2, 6, 135, 31, 32, 33, 34, 43, 44, 42, 50])], [], [], [(20, [0, 1, 2], [60, 0, 1, 136, 50]), (20, [2, 0], [30, -1, 1, 0, 0, -1, 1, 31]), (24, [0, 0], []), (24, [1, 1], [])], [], [])
theorem oo_Mo_wayOf_0 {kA : Nat → ClassId} : or_ok PRD kA GG o_Mo_wayOf_0 := by
  refine or_mk fun A ta ws vs hD hth hl => ?_
  intro t0 r0 t1 k1 t2 k2 f2
  have kz_0_31 := fdq_145 hD hth r0
  have kz_0_32 := fdq_140 hD hth r0
  have nf0 : fc_1 PRD (20, [0, 1, 2], [60, 0, 1, 136, 50]) ws (vs) := ⟨nf_in hl rfl, sgq_1670 (vc_Mo_wayOf_0_0 (v_iv (n_v vs 1)) (v_iv (n_v vs 2)) (w_ei ws (w_ar ws (n_v vs 0) 50)) k1 k2)⟩
  have nf1 : fc_1 PRD (20, [2, 0], [30, -1, 1, 0, 0, -1, 1, 31]) ws (vs) := ⟨nf_in hl rfl, sgq_553 (vc_Mo_wayOf_0_1 (v_iv (n_v vs 1)) (v_iv (n_v vs 2)) (w_ei ws (w_ar ws (n_v vs 0) 33)) (w_ei ws (w_ar ws (n_v vs 0) 34)) (w_fi ws (n_v vs 0) 31) (w_fi ws (n_v vs 0) 32) (w_ei ws (w_ar ws (n_v vs 0) 43)) (w_ei ws (w_ar ws (n_v vs 0) 44)) (w_ei ws (w_ar ws (n_v vs 0) 42)) (w_ei ws (w_ar ws (n_v vs 0) 50)) k1 k2 (shm_1669 f2) kz_0_31 kz_0_32)⟩
  have nf2 : fc_1 PRD (24, [0, 0], []) ws (vs) := by
    refine ⟨nf_in hl rfl, sgq_1 ?_⟩
    · show n_v vs 0 = n_v vs 0
      first | rfl | simp only [true_and]
  have nf3 : fc_1 PRD (24, [1, 1], []) ws (vs) := by
    refine ⟨nf_in hl rfl, sgq_1 ?_⟩
    · show n_v vs 1 = n_v vs 1
      first | rfl | simp only [true_and]
  refine ⟨(fun _ h => (by cases h)), [], trivial, ?_, (fun _ h => (by cases h))⟩
  rw [List.append_nil]
  exact List.forall_mem_cons.mpr ⟨⟨show (20 : Nat) < 100 from by decide, nf0⟩, List.forall_mem_cons.mpr ⟨⟨show (20 : Nat) < 100 from by decide, nf1⟩, List.forall_mem_cons.mpr ⟨⟨show (24 : Nat) < 100 from by decide, nf2⟩, List.forall_mem_cons.mpr ⟨⟨show (24 : Nat) < 100 from by decide, nf3⟩, (fun _ h => (by cases h))⟩⟩⟩⟩
set_option maxHeartbeats 4000000 in
theorem vc_Mo_wayOf_1_r0 (x1 : Int) (x4 : Int) (x5 : Int) (x6 : Int) (ends_0 : Int → Int) (pt_0 : Int → Int) (ph_0 : Int → Int) (pn_0 : Int) (pm_0 : Int) (drawnEdge_0 : Int → Int) (pieceOf_0 : Int → Int) (drawnNode_0 : Int → Int) (k1 : 0 ≤ x1 ∧ x1 ≤ 79) (k4 : 0 ≤ x4 ∧ x4 ≤ 24) (k5 : 0 ≤ x5 ∧ x5 ≤ 0) (k6 : 1 ≤ x6 ∧ x6 ≤ 25) (d0 : x4 + 1 ≤ x6 ∧ x6 ≤ x4 + 1) (f1 : x5 = 0) (f2 : ISE (ends_0) (x1) (x4) (x5)) (f5 : WPR (pn_0) (pm_0) (pt_0) (ph_0) (drawnEdge_0) (pieceOf_0) (drawnNode_0) (ends_0) (x1)) (f6 : WA (ends_0) (x1) (x4)) (kz_0_31 : 0 ≤ pn_0 ∧ pn_0 ≤ 25) (kz_0_32 : 0 ≤ pm_0 ∧ pm_0 ≤ 80) : 1 ≤ x6 ∧ x6 ≤ 24 := by
  have hA := wpr_a (a := x4 + 1) ‹WPR _ _ _ _ _ _ _ _ _› (by
         have h := ‹WA _ _ _›
         have hi := ‹ISE _ _ _ _›
         intro i a b z
         by_cases q : i = x4
         · rw [q] at z; exact (hi.mpr z) (by omega)
         · exact h i a (by omega) z)
  omega
def o_Mo_wayOf_1 : or_T := (14, 7, [(0, (2, 0, 0, [165])), (1, (0, 0, 79, [])), (2, (2, 0, 0, [165])), (3, (0, 0, 79, [])), (4, (0, 0, 24, [])), (5, (0, 0, 0, [])), (6, (0, 1, 25, []))], [(6, [6, 4], [1]), (8, [5], [0]), (20, [2, 3, 4, 5], [60, 0, 1, 114, 50]), (20, [2], [60, 2, 2, 75, 31, 32, 33, 34]), (20, [2], [60, 1, 2, 122, 32, 35, 43]), (20, [2, 3], [60, 2, 6, 135, 31, 32, 33, 34, 43, 44, 42, 50]), (20, [2, 3, 4], [60, 0, 1, 136, 50]), (20, [4, 2], [30, -1, 1, 0, 0, -1, 1, 31]), (24, [0, 2], []), (24, [1, 3], [])], [(6, (0, 1, 24, []))], [], [], [], [(6, 4, 1, 1), (1, 3, -4294967296, 0), (3, 1, -4294967296, 0)])
theorem oo_Mo_wayOf_1 {kA : Nat → ClassId} : or_ok PRD kA GG o_Mo_wayOf_1 := by
  refine or_mk fun A ta ws vs hD hth hl => ?_
  intro t0 r0 t1 k1 t2 r2 t3 k3 t4 k4 t5 k5 t6 k6 d0 d1 d2 f0 f1 f2 f3 f4 f5 f6 f7 f8 f9
  replace f2 := shm_610 f2
  replace f5 := shm_1669 f5
  replace f6 := shm_1670 f6
  replace f8 := shm_5 f8
  replace f9 := shm_5 f9
  have q2 : n_v vs 2 = n_v vs 0 := f8.symm
  have q3 : n_v vs 3 = n_v vs 1 := f9.symm
  simp only [q2, q3] at f2 f5 f6
  have kz_0_31 := fdq_145 hD hth r0
  have kz_0_32 := fdq_140 hD hth r0
  have hrf0 : 1 ≤ v_iv (n_v vs 6) ∧ v_iv (n_v vs 6) ≤ 24 := vc_Mo_wayOf_1_r0 (v_iv (n_v vs 1)) (v_iv (n_v vs 4)) (v_iv (n_v vs 5)) (v_iv (n_v vs 6)) (w_ei ws (w_ar ws (n_v vs 0) 50)) (w_ei ws (w_ar ws (n_v vs 0) 33)) (w_ei ws (w_ar ws (n_v vs 0) 34)) (w_fi ws (n_v vs 0) 31) (w_fi ws (n_v vs 0) 32) (w_ei ws (w_ar ws (n_v vs 0) 43)) (w_ei ws (w_ar ws (n_v vs 0) 44)) (w_ei ws (w_ar ws (n_v vs 0) 42)) k1 k4 k5 k6 d0 (shm_192 f1) f2 f5 f6 kz_0_31 kz_0_32
  have rf6 : tv_ok ta (0, 1, 24, []) (n_v vs 6) := tv_in t6 (by first | omega | grind) (by first | omega | grind)
  refine ⟨List.forall_mem_cons.mpr ⟨rf6, (fun _ h => (by cases h))⟩, [], trivial, ?_, (fun _ h => (by cases h))⟩
  rw [List.append_nil]
  exact (fun _ h => (by cases h))
set_option maxHeartbeats 4000000 in
theorem vc_Mo_wayOf_2_0 (x1 : Int) (x4 : Int) (x5 : Int) (x6 : Int) (ends_0 : Int → Int) (k1 : 0 ≤ x1 ∧ x1 ≤ 79) (k4 : 0 ≤ x4 ∧ x4 ≤ 24) (k5 : 0 ≤ x5 ∧ x5 ≤ 0) (k6 : 1 ≤ x6 ∧ x6 ≤ 24) (d0 : x4 + 1 ≤ x6 ∧ x6 ≤ x4 + 1) (f1 : x5 = 0) (f2 : ISE (ends_0) (x1) (x4) (x5)) (f6 : WA (ends_0) (x1) (x4)) : WA (ends_0) (x1) (x6) := by
  first
    | (intro i a b; exfalso; omega)
    | (have h := ‹WA _ _ _›
       have hi := ‹ISE _ _ _ _›
       intro i a b z
       by_cases q : i = x4
       · rw [q] at z; exact (hi.mpr z) (by omega)
       · exact h i a (by omega) z)
set_option maxHeartbeats 4000000 in
theorem vc_Mo_wayOf_2_1 (x1 : Int) (x4 : Int) (x5 : Int) (x6 : Int) (ends_0 : Int → Int) (pt_0 : Int → Int) (ph_0 : Int → Int) (pn_0 : Int) (pm_0 : Int) (drawnEdge_0 : Int → Int) (pieceOf_0 : Int → Int) (drawnNode_0 : Int → Int) (k1 : 0 ≤ x1 ∧ x1 ≤ 79) (k4 : 0 ≤ x4 ∧ x4 ≤ 24) (k5 : 0 ≤ x5 ∧ x5 ≤ 0) (k6 : 1 ≤ x6 ∧ x6 ≤ 24) (d0 : x4 + 1 ≤ x6 ∧ x6 ≤ x4 + 1) (f1 : x5 = 0) (f2 : ISE (ends_0) (x1) (x4) (x5)) (f5 : WPR (pn_0) (pm_0) (pt_0) (ph_0) (drawnEdge_0) (pieceOf_0) (drawnNode_0) (ends_0) (x1)) (f6 : WA (ends_0) (x1) (x4)) (kz_0_31 : 0 ≤ pn_0 ∧ pn_0 ≤ 25) (kz_0_32 : 0 ≤ pm_0 ∧ pm_0 ≤ 80) : 1 * x6 + ((-1) * pn_0 + 0) ≤ (-1) := by
  first
    | (have hA := wpr_a (a := 0) ‹WPR _ _ _ _ _ _ _ _ _› (fun i a b => by exfalso; omega); omega)
    | (have hA := wpr_a (a := x4 + 1) ‹WPR _ _ _ _ _ _ _ _ _› (by
         have h := ‹WA _ _ _›
         have hi := ‹ISE _ _ _ _›
         intro i a b z
         by_cases q : i = x4
         · rw [q] at z; exact (hi.mpr z) (by omega)
         · exact h i a (by omega) z)
       omega)
def o_Mo_wayOf_2 : or_T := (2, 7, [(0, (2, 0, 0, [165])), (1, (0, 0, 79, [])), (4, (0, 0, 24, [])), (5, (0, 0, 0, [])), (6, (0, 1, 24, []))], [(8, [5], [0]), (20, [2, 3, 4, 5], [60, 0, 1, 114, 50]), (20, [2, 3], [60, 2, 6, 135, 31, 32, 33, 34, 43, 44, 42, 50]), (20, [2, 3, 4], [60, 0, 1, 136, 50]), (24, [0, 2], []), (24, [1, 3], [])], [], [], [(20, [2, 3, 6], [60, 0, 1, 136, 50]), (20, [6, 2], [30, -1, 1, 0, 0, -1, 1, 31])], [], [(6, 4, 1, 1)])
theorem oo_Mo_wayOf_2 {kA : Nat → ClassId} : or_ok PRD kA GG o_Mo_wayOf_2 := by
  refine or_mk fun A ta ws vs hD hth hl => ?_
  intro t0 r0 t1 k1 t4 k4 t5 k5 t6 k6 d0 f1 f2 f5 f6 f8 f9
  replace f1 := shm_192 f1
  replace f2 := shm_610 f2
  replace f5 := shm_1669 f5
  replace f6 := shm_1670 f6
  replace f8 := shm_5 f8
  replace f9 := shm_5 f9
  have q2 : n_v vs 2 = n_v vs 0 := f8.symm
  have q3 : n_v vs 3 = n_v vs 1 := f9.symm
  simp only [q2, q3] at f2 f5 f6
  have kz_0_31 := fdq_145 hD hth r0
  have kz_0_32 := fdq_140 hD hth r0
  have nf0 : fc_1 PRD (20, [2, 3, 6], [60, 0, 1, 136, 50]) ws (vs) := by
    refine ⟨nf_in hl rfl, sgq_1670 ?_⟩
    · show WA (w_ei ws (w_ar ws (n_v vs 2) 50)) (v_iv (n_v vs 3)) (v_iv (n_v vs 6))
      simp only [q2, q3]
      exact vc_Mo_wayOf_2_0 (v_iv (n_v vs 1)) (v_iv (n_v vs 4)) (v_iv (n_v vs 5)) (v_iv (n_v vs 6)) (w_ei ws (w_ar ws (n_v vs 0) 50)) k1 k4 k5 k6 d0 f1 f2 f6
  have nf1 : fc_1 PRD (20, [6, 2], [30, -1, 1, 0, 0, -1, 1, 31]) ws (vs) := by
    refine ⟨nf_in hl rfl, sgq_553 ?_⟩
    · show 1 * v_iv (n_v vs 6) + ((-1) * w_fi ws (n_v vs 2) 31 + 0) ≤ (-1)
      rw [q2]
      exact vc_Mo_wayOf_2_1 (v_iv (n_v vs 1)) (v_iv (n_v vs 4)) (v_iv (n_v vs 5)) (v_iv (n_v vs 6)) (w_ei ws (w_ar ws (n_v vs 0) 50)) (w_ei ws (w_ar ws (n_v vs 0) 33)) (w_ei ws (w_ar ws (n_v vs 0) 34)) (w_fi ws (n_v vs 0) 31) (w_fi ws (n_v vs 0) 32) (w_ei ws (w_ar ws (n_v vs 0) 43)) (w_ei ws (w_ar ws (n_v vs 0) 44)) (w_ei ws (w_ar ws (n_v vs 0) 42)) k1 k4 k5 k6 d0 f1 f2 f5 f6 kz_0_31 kz_0_32
  refine ⟨(fun _ h => (by cases h)), [], trivial, ?_, (fun _ h => (by cases h))⟩
  rw [List.append_nil]
  exact List.forall_mem_cons.mpr ⟨⟨show (20 : Nat) < 100 from by decide, nf0⟩, List.forall_mem_cons.mpr ⟨⟨show (20 : Nat) < 100 from by decide, nf1⟩, (fun _ h => (by cases h))⟩⟩
set_option maxHeartbeats 4000000 in
theorem vc_Mo_wayOf_3_0 (x1 : Int) (x4 : Int) (x5 : Int) (ends_0 : Int → Int) (pt_0 : Int → Int) (ph_0 : Int → Int) (pn_0 : Int) (pm_0 : Int) (alive_0 : Int → Int) (drawnEdge_0 : Int → Int) (pieceOf_0 : Int → Int) (drawnNode_0 : Int → Int) (ends_1 : Int → Int) (pt_1 : Int → Int) (ph_1 : Int → Int) (pn_1 : Int) (pm_1 : Int) (alive_1 : Int → Int) (drawnEdge_1 : Int → Int) (pieceOf_1 : Int → Int) (drawnNode_1 : Int → Int) (bestWay_0 : Int → Int) (bestWay_1 : Int → Int) (k1 : 0 ≤ x1 ∧ x1 ≤ 79) (k4 : 0 ≤ x4 ∧ x4 ≤ 24) (k5 : 1 ≤ x5 ∧ x5 ≤ 1) (f9 : x5 ≠ 0) (f10 : ISE (ends_1) (x1) (x4) (x5)) (fe_0_31_1 : pn_0 = pn_1) (fe_0_32_1 : pm_0 = pm_1) (hE_0_33_1 : ∀ j : Int, pt_0 j = pt_1 j) (hE_0_34_1 : ∀ j : Int, ph_0 j = ph_1 j) (hE_0_35_1 : ∀ j : Int, alive_0 j = alive_1 j) (hE_0_42_1 : ∀ j : Int, drawnNode_0 j = drawnNode_1 j) (hE_0_43_1 : ∀ j : Int, drawnEdge_0 j = drawnEdge_1 j) (hE_0_44_1 : ∀ j : Int, pieceOf_0 j = pieceOf_1 j) (hE_0_50_1 : ∀ j : Int, ends_0 j = ends_1 j) (hE_0_52_1 : ∀ j : Int, bestWay_0 j = bestWay_1 j) (kz_0_31 : 0 ≤ pn_0 ∧ pn_0 ≤ 25) (kz_0_32 : 0 ≤ pm_0 ∧ pm_0 ≤ 80) : WE (ends_0) (x1) (x4) := by
  subst fe_0_31_1
  subst fe_0_32_1
  have e_hE_0_33_1 := funext hE_0_33_1; subst e_hE_0_33_1
  have e_hE_0_34_1 := funext hE_0_34_1; subst e_hE_0_34_1
  have e_hE_0_35_1 := funext hE_0_35_1; subst e_hE_0_35_1
  have e_hE_0_42_1 := funext hE_0_42_1; subst e_hE_0_42_1
  have e_hE_0_43_1 := funext hE_0_43_1; subst e_hE_0_43_1
  have e_hE_0_44_1 := funext hE_0_44_1; subst e_hE_0_44_1
  have e_hE_0_50_1 := funext hE_0_50_1; subst e_hE_0_50_1
  have e_hE_0_52_1 := funext hE_0_52_1; subst e_hE_0_52_1
  first
    | assumption
    | exact ‹ISE _ _ _ _›.mp (by omega)
set_option maxHeartbeats 4000000 in
theorem vc_Mo_wayOf_3_1 (x1 : Int) (ends_0 : Int → Int) (pt_0 : Int → Int) (ph_0 : Int → Int) (pn_0 : Int) (pm_0 : Int) (alive_0 : Int → Int) (drawnEdge_0 : Int → Int) (pieceOf_0 : Int → Int) (drawnNode_0 : Int → Int) (ends_1 : Int → Int) (pt_1 : Int → Int) (ph_1 : Int → Int) (pn_1 : Int) (pm_1 : Int) (alive_1 : Int → Int) (drawnEdge_1 : Int → Int) (pieceOf_1 : Int → Int) (drawnNode_1 : Int → Int) (onlyPiece_0 : Int) (bestWay_0 : Int → Int) (bestWay_1 : Int → Int) (k1 : 0 ≤ x1 ∧ x1 ≤ 79) (fe_0_31_1 : pn_0 = pn_1) (fe_0_32_1 : pm_0 = pm_1) (fe_0_49_1 : onlyPiece_0 = x1) (hE_0_33_1 : ∀ j : Int, pt_0 j = pt_1 j) (hE_0_34_1 : ∀ j : Int, ph_0 j = ph_1 j) (hE_0_35_1 : ∀ j : Int, alive_0 j = alive_1 j) (hE_0_42_1 : ∀ j : Int, drawnNode_0 j = drawnNode_1 j) (hE_0_43_1 : ∀ j : Int, drawnEdge_0 j = drawnEdge_1 j) (hE_0_44_1 : ∀ j : Int, pieceOf_0 j = pieceOf_1 j) (hE_0_50_1 : ∀ j : Int, ends_0 j = ends_1 j) (hE_0_52_1 : ∀ j : Int, bestWay_0 j = bestWay_1 j) (kz_0_31 : 0 ≤ pn_0 ∧ pn_0 ≤ 25) (kz_0_32 : 0 ≤ pm_0 ∧ pm_0 ≤ 80) (kz_0_49 : (-1) ≤ onlyPiece_0 ∧ onlyPiece_0 ≤ 79) : onlyPiece_0 = x1 := by
  subst fe_0_31_1
  subst fe_0_32_1
  have e_hE_0_33_1 := funext hE_0_33_1; subst e_hE_0_33_1
  have e_hE_0_34_1 := funext hE_0_34_1; subst e_hE_0_34_1
  have e_hE_0_35_1 := funext hE_0_35_1; subst e_hE_0_35_1
  have e_hE_0_42_1 := funext hE_0_42_1; subst e_hE_0_42_1
  have e_hE_0_43_1 := funext hE_0_43_1; subst e_hE_0_43_1
  have e_hE_0_44_1 := funext hE_0_44_1; subst e_hE_0_44_1
  have e_hE_0_50_1 := funext hE_0_50_1; subst e_hE_0_50_1
  have e_hE_0_52_1 := funext hE_0_52_1; subst e_hE_0_52_1
  first | omega
set_option maxHeartbeats 4000000 in
theorem vc_Mo_wayOf_3_2 (x1 : Int) (x4 : Int) (x6 : Int) (x7 : Int) (ends_0 : Int → Int) (pt_0 : Int → Int) (ph_0 : Int → Int) (pn_0 : Int) (pm_0 : Int) (alive_0 : Int → Int) (drawnEdge_0 : Int → Int) (pieceOf_0 : Int → Int) (drawnNode_0 : Int → Int) (ends_1 : Int → Int) (pt_1 : Int → Int) (ph_1 : Int → Int) (pn_1 : Int) (pm_1 : Int) (alive_1 : Int → Int) (drawnEdge_1 : Int → Int) (pieceOf_1 : Int → Int) (drawnNode_1 : Int → Int) (bestWay_0 : Int → Int) (bestWay_1 : Int → Int) (k1 : 0 ≤ x1 ∧ x1 ≤ 79) (k4 : 0 ≤ x4 ∧ x4 ≤ 24) (k6 : 0 ≤ x6 ∧ x6 ≤ 0) (k7 : 0 ≤ x7 ∧ x7 ≤ 0) (fe_0_31_1 : pn_0 = pn_1) (fe_0_32_1 : pm_0 = pm_1) (hE_0_33_1 : ∀ j : Int, pt_0 j = pt_1 j) (hE_0_34_1 : ∀ j : Int, ph_0 j = ph_1 j) (hE_0_35_1 : ∀ j : Int, alive_0 j = alive_1 j) (hE_0_42_1 : ∀ j : Int, drawnNode_0 j = drawnNode_1 j) (hE_0_43_1 : ∀ j : Int, drawnEdge_0 j = drawnEdge_1 j) (hE_0_44_1 : ∀ j : Int, pieceOf_0 j = pieceOf_1 j) (hE_0_50_1 : ∀ j : Int, ends_0 j = ends_1 j) (hE_0_52_1 : ∀ j : Int, bestWay_0 j = bestWay_1 j) (kz_0_31 : 0 ≤ pn_0 ∧ pn_0 ≤ 25) (kz_0_32 : 0 ≤ pm_0 ∧ pm_0 ≤ 80) : WB (pn_0) (pm_0) (pt_0) (ph_0) (alive_0) (drawnEdge_0) (pieceOf_0) (drawnNode_0) (ends_0) (bestWay_0) (x1) (x4) (x6) (x7) := by
  subst fe_0_31_1
  subst fe_0_32_1
  have e_hE_0_33_1 := funext hE_0_33_1; subst e_hE_0_33_1
  have e_hE_0_34_1 := funext hE_0_34_1; subst e_hE_0_34_1
  have e_hE_0_35_1 := funext hE_0_35_1; subst e_hE_0_35_1
  have e_hE_0_42_1 := funext hE_0_42_1; subst e_hE_0_42_1
  have e_hE_0_43_1 := funext hE_0_43_1; subst e_hE_0_43_1
  have e_hE_0_44_1 := funext hE_0_44_1; subst e_hE_0_44_1
  have e_hE_0_50_1 := funext hE_0_50_1; subst e_hE_0_50_1
  have e_hE_0_52_1 := funext hE_0_52_1; subst e_hE_0_52_1
  first
    | exact Or.inl ⟨by omega, fun y a b => by exfalso; omega⟩
def o_Mo_wayOf_3 : or_T := (27, 8, [(0, (2, 0, 0, [165])), (1, (0, 0, 79, [])), (4, (0, 0, 24, [])), (5, (0, 1, 1, [])), (6, (0, 0, 0, [])), (7, (0, 0, 0, []))], [(24, [0, 2], []), (24, [1, 3], []), (101, [2, 3], [49]), (8, [5], [1]), (20, [2, 3, 4, 5], [60, 0, 1, 114, 50])], [], [], [(20, [2, 3, 4], [60, 0, 1, 137, 50]), (20, [2, 3], [50, 1, 0, 49, 1, 3, 2, 0, 49, 1, 1]), (20, [2, 3, 4, 6, 7], [60, 2, 8, 138, 31, 32, 33, 34, 35, 43, 44, 42, 50, 52])], [], [])
theorem oo_Mo_wayOf_3 {kA : Nat → ClassId} : or_ok PRD kA GG o_Mo_wayOf_3 := by
  refine or_mk fun A ta ws vs hD hth hl => ?_
  intro t0 r0 t1 k1 t4 k4 t5 k5 t6 k6 t7 k7 f6 f7 ta1 w1 le1 s1 f9 f10
  replace f6 := shm_5 f6
  replace f7 := shm_5 f7
  have s1 : (∀ b j, w_el ws b j = w_el w1 b j) ∧ ∀ b j, w_fd ws b j = if b = v_ad (n_v vs 2) ∧ j = 49 then n_v vs 3 else w_fd w1 b j := s1.2
  replace f9 := shm_142 f9
  replace f10 := shm_610 f10
  have q2 : n_v vs 2 = n_v vs 0 := f6.symm
  have q3 : n_v vs 3 = n_v vs 1 := f7.symm
  rw [q2] at s1
  rw [q3] at s1
  simp only [q2, q3] at f10
  have ar_0_33_1 : w_ar w1 (n_v vs 0) 33 = w_ar ws (n_v vs 0) 33 := by show v_ad (w_fd w1 _ _) = v_ad (w_fd ws _ _); rw [s1.2, if_neg (fun e => absurd e.2 (by decide))]
  have ar_0_34_1 : w_ar w1 (n_v vs 0) 34 = w_ar ws (n_v vs 0) 34 := by show v_ad (w_fd w1 _ _) = v_ad (w_fd ws _ _); rw [s1.2, if_neg (fun e => absurd e.2 (by decide))]
  have ar_0_35_1 : w_ar w1 (n_v vs 0) 35 = w_ar ws (n_v vs 0) 35 := by show v_ad (w_fd w1 _ _) = v_ad (w_fd ws _ _); rw [s1.2, if_neg (fun e => absurd e.2 (by decide))]
  have ar_0_42_1 : w_ar w1 (n_v vs 0) 42 = w_ar ws (n_v vs 0) 42 := by show v_ad (w_fd w1 _ _) = v_ad (w_fd ws _ _); rw [s1.2, if_neg (fun e => absurd e.2 (by decide))]
  have ar_0_43_1 : w_ar w1 (n_v vs 0) 43 = w_ar ws (n_v vs 0) 43 := by show v_ad (w_fd w1 _ _) = v_ad (w_fd ws _ _); rw [s1.2, if_neg (fun e => absurd e.2 (by decide))]
  have ar_0_44_1 : w_ar w1 (n_v vs 0) 44 = w_ar ws (n_v vs 0) 44 := by show v_ad (w_fd w1 _ _) = v_ad (w_fd ws _ _); rw [s1.2, if_neg (fun e => absurd e.2 (by decide))]
  have ar_0_50_1 : w_ar w1 (n_v vs 0) 50 = w_ar ws (n_v vs 0) 50 := by show v_ad (w_fd w1 _ _) = v_ad (w_fd ws _ _); rw [s1.2, if_neg (fun e => absurd e.2 (by decide))]
  simp only [ar_0_50_1, ar_0_33_1, ar_0_34_1, ar_0_35_1, ar_0_43_1, ar_0_42_1, ar_0_44_1] at f10
  have fe_0_31_1 : w_fi ws (n_v vs 0) 31 = w_fi w1 (n_v vs 0) 31 := by show v_iv (w_fd _ _ _) = v_iv (w_fd _ _ _); rw [s1.2, if_neg (fun e => absurd e.2 (by decide))]
  have fe_0_32_1 : w_fi ws (n_v vs 0) 32 = w_fi w1 (n_v vs 0) 32 := by show v_iv (w_fd _ _ _) = v_iv (w_fd _ _ _); rw [s1.2, if_neg (fun e => absurd e.2 (by decide))]
  have fe_0_49_1 : w_fi ws (n_v vs 0) 49 = v_iv (n_v vs 1) := by show v_iv (w_fd _ _ _) = _; rw [s1.2, if_pos ⟨rfl, rfl⟩]
  have hE_0_33_1 : ∀ j : Int, w_ei ws (w_ar ws (n_v vs 0) 33) j = w_ei w1 (w_ar ws (n_v vs 0) 33) j := fun j => s1.1 _ _
  have hE_0_34_1 : ∀ j : Int, w_ei ws (w_ar ws (n_v vs 0) 34) j = w_ei w1 (w_ar ws (n_v vs 0) 34) j := fun j => s1.1 _ _
  have hE_0_35_1 : ∀ j : Int, w_ei ws (w_ar ws (n_v vs 0) 35) j = w_ei w1 (w_ar ws (n_v vs 0) 35) j := fun j => s1.1 _ _
  have hE_0_42_1 : ∀ j : Int, w_ei ws (w_ar ws (n_v vs 0) 42) j = w_ei w1 (w_ar ws (n_v vs 0) 42) j := fun j => s1.1 _ _
  have hE_0_43_1 : ∀ j : Int, w_ei ws (w_ar ws (n_v vs 0) 43) j = w_ei w1 (w_ar ws (n_v vs 0) 43) j := fun j => s1.1 _ _
  have hE_0_44_1 : ∀ j : Int, w_ei ws (w_ar ws (n_v vs 0) 44) j = w_ei w1 (w_ar ws (n_v vs 0) 44) j := fun j => s1.1 _ _
  have hE_0_50_1 : ∀ j : Int, w_ei ws (w_ar ws (n_v vs 0) 50) j = w_ei w1 (w_ar ws (n_v vs 0) 50) j := fun j => s1.1 _ _
  have hE_0_52_1 : ∀ j : Int, w_ei ws (w_ar ws (n_v vs 0) 52) j = w_ei w1 (w_ar ws (n_v vs 0) 52) j := fun j => s1.1 _ _
  have kz_0_31 := fdq_145 hD hth r0
  have kz_0_32 := fdq_140 hD hth r0
  have kz_0_49 := fdq_146 hD hth r0
  have nf0 : fc_1 PRD (20, [2, 3, 4], [60, 0, 1, 137, 50]) ws (vs) := by
    refine ⟨nf_in hl rfl, sgq_1671 ?_⟩
    · show WE (w_ei ws (w_ar ws (n_v vs 2) 50)) (v_iv (n_v vs 3)) (v_iv (n_v vs 4))
      simp only [q2, q3]
      exact vc_Mo_wayOf_3_0 (v_iv (n_v vs 1)) (v_iv (n_v vs 4)) (v_iv (n_v vs 5)) (w_ei ws (w_ar ws (n_v vs 0) 50)) (w_ei ws (w_ar ws (n_v vs 0) 33)) (w_ei ws (w_ar ws (n_v vs 0) 34)) (w_fi ws (n_v vs 0) 31) (w_fi ws (n_v vs 0) 32) (w_ei ws (w_ar ws (n_v vs 0) 35)) (w_ei ws (w_ar ws (n_v vs 0) 43)) (w_ei ws (w_ar ws (n_v vs 0) 44)) (w_ei ws (w_ar ws (n_v vs 0) 42)) (w_ei w1 (w_ar ws (n_v vs 0) 50)) (w_ei w1 (w_ar ws (n_v vs 0) 33)) (w_ei w1 (w_ar ws (n_v vs 0) 34)) (w_fi w1 (n_v vs 0) 31) (w_fi w1 (n_v vs 0) 32) (w_ei w1 (w_ar ws (n_v vs 0) 35)) (w_ei w1 (w_ar ws (n_v vs 0) 43)) (w_ei w1 (w_ar ws (n_v vs 0) 44)) (w_ei w1 (w_ar ws (n_v vs 0) 42)) (w_ei ws (w_ar ws (n_v vs 0) 52)) (w_ei w1 (w_ar ws (n_v vs 0) 52)) k1 k4 k5 f9 f10 fe_0_31_1 fe_0_32_1 hE_0_33_1 hE_0_34_1 hE_0_35_1 hE_0_42_1 hE_0_43_1 hE_0_44_1 hE_0_50_1 hE_0_52_1 kz_0_31 kz_0_32
  have nf1 : fc_1 PRD (20, [2, 3], [50, 1, 0, 49, 1, 3, 2, 0, 49, 1, 1]) ws (vs) := by
    refine ⟨nf_in hl rfl, sgq_1672 ?_⟩
    · show w_fi ws (n_v vs 2) 49 = v_iv (n_v vs 3)
      simp only [q2, q3]
      exact vc_Mo_wayOf_3_1 (v_iv (n_v vs 1)) (w_ei ws (w_ar ws (n_v vs 0) 50)) (w_ei ws (w_ar ws (n_v vs 0) 33)) (w_ei ws (w_ar ws (n_v vs 0) 34)) (w_fi ws (n_v vs 0) 31) (w_fi ws (n_v vs 0) 32) (w_ei ws (w_ar ws (n_v vs 0) 35)) (w_ei ws (w_ar ws (n_v vs 0) 43)) (w_ei ws (w_ar ws (n_v vs 0) 44)) (w_ei ws (w_ar ws (n_v vs 0) 42)) (w_ei w1 (w_ar ws (n_v vs 0) 50)) (w_ei w1 (w_ar ws (n_v vs 0) 33)) (w_ei w1 (w_ar ws (n_v vs 0) 34)) (w_fi w1 (n_v vs 0) 31) (w_fi w1 (n_v vs 0) 32) (w_ei w1 (w_ar ws (n_v vs 0) 35)) (w_ei w1 (w_ar ws (n_v vs 0) 43)) (w_ei w1 (w_ar ws (n_v vs 0) 44)) (w_ei w1 (w_ar ws (n_v vs 0) 42)) (w_fi ws (n_v vs 0) 49) (w_ei ws (w_ar ws (n_v vs 0) 52)) (w_ei w1 (w_ar ws (n_v vs 0) 52)) k1 fe_0_31_1 fe_0_32_1 fe_0_49_1 hE_0_33_1 hE_0_34_1 hE_0_35_1 hE_0_42_1 hE_0_43_1 hE_0_44_1 hE_0_50_1 hE_0_52_1 kz_0_31 kz_0_32 kz_0_49
  have nf2 : fc_1 PRD (20, [2, 3, 4, 6, 7], [60, 2, 8, 138, 31, 32, 33, 34, 35, 43, 44, 42, 50, 52]) ws (vs) := by
    refine ⟨nf_in hl rfl, sgq_1673 ?_⟩
    · show WB (w_fi ws (n_v vs 2) 31) (w_fi ws (n_v vs 2) 32) (w_ei ws (w_ar ws (n_v vs 2) 33)) (w_ei ws (w_ar ws (n_v vs 2) 34)) (w_ei ws (w_ar ws (n_v vs 2) 35)) (w_ei ws (w_ar ws (n_v vs 2) 43)) (w_ei ws (w_ar ws (n_v vs 2) 44)) (w_ei ws (w_ar ws (n_v vs 2) 42)) (w_ei ws (w_ar ws (n_v vs 2) 50)) (w_ei ws (w_ar ws (n_v vs 2) 52)) (v_iv (n_v vs 3)) (v_iv (n_v vs 4)) (v_iv (n_v vs 6)) (v_iv (n_v vs 7))
      simp only [q2, q3]
      exact vc_Mo_wayOf_3_2 (v_iv (n_v vs 1)) (v_iv (n_v vs 4)) (v_iv (n_v vs 6)) (v_iv (n_v vs 7)) (w_ei ws (w_ar ws (n_v vs 0) 50)) (w_ei ws (w_ar ws (n_v vs 0) 33)) (w_ei ws (w_ar ws (n_v vs 0) 34)) (w_fi ws (n_v vs 0) 31) (w_fi ws (n_v vs 0) 32) (w_ei ws (w_ar ws (n_v vs 0) 35)) (w_ei ws (w_ar ws (n_v vs 0) 43)) (w_ei ws (w_ar ws (n_v vs 0) 44)) (w_ei ws (w_ar ws (n_v vs 0) 42)) (w_ei w1 (w_ar ws (n_v vs 0) 50)) (w_ei w1 (w_ar ws (n_v vs 0) 33)) (w_ei w1 (w_ar ws (n_v vs 0) 34)) (w_fi w1 (n_v vs 0) 31) (w_fi w1 (n_v vs 0) 32) (w_ei w1 (w_ar ws (n_v vs 0) 35)) (w_ei w1 (w_ar ws (n_v vs 0) 43)) (w_ei w1 (w_ar ws (n_v vs 0) 44)) (w_ei w1 (w_ar ws (n_v vs 0) 42)) (w_ei ws (w_ar ws (n_v vs 0) 52)) (w_ei w1 (w_ar ws (n_v vs 0) 52)) k1 k4 k6 k7 fe_0_31_1 fe_0_32_1 hE_0_33_1 hE_0_34_1 hE_0_35_1 hE_0_42_1 hE_0_43_1 hE_0_44_1 hE_0_50_1 hE_0_52_1 kz_0_31 kz_0_32
  refine ⟨(fun _ h => (by cases h)), [], trivial, ?_, (fun _ h => (by cases h))⟩
  rw [List.append_nil]
  exact List.forall_mem_cons.mpr ⟨⟨show (20 : Nat) < 100 from by decide, nf0⟩, List.forall_mem_cons.mpr ⟨⟨show (20 : Nat) < 100 from by decide, nf1⟩, List.forall_mem_cons.mpr ⟨⟨show (20 : Nat) < 100 from by decide, nf2⟩, (fun _ h => (by cases h))⟩⟩⟩
set_option maxHeartbeats 4000000 in
theorem vc_Mo_wayOf_4_0 (x1 : Int) (x4 : Int) (x5 : Int) (x6 : Int) (x7 : Int) (x9 : Int) (pt_0 : Int → Int) (ph_0 : Int → Int) (pn_0 : Int) (pm_0 : Int) (alive_0 : Int → Int) (drawnEdge_0 : Int → Int) (pieceOf_0 : Int → Int) (drawnNode_0 : Int → Int) (ends_0 : Int → Int) (bestWay_0 : Int → Int) (pt_1 : Int → Int) (ph_1 : Int → Int) (pn_1 : Int) (pm_1 : Int) (alive_1 : Int → Int) (drawnEdge_1 : Int → Int) (pieceOf_1 : Int → Int) (drawnNode_1 : Int → Int) (ends_1 : Int → Int) (bestWay_1 : Int → Int) (pn_2 : Int) (pt_2 : Int → Int) (ph_2 : Int → Int) (pm_2 : Int) (alive_2 : Int → Int) (drawnEdge_2 : Int → Int) (pieceOf_2 : Int → Int) (drawnNode_2 : Int → Int) (ends_2 : Int → Int) (bestWay_2 : Int → Int) (onlyPiece_0 : Int) (onlyPiece_1 : Int) (way_0 : Int → Int) (way_1 : Int → Int) (way_2 : Int → Int) (k1 : 0 ≤ x1 ∧ x1 ≤ 79) (k4 : 0 ≤ x4 ∧ x4 ≤ 24) (k5 : 0 ≤ x5 ∧ x5 ≤ 30) (k6 : 0 ≤ x6 ∧ x6 ≤ 25) (k7 : 0 ≤ x7 ∧ x7 ≤ 25) (k9 : 0 ≤ x9 ∧ x9 ≤ 0) (d0 : x7 + 0 ≤ x6 ∧ x6 ≤ x7 + 4294967296) (g17 : x7 = pn_2) (f20 : WPR (pn_2) (pm_2) (pt_2) (ph_2) (drawnEdge_2) (pieceOf_2) (drawnNode_2) (ends_2) (x1)) (f24 : WB (pn_2) (pm_2) (pt_2) (ph_2) (alive_2) (drawnEdge_2) (pieceOf_2) (drawnNode_2) (ends_2) (bestWay_2) (x1) (x4) (x5) (x6)) (fe_0_31_1 : pn_0 = pn_1) (fe_0_32_1 : pm_0 = pm_1) (fe_0_49_1 : onlyPiece_0 = onlyPiece_1) (fe_0_31_2 : pn_1 = pn_2) (fe_0_32_2 : pm_1 = pm_2) (hE_0_33_1 : ∀ j : Int, pt_0 j = pt_1 j) (hE_0_33_2 : ∀ j : Int, pt_1 j = pt_2 j) (hE_0_34_1 : ∀ j : Int, ph_0 j = ph_1 j) (hE_0_34_2 : ∀ j : Int, ph_1 j = ph_2 j) (hE_0_35_1 : ∀ j : Int, alive_0 j = alive_1 j) (hE_0_35_2 : ∀ j : Int, alive_1 j = alive_2 j) (hE_0_42_1 : ∀ j : Int, drawnNode_0 j = drawnNode_1 j) (hE_0_42_2 : ∀ j : Int, drawnNode_1 j = drawnNode_2 j) (hE_0_43_1 : ∀ j : Int, drawnEdge_0 j = drawnEdge_1 j) (hE_0_43_2 : ∀ j : Int, drawnEdge_1 j = drawnEdge_2 j) (hE_0_44_1 : ∀ j : Int, pieceOf_0 j = pieceOf_1 j) (hE_0_44_2 : ∀ j : Int, pieceOf_1 j = pieceOf_2 j) (hE_0_46_1 : ∀ j : Int, way_0 j = way_1 j) (hE_0_46_2 : ∀ j : Int, way_1 j = way_2 j) (hE_0_50_1 : ∀ j : Int, ends_0 j = ends_1 j) (hE_0_50_2 : ∀ j : Int, ends_1 j = ends_2 j) (hE_0_52_1 : ∀ j : Int, bestWay_0 j = bestWay_1 j) (hE_0_52_2 : ∀ j : Int, bestWay_1 j = bestWay_2 j) (kz_0_31 : 0 ≤ pn_0 ∧ pn_0 ≤ 25) (kz_0_32 : 0 ≤ pm_0 ∧ pm_0 ≤ 80) (kz_0_49 : (-1) ≤ onlyPiece_0 ∧ onlyPiece_0 ≤ 79) : WD (pn_0) (pm_0) (pt_0) (ph_0) (alive_0) (drawnEdge_0) (pieceOf_0) (drawnNode_0) (ends_0) (way_0) (bestWay_0) (x1) (x4) (x5) (x9) := by
  subst fe_0_31_1
  subst fe_0_32_1
  subst fe_0_49_1
  subst fe_0_31_2
  subst fe_0_32_2
  have e_hE_0_33_1 := funext hE_0_33_1; subst e_hE_0_33_1
  have e_hE_0_33_2 := funext hE_0_33_2; subst e_hE_0_33_2
  have e_hE_0_34_1 := funext hE_0_34_1; subst e_hE_0_34_1
  have e_hE_0_34_2 := funext hE_0_34_2; subst e_hE_0_34_2
  have e_hE_0_35_1 := funext hE_0_35_1; subst e_hE_0_35_1
  have e_hE_0_35_2 := funext hE_0_35_2; subst e_hE_0_35_2
  have e_hE_0_42_1 := funext hE_0_42_1; subst e_hE_0_42_1
  have e_hE_0_42_2 := funext hE_0_42_2; subst e_hE_0_42_2
  have e_hE_0_43_1 := funext hE_0_43_1; subst e_hE_0_43_1
  have e_hE_0_43_2 := funext hE_0_43_2; subst e_hE_0_43_2
  have e_hE_0_44_1 := funext hE_0_44_1; subst e_hE_0_44_1
  have e_hE_0_44_2 := funext hE_0_44_2; subst e_hE_0_44_2
  have e_hE_0_46_1 := funext hE_0_46_1; subst e_hE_0_46_1
  have e_hE_0_46_2 := funext hE_0_46_2; subst e_hE_0_46_2
  have e_hE_0_50_1 := funext hE_0_50_1; subst e_hE_0_50_1
  have e_hE_0_50_2 := funext hE_0_50_2; subst e_hE_0_50_2
  have e_hE_0_52_1 := funext hE_0_52_1; subst e_hE_0_52_1
  have e_hE_0_52_2 := funext hE_0_52_2; subst e_hE_0_52_2
  first
    | exact ⟨wb_end ‹WPR _ _ _ _ _ _ _ _ _› ‹WB _ _ _ _ _ _ _ _ _ _ _ _ _ _› (by omega), fun k a b => by exfalso; omega⟩
set_option maxHeartbeats 4000000 in
theorem vc_Mo_wayOf_4_1 (x8 : Int) (pt_0 : Int → Int) (ph_0 : Int → Int) (pn_0 : Int) (pm_0 : Int) (alive_0 : Int → Int) (drawnEdge_0 : Int → Int) (pieceOf_0 : Int → Int) (drawnNode_0 : Int → Int) (ends_0 : Int → Int) (bestWay_0 : Int → Int) (pt_1 : Int → Int) (ph_1 : Int → Int) (pn_1 : Int) (pm_1 : Int) (alive_1 : Int → Int) (drawnEdge_1 : Int → Int) (pieceOf_1 : Int → Int) (drawnNode_1 : Int → Int) (ends_1 : Int → Int) (bestWay_1 : Int → Int) (pn_2 : Int) (pt_2 : Int → Int) (ph_2 : Int → Int) (pm_2 : Int) (alive_2 : Int → Int) (drawnEdge_2 : Int → Int) (pieceOf_2 : Int → Int) (drawnNode_2 : Int → Int) (ends_2 : Int → Int) (bestWay_2 : Int → Int) (onlyPiece_0 : Int) (onlyPiece_1 : Int) (way_0 : Int → Int) (way_1 : Int → Int) (way_2 : Int → Int) (k8 : (-1) ≤ x8 ∧ x8 ≤ (-1)) (fe_0_31_1 : pn_0 = pn_1) (fe_0_32_1 : pm_0 = pm_1) (fe_0_49_1 : onlyPiece_0 = onlyPiece_1) (fe_0_31_2 : pn_1 = pn_2) (fe_0_32_2 : pm_1 = pm_2) (fe_0_49_2 : onlyPiece_1 = x8) (hE_0_33_1 : ∀ j : Int, pt_0 j = pt_1 j) (hE_0_33_2 : ∀ j : Int, pt_1 j = pt_2 j) (hE_0_34_1 : ∀ j : Int, ph_0 j = ph_1 j) (hE_0_34_2 : ∀ j : Int, ph_1 j = ph_2 j) (hE_0_35_1 : ∀ j : Int, alive_0 j = alive_1 j) (hE_0_35_2 : ∀ j : Int, alive_1 j = alive_2 j) (hE_0_42_1 : ∀ j : Int, drawnNode_0 j = drawnNode_1 j) (hE_0_42_2 : ∀ j : Int, drawnNode_1 j = drawnNode_2 j) (hE_0_43_1 : ∀ j : Int, drawnEdge_0 j = drawnEdge_1 j) (hE_0_43_2 : ∀ j : Int, drawnEdge_1 j = drawnEdge_2 j) (hE_0_44_1 : ∀ j : Int, pieceOf_0 j = pieceOf_1 j) (hE_0_44_2 : ∀ j : Int, pieceOf_1 j = pieceOf_2 j) (hE_0_46_1 : ∀ j : Int, way_0 j = way_1 j) (hE_0_46_2 : ∀ j : Int, way_1 j = way_2 j) (hE_0_50_1 : ∀ j : Int, ends_0 j = ends_1 j) (hE_0_50_2 : ∀ j : Int, ends_1 j = ends_2 j) (hE_0_52_1 : ∀ j : Int, bestWay_0 j = bestWay_1 j) (hE_0_52_2 : ∀ j : Int, bestWay_1 j = bestWay_2 j) (kz_0_31 : 0 ≤ pn_0 ∧ pn_0 ≤ 25) (kz_0_32 : 0 ≤ pm_0 ∧ pm_0 ≤ 80) (kz_0_49 : (-1) ≤ onlyPiece_0 ∧ onlyPiece_0 ≤ 79) : onlyPiece_0 = (-1) := by
  subst fe_0_31_1
  subst fe_0_32_1
  subst fe_0_49_1
  subst fe_0_31_2
  subst fe_0_32_2
  have e_hE_0_33_1 := funext hE_0_33_1; subst e_hE_0_33_1
  have e_hE_0_33_2 := funext hE_0_33_2; subst e_hE_0_33_2
  have e_hE_0_34_1 := funext hE_0_34_1; subst e_hE_0_34_1
  have e_hE_0_34_2 := funext hE_0_34_2; subst e_hE_0_34_2
  have e_hE_0_35_1 := funext hE_0_35_1; subst e_hE_0_35_1
  have e_hE_0_35_2 := funext hE_0_35_2; subst e_hE_0_35_2
  have e_hE_0_42_1 := funext hE_0_42_1; subst e_hE_0_42_1
  have e_hE_0_42_2 := funext hE_0_42_2; subst e_hE_0_42_2
  have e_hE_0_43_1 := funext hE_0_43_1; subst e_hE_0_43_1
  have e_hE_0_43_2 := funext hE_0_43_2; subst e_hE_0_43_2
  have e_hE_0_44_1 := funext hE_0_44_1; subst e_hE_0_44_1
  have e_hE_0_44_2 := funext hE_0_44_2; subst e_hE_0_44_2
  have e_hE_0_46_1 := funext hE_0_46_1; subst e_hE_0_46_1
  have e_hE_0_46_2 := funext hE_0_46_2; subst e_hE_0_46_2
  have e_hE_0_50_1 := funext hE_0_50_1; subst e_hE_0_50_1
  have e_hE_0_50_2 := funext hE_0_50_2; subst e_hE_0_50_2
  have e_hE_0_52_1 := funext hE_0_52_1; subst e_hE_0_52_1
  have e_hE_0_52_2 := funext hE_0_52_2; subst e_hE_0_52_2
  first | omega
set_option maxHeartbeats 4000000 in
theorem vc_Mo_wayOf_4_2 (x5 : Int) (pt_0 : Int → Int) (ph_0 : Int → Int) (pn_0 : Int) (pm_0 : Int) (alive_0 : Int → Int) (drawnEdge_0 : Int → Int) (pieceOf_0 : Int → Int) (drawnNode_0 : Int → Int) (ends_0 : Int → Int) (bestWay_0 : Int → Int) (pt_1 : Int → Int) (ph_1 : Int → Int) (pn_1 : Int) (pm_1 : Int) (alive_1 : Int → Int) (drawnEdge_1 : Int → Int) (pieceOf_1 : Int → Int) (drawnNode_1 : Int → Int) (ends_1 : Int → Int) (bestWay_1 : Int → Int) (pn_2 : Int) (pt_2 : Int → Int) (ph_2 : Int → Int) (pm_2 : Int) (alive_2 : Int → Int) (drawnEdge_2 : Int → Int) (pieceOf_2 : Int → Int) (drawnNode_2 : Int → Int) (ends_2 : Int → Int) (bestWay_2 : Int → Int) (wayMany_0 : Int) (onlyPiece_0 : Int) (onlyPiece_1 : Int) (way_0 : Int → Int) (way_1 : Int → Int) (way_2 : Int → Int) (k5 : 0 ≤ x5 ∧ x5 ≤ 30) (fe_0_31_1 : pn_0 = pn_1) (fe_0_32_1 : pm_0 = pm_1) (fe_0_45_1 : wayMany_0 = x5) (fe_0_49_1 : onlyPiece_0 = onlyPiece_1) (fe_0_31_2 : pn_1 = pn_2) (fe_0_32_2 : pm_1 = pm_2) (hE_0_33_1 : ∀ j : Int, pt_0 j = pt_1 j) (hE_0_33_2 : ∀ j : Int, pt_1 j = pt_2 j) (hE_0_34_1 : ∀ j : Int, ph_0 j = ph_1 j) (hE_0_34_2 : ∀ j : Int, ph_1 j = ph_2 j) (hE_0_35_1 : ∀ j : Int, alive_0 j = alive_1 j) (hE_0_35_2 : ∀ j : Int, alive_1 j = alive_2 j) (hE_0_42_1 : ∀ j : Int, drawnNode_0 j = drawnNode_1 j) (hE_0_42_2 : ∀ j : Int, drawnNode_1 j = drawnNode_2 j) (hE_0_43_1 : ∀ j : Int, drawnEdge_0 j = drawnEdge_1 j) (hE_0_43_2 : ∀ j : Int, drawnEdge_1 j = drawnEdge_2 j) (hE_0_44_1 : ∀ j : Int, pieceOf_0 j = pieceOf_1 j) (hE_0_44_2 : ∀ j : Int, pieceOf_1 j = pieceOf_2 j) (hE_0_46_1 : ∀ j : Int, way_0 j = way_1 j) (hE_0_46_2 : ∀ j : Int, way_1 j = way_2 j) (hE_0_50_1 : ∀ j : Int, ends_0 j = ends_1 j) (hE_0_50_2 : ∀ j : Int, ends_1 j = ends_2 j) (hE_0_52_1 : ∀ j : Int, bestWay_0 j = bestWay_1 j) (hE_0_52_2 : ∀ j : Int, bestWay_1 j = bestWay_2 j) (kz_0_31 : 0 ≤ pn_0 ∧ pn_0 ≤ 25) (kz_0_32 : 0 ≤ pm_0 ∧ pm_0 ≤ 80) (kz_0_45 : 0 ≤ wayMany_0 ∧ wayMany_0 ≤ 30) (kz_0_49 : (-1) ≤ onlyPiece_0 ∧ onlyPiece_0 ≤ 79) : wayMany_0 = x5 := by
  subst fe_0_31_1
  subst fe_0_32_1
  subst fe_0_49_1
  subst fe_0_31_2
  subst fe_0_32_2
  have e_hE_0_33_1 := funext hE_0_33_1; subst e_hE_0_33_1
  have e_hE_0_33_2 := funext hE_0_33_2; subst e_hE_0_33_2
  have e_hE_0_34_1 := funext hE_0_34_1; subst e_hE_0_34_1
  have e_hE_0_34_2 := funext hE_0_34_2; subst e_hE_0_34_2
  have e_hE_0_35_1 := funext hE_0_35_1; subst e_hE_0_35_1
  have e_hE_0_35_2 := funext hE_0_35_2; subst e_hE_0_35_2
  have e_hE_0_42_1 := funext hE_0_42_1; subst e_hE_0_42_1
  have e_hE_0_42_2 := funext hE_0_42_2; subst e_hE_0_42_2
  have e_hE_0_43_1 := funext hE_0_43_1; subst e_hE_0_43_1
  have e_hE_0_43_2 := funext hE_0_43_2; subst e_hE_0_43_2
  have e_hE_0_44_1 := funext hE_0_44_1; subst e_hE_0_44_1
  have e_hE_0_44_2 := funext hE_0_44_2; subst e_hE_0_44_2
  have e_hE_0_46_1 := funext hE_0_46_1; subst e_hE_0_46_1
  have e_hE_0_46_2 := funext hE_0_46_2; subst e_hE_0_46_2
  have e_hE_0_50_1 := funext hE_0_50_1; subst e_hE_0_50_1
  have e_hE_0_50_2 := funext hE_0_50_2; subst e_hE_0_50_2
  have e_hE_0_52_1 := funext hE_0_52_1; subst e_hE_0_52_1
  have e_hE_0_52_2 := funext hE_0_52_2; subst e_hE_0_52_2
  first | omega
def o_Mo_wayOf_4 : or_T := (223, 10, [(0, (2, 0, 0, [165])), (1, (0, 0, 79, [])), (4, (0, 0, 24, [])), (5, (0, 0, 30, [])), (6, (0, 0, 25, [])), (7, (0, 0, 25, [])), (8, (0, -1, -1, [])), (9, (0, 0, 0, []))], [(24, [0, 2], []), (24, [1, 3], []), (101, [2, 5], [45]), (101, [2, 8], [49]), (9, [7, 2], [31]), (20, [2, 3], [60, 2, 6, 135, 31, 32, 33, 34, 43, 44, 42, 50]), (20, [2, 3, 4, 5, 6], [60, 2, 8, 138, 31, 32, 33, 34, 35, 43, 44, 42, 50, 52])], [], [], [(20, [2, 3, 4, 5, 9], [60, 2, 9, 141, 31, 32, 33, 34, 35, 43, 44, 42, 50, 46, 52]), (20, [2], [50, 1, 0, 49, 1, 3, 2, 0, 49, 0, -1]), (20, [2, 5], [50, 1, 0, 45, 1, 3, 2, 0, 45, 1, 1])], [], [(6, 7, 0, 4294967296)])
theorem oo_Mo_wayOf_4 {kA : Nat → ClassId} : or_ok PRD kA GG o_Mo_wayOf_4 := by
  refine or_mk fun A ta ws vs hD hth hl => ?_
  intro t0 r0 t1 k1 t4 k4 t5 k5 t6 k6 t7 k7 t8 k8 t9 k9 d0 f6 f7 ta1 w1 le1 s1 ta2 w2 le2 s2 f17 f20 f24
  replace f6 := shm_5 f6
  replace f7 := shm_5 f7
  have s1 : (∀ b j, w_el ws b j = w_el w1 b j) ∧ ∀ b j, w_fd ws b j = if b = v_ad (n_v vs 2) ∧ j = 45 then n_v vs 5 else w_fd w1 b j := s1.2
  have s2 : (∀ b j, w_el w1 b j = w_el w2 b j) ∧ ∀ b j, w_fd w1 b j = if b = v_ad (n_v vs 2) ∧ j = 49 then n_v vs 8 else w_fd w2 b j := s2.2
  replace f17 := shm_577 f17
  replace f20 := shm_1669 f20
  replace f24 := shm_1673 f24
  have q2 : n_v vs 2 = n_v vs 0 := f6.symm
  have q3 : n_v vs 3 = n_v vs 1 := f7.symm
  rw [q2] at s1
  rw [q2] at s2
  simp only [q2, q3] at f17 f20 f24
  have ar_0_33_1 : w_ar w1 (n_v vs 0) 33 = w_ar ws (n_v vs 0) 33 := by show v_ad (w_fd w1 _ _) = v_ad (w_fd ws _ _); rw [s1.2, if_neg (fun e => absurd e.2 (by decide))]
  have ar_0_33_2 : w_ar w2 (n_v vs 0) 33 = w_ar ws (n_v vs 0) 33 := by rw [← ar_0_33_1]; show v_ad (w_fd w2 _ _) = v_ad (w_fd w1 _ _); rw [s2.2, if_neg (fun e => absurd e.2 (by decide))]
  have ar_0_34_1 : w_ar w1 (n_v vs 0) 34 = w_ar ws (n_v vs 0) 34 := by show v_ad (w_fd w1 _ _) = v_ad (w_fd ws _ _); rw [s1.2, if_neg (fun e => absurd e.2 (by decide))]
  have ar_0_34_2 : w_ar w2 (n_v vs 0) 34 = w_ar ws (n_v vs 0) 34 := by rw [← ar_0_34_1]; show v_ad (w_fd w2 _ _) = v_ad (w_fd w1 _ _); rw [s2.2, if_neg (fun e => absurd e.2 (by decide))]
  have ar_0_35_1 : w_ar w1 (n_v vs 0) 35 = w_ar ws (n_v vs 0) 35 := by show v_ad (w_fd w1 _ _) = v_ad (w_fd ws _ _); rw [s1.2, if_neg (fun e => absurd e.2 (by decide))]
  have ar_0_35_2 : w_ar w2 (n_v vs 0) 35 = w_ar ws (n_v vs 0) 35 := by rw [← ar_0_35_1]; show v_ad (w_fd w2 _ _) = v_ad (w_fd w1 _ _); rw [s2.2, if_neg (fun e => absurd e.2 (by decide))]
  have ar_0_42_1 : w_ar w1 (n_v vs 0) 42 = w_ar ws (n_v vs 0) 42 := by show v_ad (w_fd w1 _ _) = v_ad (w_fd ws _ _); rw [s1.2, if_neg (fun e => absurd e.2 (by decide))]
  have ar_0_42_2 : w_ar w2 (n_v vs 0) 42 = w_ar ws (n_v vs 0) 42 := by rw [← ar_0_42_1]; show v_ad (w_fd w2 _ _) = v_ad (w_fd w1 _ _); rw [s2.2, if_neg (fun e => absurd e.2 (by decide))]
  have ar_0_43_1 : w_ar w1 (n_v vs 0) 43 = w_ar ws (n_v vs 0) 43 := by show v_ad (w_fd w1 _ _) = v_ad (w_fd ws _ _); rw [s1.2, if_neg (fun e => absurd e.2 (by decide))]
  have ar_0_43_2 : w_ar w2 (n_v vs 0) 43 = w_ar ws (n_v vs 0) 43 := by rw [← ar_0_43_1]; show v_ad (w_fd w2 _ _) = v_ad (w_fd w1 _ _); rw [s2.2, if_neg (fun e => absurd e.2 (by decide))]
  have ar_0_44_1 : w_ar w1 (n_v vs 0) 44 = w_ar ws (n_v vs 0) 44 := by show v_ad (w_fd w1 _ _) = v_ad (w_fd ws _ _); rw [s1.2, if_neg (fun e => absurd e.2 (by decide))]
  have ar_0_44_2 : w_ar w2 (n_v vs 0) 44 = w_ar ws (n_v vs 0) 44 := by rw [← ar_0_44_1]; show v_ad (w_fd w2 _ _) = v_ad (w_fd w1 _ _); rw [s2.2, if_neg (fun e => absurd e.2 (by decide))]
  have ar_0_50_1 : w_ar w1 (n_v vs 0) 50 = w_ar ws (n_v vs 0) 50 := by show v_ad (w_fd w1 _ _) = v_ad (w_fd ws _ _); rw [s1.2, if_neg (fun e => absurd e.2 (by decide))]
  have ar_0_50_2 : w_ar w2 (n_v vs 0) 50 = w_ar ws (n_v vs 0) 50 := by rw [← ar_0_50_1]; show v_ad (w_fd w2 _ _) = v_ad (w_fd w1 _ _); rw [s2.2, if_neg (fun e => absurd e.2 (by decide))]
  have ar_0_52_1 : w_ar w1 (n_v vs 0) 52 = w_ar ws (n_v vs 0) 52 := by show v_ad (w_fd w1 _ _) = v_ad (w_fd ws _ _); rw [s1.2, if_neg (fun e => absurd e.2 (by decide))]
  have ar_0_52_2 : w_ar w2 (n_v vs 0) 52 = w_ar ws (n_v vs 0) 52 := by rw [← ar_0_52_1]; show v_ad (w_fd w2 _ _) = v_ad (w_fd w1 _ _); rw [s2.2, if_neg (fun e => absurd e.2 (by decide))]
  have g17 : v_iv (n_v vs 7) = w_fi w2 (n_v vs 0) 31 := congrArg v_iv f17
  simp only [ar_0_33_2, ar_0_34_2, ar_0_35_2, ar_0_43_2, ar_0_42_2, ar_0_44_2, ar_0_50_2, ar_0_52_2] at f20 f24
  have fe_0_31_1 : w_fi ws (n_v vs 0) 31 = w_fi w1 (n_v vs 0) 31 := by show v_iv (w_fd _ _ _) = v_iv (w_fd _ _ _); rw [s1.2, if_neg (fun e => absurd e.2 (by decide))]
  have fe_0_32_1 : w_fi ws (n_v vs 0) 32 = w_fi w1 (n_v vs 0) 32 := by show v_iv (w_fd _ _ _) = v_iv (w_fd _ _ _); rw [s1.2, if_neg (fun e => absurd e.2 (by decide))]
  have fe_0_45_1 : w_fi ws (n_v vs 0) 45 = v_iv (n_v vs 5) := by show v_iv (w_fd _ _ _) = _; rw [s1.2, if_pos ⟨rfl, rfl⟩]
  have fe_0_49_1 : w_fi ws (n_v vs 0) 49 = w_fi w1 (n_v vs 0) 49 := by show v_iv (w_fd _ _ _) = v_iv (w_fd _ _ _); rw [s1.2, if_neg (fun e => absurd e.2 (by decide))]
  have fe_0_31_2 : w_fi w1 (n_v vs 0) 31 = w_fi w2 (n_v vs 0) 31 := by show v_iv (w_fd _ _ _) = v_iv (w_fd _ _ _); rw [s2.2, if_neg (fun e => absurd e.2 (by decide))]
  have fe_0_32_2 : w_fi w1 (n_v vs 0) 32 = w_fi w2 (n_v vs 0) 32 := by show v_iv (w_fd _ _ _) = v_iv (w_fd _ _ _); rw [s2.2, if_neg (fun e => absurd e.2 (by decide))]
  have fe_0_49_2 : w_fi w1 (n_v vs 0) 49 = v_iv (n_v vs 8) := by show v_iv (w_fd _ _ _) = _; rw [s2.2, if_pos ⟨rfl, rfl⟩]
  have hE_0_33_1 : ∀ j : Int, w_ei ws (w_ar ws (n_v vs 0) 33) j = w_ei w1 (w_ar ws (n_v vs 0) 33) j := fun j => s1.1 _ _
  have hE_0_33_2 : ∀ j : Int, w_ei w1 (w_ar ws (n_v vs 0) 33) j = w_ei w2 (w_ar ws (n_v vs 0) 33) j := fun j => s2.1 _ _
  have hE_0_34_1 : ∀ j : Int, w_ei ws (w_ar ws (n_v vs 0) 34) j = w_ei w1 (w_ar ws (n_v vs 0) 34) j := fun j => s1.1 _ _
  have hE_0_34_2 : ∀ j : Int, w_ei w1 (w_ar ws (n_v vs 0) 34) j = w_ei w2 (w_ar ws (n_v vs 0) 34) j := fun j => s2.1 _ _
  have hE_0_35_1 : ∀ j : Int, w_ei ws (w_ar ws (n_v vs 0) 35) j = w_ei w1 (w_ar ws (n_v vs 0) 35) j := fun j => s1.1 _ _
  have hE_0_35_2 : ∀ j : Int, w_ei w1 (w_ar ws (n_v vs 0) 35) j = w_ei w2 (w_ar ws (n_v vs 0) 35) j := fun j => s2.1 _ _
  have hE_0_42_1 : ∀ j : Int, w_ei ws (w_ar ws (n_v vs 0) 42) j = w_ei w1 (w_ar ws (n_v vs 0) 42) j := fun j => s1.1 _ _
  have hE_0_42_2 : ∀ j : Int, w_ei w1 (w_ar ws (n_v vs 0) 42) j = w_ei w2 (w_ar ws (n_v vs 0) 42) j := fun j => s2.1 _ _
  have hE_0_43_1 : ∀ j : Int, w_ei ws (w_ar ws (n_v vs 0) 43) j = w_ei w1 (w_ar ws (n_v vs 0) 43) j := fun j => s1.1 _ _
  have hE_0_43_2 : ∀ j : Int, w_ei w1 (w_ar ws (n_v vs 0) 43) j = w_ei w2 (w_ar ws (n_v vs 0) 43) j := fun j => s2.1 _ _
  have hE_0_44_1 : ∀ j : Int, w_ei ws (w_ar ws (n_v vs 0) 44) j = w_ei w1 (w_ar ws (n_v vs 0) 44) j := fun j => s1.1 _ _
  have hE_0_44_2 : ∀ j : Int, w_ei w1 (w_ar ws (n_v vs 0) 44) j = w_ei w2 (w_ar ws (n_v vs 0) 44) j := fun j => s2.1 _ _
  have hE_0_46_1 : ∀ j : Int, w_ei ws (w_ar ws (n_v vs 0) 46) j = w_ei w1 (w_ar ws (n_v vs 0) 46) j := fun j => s1.1 _ _
  have hE_0_46_2 : ∀ j : Int, w_ei w1 (w_ar ws (n_v vs 0) 46) j = w_ei w2 (w_ar ws (n_v vs 0) 46) j := fun j => s2.1 _ _
  have hE_0_50_1 : ∀ j : Int, w_ei ws (w_ar ws (n_v vs 0) 50) j = w_ei w1 (w_ar ws (n_v vs 0) 50) j := fun j => s1.1 _ _
  have hE_0_50_2 : ∀ j : Int, w_ei w1 (w_ar ws (n_v vs 0) 50) j = w_ei w2 (w_ar ws (n_v vs 0) 50) j := fun j => s2.1 _ _
  have hE_0_52_1 : ∀ j : Int, w_ei ws (w_ar ws (n_v vs 0) 52) j = w_ei w1 (w_ar ws (n_v vs 0) 52) j := fun j => s1.1 _ _
  have hE_0_52_2 : ∀ j : Int, w_ei w1 (w_ar ws (n_v vs 0) 52) j = w_ei w2 (w_ar ws (n_v vs 0) 52) j := fun j => s2.1 _ _
  have kz_0_31 := fdq_145 hD hth r0
  have kz_0_32 := fdq_140 hD hth r0
  have kz_0_45 := fdq_191 hD hth r0
  have kz_0_49 := fdq_146 hD hth r0
  have nf0 : fc_1 PRD (20, [2, 3, 4, 5, 9], [60, 2, 9, 141, 31, 32, 33, 34, 35, 43, 44, 42, 50, 46, 52]) ws (vs) := by
    refine ⟨nf_in hl rfl, sgq_1674 ?_⟩
    · show WD (w_fi ws (n_v vs 2) 31) (w_fi ws (n_v vs 2) 32) (w_ei ws (w_ar ws (n_v vs 2) 33)) (w_ei ws (w_ar ws (n_v vs 2) 34)) (w_ei ws (w_ar ws (n_v vs 2) 35)) (w_ei ws (w_ar ws (n_v vs 2) 43)) (w_ei ws (w_ar ws (n_v vs 2) 44)) (w_ei ws (w_ar ws (n_v vs 2) 42)) (w_ei ws (w_ar ws (n_v vs 2) 50)) (w_ei ws (w_ar ws (n_v vs 2) 46)) (w_ei ws (w_ar ws (n_v vs 2) 52)) (v_iv (n_v vs 3)) (v_iv (n_v vs 4)) (v_iv (n_v vs 5)) (v_iv (n_v vs 9))
      simp only [q2, q3]
      exact vc_Mo_wayOf_4_0 (v_iv (n_v vs 1)) (v_iv (n_v vs 4)) (v_iv (n_v vs 5)) (v_iv (n_v vs 6)) (v_iv (n_v vs 7)) (v_iv (n_v vs 9)) (w_ei ws (w_ar ws (n_v vs 0) 33)) (w_ei ws (w_ar ws (n_v vs 0) 34)) (w_fi ws (n_v vs 0) 31) (w_fi ws (n_v vs 0) 32) (w_ei ws (w_ar ws (n_v vs 0) 35)) (w_ei ws (w_ar ws (n_v vs 0) 43)) (w_ei ws (w_ar ws (n_v vs 0) 44)) (w_ei ws (w_ar ws (n_v vs 0) 42)) (w_ei ws (w_ar ws (n_v vs 0) 50)) (w_ei ws (w_ar ws (n_v vs 0) 52)) (w_ei w1 (w_ar ws (n_v vs 0) 33)) (w_ei w1 (w_ar ws (n_v vs 0) 34)) (w_fi w1 (n_v vs 0) 31) (w_fi w1 (n_v vs 0) 32) (w_ei w1 (w_ar ws (n_v vs 0) 35)) (w_ei w1 (w_ar ws (n_v vs 0) 43)) (w_ei w1 (w_ar ws (n_v vs 0) 44)) (w_ei w1 (w_ar ws (n_v vs 0) 42)) (w_ei w1 (w_ar ws (n_v vs 0) 50)) (w_ei w1 (w_ar ws (n_v vs 0) 52)) (w_fi w2 (n_v vs 0) 31) (w_ei w2 (w_ar ws (n_v vs 0) 33)) (w_ei w2 (w_ar ws (n_v vs 0) 34)) (w_fi w2 (n_v vs 0) 32) (w_ei w2 (w_ar ws (n_v vs 0) 35)) (w_ei w2 (w_ar ws (n_v vs 0) 43)) (w_ei w2 (w_ar ws (n_v vs 0) 44)) (w_ei w2 (w_ar ws (n_v vs 0) 42)) (w_ei w2 (w_ar ws (n_v vs 0) 50)) (w_ei w2 (w_ar ws (n_v vs 0) 52)) (w_fi ws (n_v vs 0) 49) (w_fi w1 (n_v vs 0) 49) (w_ei ws (w_ar ws (n_v vs 0) 46)) (w_ei w1 (w_ar ws (n_v vs 0) 46)) (w_ei w2 (w_ar ws (n_v vs 0) 46)) k1 k4 k5 k6 k7 k9 d0 g17 f20 f24 fe_0_31_1 fe_0_32_1 fe_0_49_1 fe_0_31_2 fe_0_32_2 hE_0_33_1 hE_0_33_2 hE_0_34_1 hE_0_34_2 hE_0_35_1 hE_0_35_2 hE_0_42_1 hE_0_42_2 hE_0_43_1 hE_0_43_2 hE_0_44_1 hE_0_44_2 hE_0_46_1 hE_0_46_2 hE_0_50_1 hE_0_50_2 hE_0_52_1 hE_0_52_2 kz_0_31 kz_0_32 kz_0_49
  have nf1 : fc_1 PRD (20, [2], [50, 1, 0, 49, 1, 3, 2, 0, 49, 0, -1]) ws (vs) := by
    refine ⟨nf_in hl rfl, sgq_1675 ?_⟩
    · show w_fi ws (n_v vs 2) 49 = (-1)
      rw [q2]
      exact vc_Mo_wayOf_4_1 (v_iv (n_v vs 8)) (w_ei ws (w_ar ws (n_v vs 0) 33)) (w_ei ws (w_ar ws (n_v vs 0) 34)) (w_fi ws (n_v vs 0) 31) (w_fi ws (n_v vs 0) 32) (w_ei ws (w_ar ws (n_v vs 0) 35)) (w_ei ws (w_ar ws (n_v vs 0) 43)) (w_ei ws (w_ar ws (n_v vs 0) 44)) (w_ei ws (w_ar ws (n_v vs 0) 42)) (w_ei ws (w_ar ws (n_v vs 0) 50)) (w_ei ws (w_ar ws (n_v vs 0) 52)) (w_ei w1 (w_ar ws (n_v vs 0) 33)) (w_ei w1 (w_ar ws (n_v vs 0) 34)) (w_fi w1 (n_v vs 0) 31) (w_fi w1 (n_v vs 0) 32) (w_ei w1 (w_ar ws (n_v vs 0) 35)) (w_ei w1 (w_ar ws (n_v vs 0) 43)) (w_ei w1 (w_ar ws (n_v vs 0) 44)) (w_ei w1 (w_ar ws (n_v vs 0) 42)) (w_ei w1 (w_ar ws (n_v vs 0) 50)) (w_ei w1 (w_ar ws (n_v vs 0) 52)) (w_fi w2 (n_v vs 0) 31) (w_ei w2 (w_ar ws (n_v vs 0) 33)) (w_ei w2 (w_ar ws (n_v vs 0) 34)) (w_fi w2 (n_v vs 0) 32) (w_ei w2 (w_ar ws (n_v vs 0) 35)) (w_ei w2 (w_ar ws (n_v vs 0) 43)) (w_ei w2 (w_ar ws (n_v vs 0) 44)) (w_ei w2 (w_ar ws (n_v vs 0) 42)) (w_ei w2 (w_ar ws (n_v vs 0) 50)) (w_ei w2 (w_ar ws (n_v vs 0) 52)) (w_fi ws (n_v vs 0) 49) (w_fi w1 (n_v vs 0) 49) (w_ei ws (w_ar ws (n_v vs 0) 46)) (w_ei w1 (w_ar ws (n_v vs 0) 46)) (w_ei w2 (w_ar ws (n_v vs 0) 46)) k8 fe_0_31_1 fe_0_32_1 fe_0_49_1 fe_0_31_2 fe_0_32_2 fe_0_49_2 hE_0_33_1 hE_0_33_2 hE_0_34_1 hE_0_34_2 hE_0_35_1 hE_0_35_2 hE_0_42_1 hE_0_42_2 hE_0_43_1 hE_0_43_2 hE_0_44_1 hE_0_44_2 hE_0_46_1 hE_0_46_2 hE_0_50_1 hE_0_50_2 hE_0_52_1 hE_0_52_2 kz_0_31 kz_0_32 kz_0_49
  have nf2 : fc_1 PRD (20, [2, 5], [50, 1, 0, 45, 1, 3, 2, 0, 45, 1, 1]) ws (vs) := by
    refine ⟨nf_in hl rfl, sgq_1676 ?_⟩
    · show w_fi ws (n_v vs 2) 45 = v_iv (n_v vs 5)
      rw [q2]
      exact vc_Mo_wayOf_4_2 (v_iv (n_v vs 5)) (w_ei ws (w_ar ws (n_v vs 0) 33)) (w_ei ws (w_ar ws (n_v vs 0) 34)) (w_fi ws (n_v vs 0) 31) (w_fi ws (n_v vs 0) 32) (w_ei ws (w_ar ws (n_v vs 0) 35)) (w_ei ws (w_ar ws (n_v vs 0) 43)) (w_ei ws (w_ar ws (n_v vs 0) 44)) (w_ei ws (w_ar ws (n_v vs 0) 42)) (w_ei ws (w_ar ws (n_v vs 0) 50)) (w_ei ws (w_ar ws (n_v vs 0) 52)) (w_ei w1 (w_ar ws (n_v vs 0) 33)) (w_ei w1 (w_ar ws (n_v vs 0) 34)) (w_fi w1 (n_v vs 0) 31) (w_fi w1 (n_v vs 0) 32) (w_ei w1 (w_ar ws (n_v vs 0) 35)) (w_ei w1 (w_ar ws (n_v vs 0) 43)) (w_ei w1 (w_ar ws (n_v vs 0) 44)) (w_ei w1 (w_ar ws (n_v vs 0) 42)) (w_ei w1 (w_ar ws (n_v vs 0) 50)) (w_ei w1 (w_ar ws (n_v vs 0) 52)) (w_fi w2 (n_v vs 0) 31) (w_ei w2 (w_ar ws (n_v vs 0) 33)) (w_ei w2 (w_ar ws (n_v vs 0) 34)) (w_fi w2 (n_v vs 0) 32) (w_ei w2 (w_ar ws (n_v vs 0) 35)) (w_ei w2 (w_ar ws (n_v vs 0) 43)) (w_ei w2 (w_ar ws (n_v vs 0) 44)) (w_ei w2 (w_ar ws (n_v vs 0) 42)) (w_ei w2 (w_ar ws (n_v vs 0) 50)) (w_ei w2 (w_ar ws (n_v vs 0) 52)) (w_fi ws (n_v vs 0) 45) (w_fi ws (n_v vs 0) 49) (w_fi w1 (n_v vs 0) 49) (w_ei ws (w_ar ws (n_v vs 0) 46)) (w_ei w1 (w_ar ws (n_v vs 0) 46)) (w_ei w2 (w_ar ws (n_v vs 0) 46)) k5 fe_0_31_1 fe_0_32_1 fe_0_45_1 fe_0_49_1 fe_0_31_2 fe_0_32_2 hE_0_33_1 hE_0_33_2 hE_0_34_1 hE_0_34_2 hE_0_35_1 hE_0_35_2 hE_0_42_1 hE_0_42_2 hE_0_43_1 hE_0_43_2 hE_0_44_1 hE_0_44_2 hE_0_46_1 hE_0_46_2 hE_0_50_1 hE_0_50_2 hE_0_52_1 hE_0_52_2 kz_0_31 kz_0_32 kz_0_45 kz_0_49
  refine ⟨(fun _ h => (by cases h)), [], trivial, ?_, (fun _ h => (by cases h))⟩
  rw [List.append_nil]
  exact List.forall_mem_cons.mpr ⟨⟨show (20 : Nat) < 100 from by decide, nf0⟩, List.forall_mem_cons.mpr ⟨⟨show (20 : Nat) < 100 from by decide, nf1⟩, List.forall_mem_cons.mpr ⟨⟨show (20 : Nat) < 100 from by decide, nf2⟩, (fun _ h => (by cases h))⟩⟩⟩
set_option maxHeartbeats 4000000 in
theorem vc_Mo_wayOf_5_0 (x1 : Int) (x4 : Int) (x5 : Int) (x6 : Int) (x8 : Int) (pn_0 : Int) (pt_0 : Int → Int) (ph_0 : Int → Int) (pm_0 : Int) (alive_0 : Int → Int) (drawnEdge_0 : Int → Int) (pieceOf_0 : Int → Int) (drawnNode_0 : Int → Int) (ends_0 : Int → Int) (bestWay_0 : Int → Int) (k1 : 0 ≤ x1 ∧ x1 ≤ 79) (k4 : 0 ≤ x4 ∧ x4 ≤ 24) (k5 : 0 ≤ x5 ∧ x5 ≤ 30) (k6 : 0 ≤ x6 ∧ x6 ≤ 24) (k8 : 1 ≤ x8 ∧ x8 ≤ 25) (f0 : x8 = x6 + 1) (f1 : x6 = x4) (f10 : WB (pn_0) (pm_0) (pt_0) (ph_0) (alive_0) (drawnEdge_0) (pieceOf_0) (drawnNode_0) (ends_0) (bestWay_0) (x1) (x4) (x5) (x6)) (kz_0_31 : 0 ≤ pn_0 ∧ pn_0 ≤ 25) (kz_0_32 : 0 ≤ pm_0 ∧ pm_0 ≤ 80) : WB (pn_0) (pm_0) (pt_0) (ph_0) (alive_0) (drawnEdge_0) (pieceOf_0) (drawnNode_0) (ends_0) (bestWay_0) (x1) (x4) (x5) (x8) := by
  first
    | exact wb_skip1 ‹WB _ _ _ _ _ _ _ _ _ _ _ _ _ _› (by omega) (by omega)
def o_Mo_wayOf_5 : or_T := (27, 9, [(0, (2, 0, 0, [165])), (1, (0, 0, 79, [])), (4, (0, 0, 24, [])), (5, (0, 0, 30, [])), (6, (0, 0, 24, [])), (8, (0, 1, 25, []))], [(6, [8, 6], [1]), (7, [6, 4], [0]), (20, [2, 3, 4, 5, 6], [60, 2, 8, 138, 31, 32, 33, 34, 35, 43, 44, 42, 50, 52]), (24, [0, 2], []), (24, [1, 3], [])], [], [], [(20, [2, 3, 4, 5, 8], [60, 2, 8, 138, 31, 32, 33, 34, 35, 43, 44, 42, 50, 52])], [], [])
theorem oo_Mo_wayOf_5 {kA : Nat → ClassId} : or_ok PRD kA GG o_Mo_wayOf_5 := by
  refine or_mk fun A ta ws vs hD hth hl => ?_
  intro t0 r0 t1 k1 t4 k4 t5 k5 t6 k6 t8 k8 f0 f1 f10 f11 f12
  replace f0 := shm_4 f0
  replace f1 := shm_37 f1
  replace f10 := shm_1673 f10
  replace f11 := shm_5 f11
  replace f12 := shm_5 f12
  have q2 : n_v vs 2 = n_v vs 0 := f11.symm
  have q3 : n_v vs 3 = n_v vs 1 := f12.symm
  simp only [q2, q3] at f10
  have kz_0_31 := fdq_145 hD hth r0
  have kz_0_32 := fdq_140 hD hth r0
  have nf0 : fc_1 PRD (20, [2, 3, 4, 5, 8], [60, 2, 8, 138, 31, 32, 33, 34, 35, 43, 44, 42, 50, 52]) ws (vs) := by
    refine ⟨nf_in hl rfl, sgq_1673 ?_⟩
    · show WB (w_fi ws (n_v vs 2) 31) (w_fi ws (n_v vs 2) 32) (w_ei ws (w_ar ws (n_v vs 2) 33)) (w_ei ws (w_ar ws (n_v vs 2) 34)) (w_ei ws (w_ar ws (n_v vs 2) 35)) (w_ei ws (w_ar ws (n_v vs 2) 43)) (w_ei ws (w_ar ws (n_v vs 2) 44)) (w_ei ws (w_ar ws (n_v vs 2) 42)) (w_ei ws (w_ar ws (n_v vs 2) 50)) (w_ei ws (w_ar ws (n_v vs 2) 52)) (v_iv (n_v vs 3)) (v_iv (n_v vs 4)) (v_iv (n_v vs 5)) (v_iv (n_v vs 8))
      simp only [q2, q3]
      exact vc_Mo_wayOf_5_0 (v_iv (n_v vs 1)) (v_iv (n_v vs 4)) (v_iv (n_v vs 5)) (v_iv (n_v vs 6)) (v_iv (n_v vs 8)) (w_fi ws (n_v vs 0) 31) (w_ei ws (w_ar ws (n_v vs 0) 33)) (w_ei ws (w_ar ws (n_v vs 0) 34)) (w_fi ws (n_v vs 0) 32) (w_ei ws (w_ar ws (n_v vs 0) 35)) (w_ei ws (w_ar ws (n_v vs 0) 43)) (w_ei ws (w_ar ws (n_v vs 0) 44)) (w_ei ws (w_ar ws (n_v vs 0) 42)) (w_ei ws (w_ar ws (n_v vs 0) 50)) (w_ei ws (w_ar ws (n_v vs 0) 52)) k1 k4 k5 k6 k8 f0 f1 f10 kz_0_31 kz_0_32
  refine ⟨(fun _ h => (by cases h)), [], trivial, ?_, (fun _ h => (by cases h))⟩
  rw [List.append_nil]
  exact List.forall_mem_cons.mpr ⟨⟨show (20 : Nat) < 100 from by decide, nf0⟩, (fun _ h => (by cases h))⟩
set_option maxHeartbeats 4000000 in
theorem vc_Mo_wayOf_6_0 (x1 : Int) (x4 : Int) (x5 : Int) (x6 : Int) (x8 : Int) (x9 : Int) (ends_0 : Int → Int) (pn_0 : Int) (pt_0 : Int → Int) (ph_0 : Int → Int) (pm_0 : Int) (alive_0 : Int → Int) (drawnEdge_0 : Int → Int) (pieceOf_0 : Int → Int) (drawnNode_0 : Int → Int) (bestWay_0 : Int → Int) (k1 : 0 ≤ x1 ∧ x1 ≤ 79) (k4 : 0 ≤ x4 ∧ x4 ≤ 24) (k5 : 0 ≤ x5 ∧ x5 ≤ 30) (k6 : 0 ≤ x6 ∧ x6 ≤ 24) (k8 : 0 ≤ x8 ∧ x8 ≤ 0) (k9 : 1 ≤ x9 ∧ x9 ≤ 25) (f0 : x9 = x6 + 1) (f1 : x8 = 0) (f2 : ISE (ends_0) (x1) (x6) (x8)) (f12 : WB (pn_0) (pm_0) (pt_0) (ph_0) (alive_0) (drawnEdge_0) (pieceOf_0) (drawnNode_0) (ends_0) (bestWay_0) (x1) (x4) (x5) (x6)) (kz_0_31 : 0 ≤ pn_0 ∧ pn_0 ≤ 25) (kz_0_32 : 0 ≤ pm_0 ∧ pm_0 ≤ 80) : WB (pn_0) (pm_0) (pt_0) (ph_0) (alive_0) (drawnEdge_0) (pieceOf_0) (drawnNode_0) (ends_0) (bestWay_0) (x1) (x4) (x5) (x9) := by
  first
    | exact wb_skip2 ‹WB _ _ _ _ _ _ _ _ _ _ _ _ _ _› (by omega) ‹ISE _ _ _ _› (by omega)
def o_Mo_wayOf_6 : or_T := (27, 10, [(0, (2, 0, 0, [165])), (1, (0, 0, 79, [])), (2, (2, 0, 0, [165])), (3, (0, 0, 79, [])), (4, (0, 0, 24, [])), (5, (0, 0, 30, [])), (6, (0, 0, 24, [])), (7, (0, 1, 25, [])), (8, (0, 0, 0, [])), (9, (0, 1, 25, []))], [(6, [9, 6], [1]), (8, [8], [0]), (20, [2, 3, 6, 8], [60, 0, 1, 114, 50]), (7, [6, 4], [1]), (7, [6, 7], [2]), (9, [7, 2], [31]), (20, [2], [60, 2, 2, 75, 31, 32, 33, 34]), (20, [2], [60, 1, 2, 122, 32, 35, 43]), (20, [2, 3], [60, 2, 6, 135, 31, 32, 33, 34, 43, 44, 42, 50]), (20, [2, 3, 4], [60, 0, 1, 137, 50]), (20, [4, 2], [30, -1, 1, 0, 0, -1, 1, 31]), (20, [2, 3], [50, 1, 0, 49, 1, 3, 2, 0, 49, 1, 1]), (20, [2, 3, 4, 5, 6], [60, 2, 8, 138, 31, 32, 33, 34, 35, 43, 44, 42, 50, 52]), (24, [0, 2], []), (24, [1, 3], [])], [], [], [(20, [2, 3, 4, 5, 9], [60, 2, 8, 138, 31, 32, 33, 34, 35, 43, 44, 42, 50, 52])], [], [(9, 6, 1, 1), (9, 7, -4294967296, 0), (6, 7, -4294967296, -1), (1, 3, -4294967296, 0), (3, 1, -4294967296, 0)])
theorem oo_Mo_wayOf_6 {kA : Nat → ClassId} : or_ok PRD kA GG o_Mo_wayOf_6 := by
  refine or_mk fun A ta ws vs hD hth hl => ?_
  intro t0 r0 t1 k1 t2 r2 t3 k3 t4 k4 t5 k5 t6 k6 t7 k7 t8 k8 t9 k9 d0 d1 d2 d3 d4 f0 f1 f2 f3 f4 f5 f6 f7 f8 f9 f10 f11 f12 f13 f14
  replace f0 := shm_4 f0
  replace f1 := shm_192 f1
  replace f2 := shm_610 f2
  replace f12 := shm_1673 f12
  replace f13 := shm_5 f13
  replace f14 := shm_5 f14
  have q2 : n_v vs 2 = n_v vs 0 := f13.symm
  have q3 : n_v vs 3 = n_v vs 1 := f14.symm
  simp only [q2, q3] at f2 f12
  have kz_0_31 := fdq_145 hD hth r0
  have kz_0_32 := fdq_140 hD hth r0
  have nf0 : fc_1 PRD (20, [2, 3, 4, 5, 9], [60, 2, 8, 138, 31, 32, 33, 34, 35, 43, 44, 42, 50, 52]) ws (vs) := by
    refine ⟨nf_in hl rfl, sgq_1673 ?_⟩
    · show WB (w_fi ws (n_v vs 2) 31) (w_fi ws (n_v vs 2) 32) (w_ei ws (w_ar ws (n_v vs 2) 33)) (w_ei ws (w_ar ws (n_v vs 2) 34)) (w_ei ws (w_ar ws (n_v vs 2) 35)) (w_ei ws (w_ar ws (n_v vs 2) 43)) (w_ei ws (w_ar ws (n_v vs 2) 44)) (w_ei ws (w_ar ws (n_v vs 2) 42)) (w_ei ws (w_ar ws (n_v vs 2) 50)) (w_ei ws (w_ar ws (n_v vs 2) 52)) (v_iv (n_v vs 3)) (v_iv (n_v vs 4)) (v_iv (n_v vs 5)) (v_iv (n_v vs 9))
      simp only [q2, q3]
      exact vc_Mo_wayOf_6_0 (v_iv (n_v vs 1)) (v_iv (n_v vs 4)) (v_iv (n_v vs 5)) (v_iv (n_v vs 6)) (v_iv (n_v vs 8)) (v_iv (n_v vs 9)) (w_ei ws (w_ar ws (n_v vs 0) 50)) (w_fi ws (n_v vs 0) 31) (w_ei ws (w_ar ws (n_v vs 0) 33)) (w_ei ws (w_ar ws (n_v vs 0) 34)) (w_fi ws (n_v vs 0) 32) (w_ei ws (w_ar ws (n_v vs 0) 35)) (w_ei ws (w_ar ws (n_v vs 0) 43)) (w_ei ws (w_ar ws (n_v vs 0) 44)) (w_ei ws (w_ar ws (n_v vs 0) 42)) (w_ei ws (w_ar ws (n_v vs 0) 52)) k1 k4 k5 k6 k8 k9 f0 f1 f2 f12 kz_0_31 kz_0_32
  refine ⟨(fun _ h => (by cases h)), [], trivial, ?_, (fun _ h => (by cases h))⟩
  rw [List.append_nil]
  exact List.forall_mem_cons.mpr ⟨⟨show (20 : Nat) < 100 from by decide, nf0⟩, (fun _ h => (by cases h))⟩
set_option maxHeartbeats 4000000 in
theorem vc_Mo_wayOf_7_0 (x6 : Int) (x7 : Int) (pn_0 : Int) (k6 : 0 ≤ x6 ∧ x6 ≤ 24) (k7 : 1 ≤ x7 ∧ x7 ≤ 25) (d0 : x7 + (-4294967296) ≤ x6 ∧ x6 ≤ x7 + (-1)) (g4 : x7 = pn_0) (kz_0_31 : 0 ≤ pn_0 ∧ pn_0 ≤ 25) : 1 * x6 + ((-1) * pn_0 + 0) ≤ (-1) := by
  first | omega
def o_Mo_wayOf_7 : or_T := (60, 10, [(0, (2, 0, 0, [165])), (6, (0, 0, 24, [])), (7, (0, 1, 25, []))], [(9, [7, 2], [31]), (24, [0, 2], [])], [], [], [(20, [6, 2], [30, -1, 1, 0, 0, -1, 1, 31])], [], [(6, 7, -4294967296, -1)])
theorem oo_Mo_wayOf_7 {kA : Nat → ClassId} : or_ok PRD kA GG o_Mo_wayOf_7 := by
  refine or_mk fun A ta ws vs hD hth hl => ?_
  intro t0 r0 t6 k6 t7 k7 d0 f4 f12
  replace f4 := shm_577 f4
  replace f12 := shm_5 f12
  have q2 : n_v vs 2 = n_v vs 0 := f12.symm
  simp only [q2] at f4
  have g4 : v_iv (n_v vs 7) = w_fi ws (n_v vs 0) 31 := congrArg v_iv f4
  have kz_0_31 := fdq_145 hD hth r0
  have nf0 : fc_1 PRD (20, [6, 2], [30, -1, 1, 0, 0, -1, 1, 31]) ws (vs) := by
    refine ⟨nf_in hl rfl, sgq_553 ?_⟩
    · show 1 * v_iv (n_v vs 6) + ((-1) * w_fi ws (n_v vs 2) 31 + 0) ≤ (-1)
      rw [q2]
      exact vc_Mo_wayOf_7_0 (v_iv (n_v vs 6)) (v_iv (n_v vs 7)) (w_fi ws (n_v vs 0) 31) k6 k7 d0 g4 kz_0_31
  refine ⟨(fun _ h => (by cases h)), [], trivial, ?_, (fun _ h => (by cases h))⟩
  rw [List.append_nil]
  exact List.forall_mem_cons.mpr ⟨⟨show (20 : Nat) < 100 from by decide, nf0⟩, (fun _ h => (by cases h))⟩
set_option maxHeartbeats 4000000 in
theorem vc_Mo_wayOf_8_0 (x1 : Int) (x4 : Int) (x6 : Int) (x8 : Int) (x9 : Int) (x10 : Int) (x12 : Int) (wayMany_0 : Int) (pn_0 : Int) (ends_0 : Int → Int) (pt_0 : Int → Int) (ph_0 : Int → Int) (pm_0 : Int) (alive_0 : Int → Int) (drawnEdge_0 : Int → Int) (pieceOf_0 : Int → Int) (drawnNode_0 : Int → Int) (onlyPiece_0 : Int) (bestWay_0 : Int → Int) (way_0 : Int → Int) (k1 : 0 ≤ x1 ∧ x1 ≤ 79) (k4 : 0 ≤ x4 ∧ x4 ≤ 24) (k6 : 0 ≤ x6 ∧ x6 ≤ 24) (k8 : 1 ≤ x8 ∧ x8 ≤ 1) (k9 : 1 ≤ x9 ∧ x9 ≤ 1) (k10 : 1 ≤ x10 ∧ x10 ≤ 30) (k12 : 0 ≤ x12 ∧ x12 ≤ 0) (g0 : x10 = wayMany_0) (f4 : 1 * x6 + ((-1) * pn_0 + 0) ≤ (-1)) (f5 : ISE (ends_0) (x1) (x6) (x8)) (f8 : WPR (pn_0) (pm_0) (pt_0) (ph_0) (drawnEdge_0) (pieceOf_0) (drawnNode_0) (ends_0) (x1)) (f9 : WE (ends_0) (x1) (x4)) (f10 : 1 * x4 + ((-1) * pn_0 + 0) ≤ (-1)) (f11 : onlyPiece_0 = x1) (f15 : SHP (pn_0) (pm_0) (onlyPiece_0) (wayMany_0) (pt_0) (ph_0) (alive_0) (drawnEdge_0) (pieceOf_0) (drawnNode_0) (way_0) (x4) (x6) (x9)) (f17 : x8 ≠ 0) (f18 : x6 ≠ x4) (kz_0_31 : 0 ≤ pn_0 ∧ pn_0 ≤ 25) (kz_0_32 : 0 ≤ pm_0 ∧ pm_0 ≤ 80) (kz_0_45 : 0 ≤ wayMany_0 ∧ wayMany_0 ≤ 30) (kz_0_49 : (-1) ≤ onlyPiece_0 ∧ onlyPiece_0 ≤ 79) : WC (pn_0) (pm_0) (wayMany_0) (pt_0) (ph_0) (alive_0) (drawnEdge_0) (pieceOf_0) (drawnNode_0) (ends_0) (way_0) (bestWay_0) (x1) (x4) (x6) (x10) (x12) := by
  first
    | exact wc_0 ‹WC0 _ _ _ _ _ _ _ _ _ _ _ _ _ _ _› (by omega) (by omega)
    | exact wc_0 (wc_shp (best := wayMany_0) ‹WPR _ _ _ _ _ _ _ _ _› ‹WE _ _ _› ‹ISE _ _ _ _› ‹SHP _ _ _ _ _ _ _ _ _ _ _ _ _ _› (by omega) (by omega) (by omega) (by omega) (by omega) (by omega) (by omega) (by omega) rfl) (by omega) (by omega)
def o_Mo_wayOf_8 : or_T := (178, 13, [(0, (2, 0, 0, [165])), (1, (0, 0, 79, [])), (2, (2, 0, 0, [165])), (3, (0, 0, 79, [])), (4, (0, 0, 24, [])), (5, (0, 0, 0, [])), (6, (0, 0, 24, [])), (7, (0, 1, 25, [])), (8, (0, 1, 1, [])), (9, (0, 1, 1, [])), (10, (0, 1, 30, [])), (12, (0, 0, 0, []))], [(9, [10, 2], [45]), (7, [5, 10], [1]), (8, [5], [0]), (8, [10], [1]), (20, [6, 2], [30, -1, 1, 0, 0, -1, 1, 31]), (20, [2, 3, 6, 8], [60, 0, 1, 114, 50]), (20, [2], [60, 2, 2, 75, 31, 32, 33, 34]), (20, [2], [60, 1, 2, 122, 32, 35, 43]), (20, [2, 3], [60, 2, 6, 135, 31, 32, 33, 34, 43, 44, 42, 50]), (20, [2, 3, 4], [60, 0, 1, 137, 50]), (20, [4, 2], [30, -1, 1, 0, 0, -1, 1, 31]), (20, [2, 3], [50, 1, 0, 49, 1, 3, 2, 0, 49, 1, 1]), (20, [2, 3, 4, 5, 6], [60, 2, 8, 138, 31, 32, 33, 34, 35, 43, 44, 42, 50, 52]), (24, [0, 2], []), (24, [1, 3], []), (20, [2, 4, 6, 9], [60, 4, 7, 130, 31, 32, 49, 45, 33, 34, 35, 43, 44, 42, 46]), (102, [9], [9415652603080021145753684134811499624153533166696051769344, 165045]), (8, [8], [1]), (7, [6, 4], [1]), (7, [6, 7], [2])], [], [], [(20, [2, 3, 4, 6, 10, 12], [60, 3, 9, 139, 31, 32, 45, 33, 34, 35, 43, 44, 42, 50, 46, 52])], [], [(6, 7, -4294967296, -1), (1, 3, -4294967296, 0), (3, 1, -4294967296, 0)])
theorem oo_Mo_wayOf_8 {kA : Nat → ClassId} : or_ok PRD kA GG o_Mo_wayOf_8 := by
  refine or_mk fun A ta ws vs hD hth hl => ?_
  intro t0 r0 t1 k1 t2 r2 t3 k3 t4 k4 t5 k5 t6 k6 t7 k7 t8 k8 t9 k9 t10 k10 t12 k12 d0 d1 d2 f0 f1 f2 f3 f4 f5 f6 f7 f8 f9 f10 f11 f12 f13 f14 f15 ta1 w1 le1 s1 f17 f18 f19
  replace f0 := shm_741 f0
  replace f4 := shm_553 f4
  replace f5 := shm_610 f5
  replace f8 := shm_1669 f8
  replace f9 := shm_1671 f9
  replace f10 := shm_553 f10
  replace f11 := shm_1672 f11
  replace f13 := shm_5 f13
  replace f14 := shm_5 f14
  replace f15 := shm_1463 f15
  replace f17 := shm_142 f17
  replace f18 := shm_40 f18
  have q2 : n_v vs 2 = n_v vs 0 := f13.symm
  have q3 : n_v vs 3 = n_v vs 1 := f14.symm
  simp only [q2, q3] at f0 f4 f5 f8 f9 f10 f11 f15
  have g0 : v_iv (n_v vs 10) = w_fi ws (n_v vs 0) 45 := congrArg v_iv f0
  have kz_0_31 := fdq_145 hD hth r0
  have kz_0_32 := fdq_140 hD hth r0
  have kz_0_45 := fdq_191 hD hth r0
  have kz_0_49 := fdq_146 hD hth r0
  have nf0 : fc_1 PRD (20, [2, 3, 4, 6, 10, 12], [60, 3, 9, 139, 31, 32, 45, 33, 34, 35, 43, 44, 42, 50, 46, 52]) ws (vs) := by
    refine ⟨nf_in hl rfl, sgq_1677 ?_⟩
    · show WC (w_fi ws (n_v vs 2) 31) (w_fi ws (n_v vs 2) 32) (w_fi ws (n_v vs 2) 45) (w_ei ws (w_ar ws (n_v vs 2) 33)) (w_ei ws (w_ar ws (n_v vs 2) 34)) (w_ei ws (w_ar ws (n_v vs 2) 35)) (w_ei ws (w_ar ws (n_v vs 2) 43)) (w_ei ws (w_ar ws (n_v vs 2) 44)) (w_ei ws (w_ar ws (n_v vs 2) 42)) (w_ei ws (w_ar ws (n_v vs 2) 50)) (w_ei ws (w_ar ws (n_v vs 2) 46)) (w_ei ws (w_ar ws (n_v vs 2) 52)) (v_iv (n_v vs 3)) (v_iv (n_v vs 4)) (v_iv (n_v vs 6)) (v_iv (n_v vs 10)) (v_iv (n_v vs 12))
      simp only [q2, q3]
      exact vc_Mo_wayOf_8_0 (v_iv (n_v vs 1)) (v_iv (n_v vs 4)) (v_iv (n_v vs 6)) (v_iv (n_v vs 8)) (v_iv (n_v vs 9)) (v_iv (n_v vs 10)) (v_iv (n_v vs 12)) (w_fi ws (n_v vs 0) 45) (w_fi ws (n_v vs 0) 31) (w_ei ws (w_ar ws (n_v vs 0) 50)) (w_ei ws (w_ar ws (n_v vs 0) 33)) (w_ei ws (w_ar ws (n_v vs 0) 34)) (w_fi ws (n_v vs 0) 32) (w_ei ws (w_ar ws (n_v vs 0) 35)) (w_ei ws (w_ar ws (n_v vs 0) 43)) (w_ei ws (w_ar ws (n_v vs 0) 44)) (w_ei ws (w_ar ws (n_v vs 0) 42)) (w_fi ws (n_v vs 0) 49) (w_ei ws (w_ar ws (n_v vs 0) 52)) (w_ei ws (w_ar ws (n_v vs 0) 46)) k1 k4 k6 k8 k9 k10 k12 g0 f4 f5 f8 f9 f10 f11 f15 f17 f18 kz_0_31 kz_0_32 kz_0_45 kz_0_49
  refine ⟨(fun _ h => (by cases h)), [], trivial, ?_, (fun _ h => (by cases h))⟩
  rw [List.append_nil]
  exact List.forall_mem_cons.mpr ⟨⟨show (20 : Nat) < 100 from by decide, nf0⟩, (fun _ h => (by cases h))⟩
set_option maxHeartbeats 4000000 in
theorem vc_Mo_wayOf_9_0 (x1 : Int) (x4 : Int) (x5 : Int) (x6 : Int) (x12 : Int) (wayMany_0 : Int) (pn_0 : Int) (ends_0 : Int → Int) (pt_0 : Int → Int) (ph_0 : Int → Int) (pm_0 : Int) (alive_0 : Int → Int) (drawnEdge_0 : Int → Int) (pieceOf_0 : Int → Int) (drawnNode_0 : Int → Int) (bestWay_0 : Int → Int) (k1 : 0 ≤ x1 ∧ x1 ≤ 79) (k4 : 0 ≤ x4 ∧ x4 ≤ 24) (k5 : 1 ≤ x5 ∧ x5 ≤ 30) (k6 : 0 ≤ x6 ∧ x6 ≤ 24) (k12 : 1 ≤ x12 ∧ x12 ≤ 25) (f4 : x5 ≠ 0) (f14 : WB (pn_0) (pm_0) (pt_0) (ph_0) (alive_0) (drawnEdge_0) (pieceOf_0) (drawnNode_0) (ends_0) (bestWay_0) (x1) (x4) (x5) (x6)) (kz_0_31 : 0 ≤ pn_0 ∧ pn_0 ≤ 25) (kz_0_32 : 0 ≤ pm_0 ∧ pm_0 ≤ 80) : WB (pn_0) (pm_0) (pt_0) (ph_0) (alive_0) (drawnEdge_0) (pieceOf_0) (drawnNode_0) (ends_0) (bestWay_0) (x1) (x4) (x5) (x12) := by
  first
    | exact wb_any ‹WB _ _ _ _ _ _ _ _ _ _ _ _ _ _› (by omega)
def o_Mo_wayOf_9 : or_T := (27, 13, [(0, (2, 0, 0, [165])), (1, (0, 0, 79, [])), (4, (0, 0, 24, [])), (5, (0, 1, 30, [])), (6, (0, 0, 24, [])), (12, (0, 1, 25, []))], [(8, [5], [1]), (20, [2, 3, 4, 5, 6], [60, 2, 8, 138, 31, 32, 33, 34, 35, 43, 44, 42, 50, 52]), (24, [0, 2], []), (24, [1, 3], [])], [], [], [(20, [2, 3, 4, 5, 12], [60, 2, 8, 138, 31, 32, 33, 34, 35, 43, 44, 42, 50, 52])], [], [])
theorem oo_Mo_wayOf_9 {kA : Nat → ClassId} : or_ok PRD kA GG o_Mo_wayOf_9 := by
  refine or_mk fun A ta ws vs hD hth hl => ?_
  intro t0 r0 t1 k1 t4 k4 t5 k5 t6 k6 t12 k12 f4 f14 f15 f16
  replace f4 := shm_142 f4
  replace f14 := shm_1673 f14
  replace f15 := shm_5 f15
  replace f16 := shm_5 f16
  have q2 : n_v vs 2 = n_v vs 0 := f15.symm
  have q3 : n_v vs 3 = n_v vs 1 := f16.symm
  simp only [q2, q3] at f14
  have kz_0_31 := fdq_145 hD hth r0
  have kz_0_32 := fdq_140 hD hth r0
  have nf0 : fc_1 PRD (20, [2, 3, 4, 5, 12], [60, 2, 8, 138, 31, 32, 33, 34, 35, 43, 44, 42, 50, 52]) ws (vs) := by
    refine ⟨nf_in hl rfl, sgq_1673 ?_⟩
    · show WB (w_fi ws (n_v vs 2) 31) (w_fi ws (n_v vs 2) 32) (w_ei ws (w_ar ws (n_v vs 2) 33)) (w_ei ws (w_ar ws (n_v vs 2) 34)) (w_ei ws (w_ar ws (n_v vs 2) 35)) (w_ei ws (w_ar ws (n_v vs 2) 43)) (w_ei ws (w_ar ws (n_v vs 2) 44)) (w_ei ws (w_ar ws (n_v vs 2) 42)) (w_ei ws (w_ar ws (n_v vs 2) 50)) (w_ei ws (w_ar ws (n_v vs 2) 52)) (v_iv (n_v vs 3)) (v_iv (n_v vs 4)) (v_iv (n_v vs 5)) (v_iv (n_v vs 12))
      simp only [q2, q3]
      exact vc_Mo_wayOf_9_0 (v_iv (n_v vs 1)) (v_iv (n_v vs 4)) (v_iv (n_v vs 5)) (v_iv (n_v vs 6)) (v_iv (n_v vs 12)) (w_fi ws (n_v vs 0) 45) (w_fi ws (n_v vs 0) 31) (w_ei ws (w_ar ws (n_v vs 0) 50)) (w_ei ws (w_ar ws (n_v vs 0) 33)) (w_ei ws (w_ar ws (n_v vs 0) 34)) (w_fi ws (n_v vs 0) 32) (w_ei ws (w_ar ws (n_v vs 0) 35)) (w_ei ws (w_ar ws (n_v vs 0) 43)) (w_ei ws (w_ar ws (n_v vs 0) 44)) (w_ei ws (w_ar ws (n_v vs 0) 42)) (w_ei ws (w_ar ws (n_v vs 0) 52)) k1 k4 k5 k6 k12 f4 f14 kz_0_31 kz_0_32
  refine ⟨(fun _ h => (by cases h)), [], trivial, ?_, (fun _ h => (by cases h))⟩
  rw [List.append_nil]
  exact List.forall_mem_cons.mpr ⟨⟨show (20 : Nat) < 100 from by decide, nf0⟩, (fun _ h => (by cases h))⟩
set_option maxHeartbeats 4000000 in
theorem vc_Mo_wayOf_10_0 (x1 : Int) (x4 : Int) (x5 : Int) (x6 : Int) (x8 : Int) (x9 : Int) (x10 : Int) (wayMany_0 : Int) (pn_0 : Int) (ends_0 : Int → Int) (pt_0 : Int → Int) (ph_0 : Int → Int) (pm_0 : Int) (alive_0 : Int → Int) (drawnEdge_0 : Int → Int) (pieceOf_0 : Int → Int) (drawnNode_0 : Int → Int) (onlyPiece_0 : Int) (way_0 : Int → Int) (k1 : 0 ≤ x1 ∧ x1 ≤ 79) (k4 : 0 ≤ x4 ∧ x4 ≤ 24) (k5 : 1 ≤ x5 ∧ x5 ≤ 30) (k6 : 0 ≤ x6 ∧ x6 ≤ 24) (k8 : 1 ≤ x8 ∧ x8 ≤ 1) (k9 : 1 ≤ x9 ∧ x9 ≤ 1) (k10 : 1 ≤ x10 ∧ x10 ≤ 30) (d0 : x10 + 0 ≤ x5 ∧ x5 ≤ x10 + 0) (g1 : x10 = wayMany_0) (f5 : 1 * x6 + ((-1) * pn_0 + 0) ≤ (-1)) (f6 : ISE (ends_0) (x1) (x6) (x8)) (f9 : WPR (pn_0) (pm_0) (pt_0) (ph_0) (drawnEdge_0) (pieceOf_0) (drawnNode_0) (ends_0) (x1)) (f10 : WE (ends_0) (x1) (x4)) (f11 : 1 * x4 + ((-1) * pn_0 + 0) ≤ (-1)) (f12 : onlyPiece_0 = x1) (f16 : SHP (pn_0) (pm_0) (onlyPiece_0) (wayMany_0) (pt_0) (ph_0) (alive_0) (drawnEdge_0) (pieceOf_0) (drawnNode_0) (way_0) (x4) (x6) (x9)) (f18 : x8 ≠ 0) (f19 : x6 ≠ x4) (kz_0_31 : 0 ≤ pn_0 ∧ pn_0 ≤ 25) (kz_0_32 : 0 ≤ pm_0 ∧ pm_0 ≤ 80) (kz_0_45 : 0 ≤ wayMany_0 ∧ wayMany_0 ≤ 30) (kz_0_49 : (-1) ≤ onlyPiece_0 ∧ onlyPiece_0 ≤ 79) : WC0 (pn_0) (pm_0) (wayMany_0) (pt_0) (ph_0) (alive_0) (drawnEdge_0) (pieceOf_0) (drawnNode_0) (ends_0) (way_0) (x1) (x4) (x6) (x5) := by
  exact wc_shp ‹WPR _ _ _ _ _ _ _ _ _› ‹WE _ _ _› ‹ISE _ _ _ _› ‹SHP _ _ _ _ _ _ _ _ _ _ _ _ _ _› (by omega) (by omega) (by omega) (by omega) (by omega) (by omega) (by omega) (by omega) (by omega)
def o_Mo_wayOf_10 : or_T := (103, 13, [(0, (2, 0, 0, [165])), (1, (0, 0, 79, [])), (2, (2, 0, 0, [165])), (3, (0, 0, 79, [])), (4, (0, 0, 24, [])), (5, (0, 1, 30, [])), (6, (0, 0, 24, [])), (7, (0, 1, 25, [])), (8, (0, 1, 1, [])), (9, (0, 1, 1, [])), (10, (0, 1, 30, []))], [(7, [5, 10], [0]), (9, [10, 2], [45]), (7, [10, 5], [3]), (8, [5], [1]), (8, [10], [1]), (20, [6, 2], [30, -1, 1, 0, 0, -1, 1, 31]), (20, [2, 3, 6, 8], [60, 0, 1, 114, 50]), (20, [2], [60, 2, 2, 75, 31, 32, 33, 34]), (20, [2], [60, 1, 2, 122, 32, 35, 43]), (20, [2, 3], [60, 2, 6, 135, 31, 32, 33, 34, 43, 44, 42, 50]), (20, [2, 3, 4], [60, 0, 1, 137, 50]), (20, [4, 2], [30, -1, 1, 0, 0, -1, 1, 31]), (20, [2, 3], [50, 1, 0, 49, 1, 3, 2, 0, 49, 1, 1]), (20, [2, 3, 4, 5, 6], [60, 2, 8, 138, 31, 32, 33, 34, 35, 43, 44, 42, 50, 52]), (24, [0, 2], []), (24, [1, 3], []), (20, [2, 4, 6, 9], [60, 4, 7, 130, 31, 32, 49, 45, 33, 34, 35, 43, 44, 42, 46]), (102, [9], [9415652603080021145753684134811499624153533166696051769344, 165045]), (8, [8], [1]), (7, [6, 4], [1]), (7, [6, 7], [2])], [], [], [(20, [2, 3, 4, 6, 5], [60, 3, 8, 140, 31, 32, 45, 33, 34, 35, 43, 44, 42, 50, 46])], [], [(5, 10, 0, 0), (10, 5, 0, 4294967296), (6, 7, -4294967296, -1), (1, 3, -4294967296, 0), (3, 1, -4294967296, 0)])
theorem oo_Mo_wayOf_10 {kA : Nat → ClassId} : or_ok PRD kA GG o_Mo_wayOf_10 := by
  refine or_mk fun A ta ws vs hD hth hl => ?_
  intro t0 r0 t1 k1 t2 r2 t3 k3 t4 k4 t5 k5 t6 k6 t7 k7 t8 k8 t9 k9 t10 k10 d0 d1 d2 d3 d4 f0 f1 f2 f3 f4 f5 f6 f7 f8 f9 f10 f11 f12 f13 f14 f15 f16 ta1 w1 le1 s1 f18 f19 f20
  replace f1 := shm_741 f1
  replace f5 := shm_553 f5
  replace f6 := shm_610 f6
  replace f9 := shm_1669 f9
  replace f10 := shm_1671 f10
  replace f11 := shm_553 f11
  replace f12 := shm_1672 f12
  replace f14 := shm_5 f14
  replace f15 := shm_5 f15
  replace f16 := shm_1463 f16
  replace f18 := shm_142 f18
  replace f19 := shm_40 f19
  have q2 : n_v vs 2 = n_v vs 0 := f14.symm
  have q3 : n_v vs 3 = n_v vs 1 := f15.symm
  simp only [q2, q3] at f1 f5 f6 f9 f10 f11 f12 f16
  have g1 : v_iv (n_v vs 10) = w_fi ws (n_v vs 0) 45 := congrArg v_iv f1
  have kz_0_31 := fdq_145 hD hth r0
  have kz_0_32 := fdq_140 hD hth r0
  have kz_0_45 := fdq_191 hD hth r0
  have kz_0_49 := fdq_146 hD hth r0
  have nf0 : fc_1 PRD (20, [2, 3, 4, 6, 5], [60, 3, 8, 140, 31, 32, 45, 33, 34, 35, 43, 44, 42, 50, 46]) ws (vs) := by
    refine ⟨nf_in hl rfl, sgq_1678 ?_⟩
    · show WC0 (w_fi ws (n_v vs 2) 31) (w_fi ws (n_v vs 2) 32) (w_fi ws (n_v vs 2) 45) (w_ei ws (w_ar ws (n_v vs 2) 33)) (w_ei ws (w_ar ws (n_v vs 2) 34)) (w_ei ws (w_ar ws (n_v vs 2) 35)) (w_ei ws (w_ar ws (n_v vs 2) 43)) (w_ei ws (w_ar ws (n_v vs 2) 44)) (w_ei ws (w_ar ws (n_v vs 2) 42)) (w_ei ws (w_ar ws (n_v vs 2) 50)) (w_ei ws (w_ar ws (n_v vs 2) 46)) (v_iv (n_v vs 3)) (v_iv (n_v vs 4)) (v_iv (n_v vs 6)) (v_iv (n_v vs 5))
      simp only [q2, q3]
      exact vc_Mo_wayOf_10_0 (v_iv (n_v vs 1)) (v_iv (n_v vs 4)) (v_iv (n_v vs 5)) (v_iv (n_v vs 6)) (v_iv (n_v vs 8)) (v_iv (n_v vs 9)) (v_iv (n_v vs 10)) (w_fi ws (n_v vs 0) 45) (w_fi ws (n_v vs 0) 31) (w_ei ws (w_ar ws (n_v vs 0) 50)) (w_ei ws (w_ar ws (n_v vs 0) 33)) (w_ei ws (w_ar ws (n_v vs 0) 34)) (w_fi ws (n_v vs 0) 32) (w_ei ws (w_ar ws (n_v vs 0) 35)) (w_ei ws (w_ar ws (n_v vs 0) 43)) (w_ei ws (w_ar ws (n_v vs 0) 44)) (w_ei ws (w_ar ws (n_v vs 0) 42)) (w_fi ws (n_v vs 0) 49) (w_ei ws (w_ar ws (n_v vs 0) 46)) k1 k4 k5 k6 k8 k9 k10 d0 g1 f5 f6 f9 f10 f11 f12 f16 f18 f19 kz_0_31 kz_0_32 kz_0_45 kz_0_49
  refine ⟨(fun _ h => (by cases h)), [], trivial, ?_, (fun _ h => (by cases h))⟩
  rw [List.append_nil]
  exact List.forall_mem_cons.mpr ⟨⟨show (20 : Nat) < 100 from by decide, nf0⟩, (fun _ h => (by cases h))⟩
set_option maxHeartbeats 4000000 in
theorem vc_Mo_wayOf_11_0 (x1 : Int) (x4 : Int) (x6 : Int) (x8 : Int) (x9 : Int) (x10 : Int) (x12 : Int) (wayMany_0 : Int) (pn_0 : Int) (ends_0 : Int → Int) (pt_0 : Int → Int) (ph_0 : Int → Int) (pm_0 : Int) (alive_0 : Int → Int) (drawnEdge_0 : Int → Int) (pieceOf_0 : Int → Int) (drawnNode_0 : Int → Int) (onlyPiece_0 : Int) (bestWay_0 : Int → Int) (way_0 : Int → Int) (k1 : 0 ≤ x1 ∧ x1 ≤ 79) (k4 : 0 ≤ x4 ∧ x4 ≤ 24) (k6 : 0 ≤ x6 ∧ x6 ≤ 24) (k8 : 1 ≤ x8 ∧ x8 ≤ 1) (k9 : 1 ≤ x9 ∧ x9 ≤ 1) (k10 : 1 ≤ x10 ∧ x10 ≤ 29) (k12 : 0 ≤ x12 ∧ x12 ≤ 0) (g0 : x10 = wayMany_0) (f5 : 1 * x6 + ((-1) * pn_0 + 0) ≤ (-1)) (f6 : ISE (ends_0) (x1) (x6) (x8)) (f9 : WPR (pn_0) (pm_0) (pt_0) (ph_0) (drawnEdge_0) (pieceOf_0) (drawnNode_0) (ends_0) (x1)) (f10 : WE (ends_0) (x1) (x4)) (f11 : 1 * x4 + ((-1) * pn_0 + 0) ≤ (-1)) (f12 : onlyPiece_0 = x1) (f16 : SHP (pn_0) (pm_0) (onlyPiece_0) (wayMany_0) (pt_0) (ph_0) (alive_0) (drawnEdge_0) (pieceOf_0) (drawnNode_0) (way_0) (x4) (x6) (x9)) (f18 : x8 ≠ 0) (f19 : x6 ≠ x4) (kz_0_31 : 0 ≤ pn_0 ∧ pn_0 ≤ 25) (kz_0_32 : 0 ≤ pm_0 ∧ pm_0 ≤ 80) (kz_0_45 : 0 ≤ wayMany_0 ∧ wayMany_0 ≤ 30) (kz_0_49 : (-1) ≤ onlyPiece_0 ∧ onlyPiece_0 ≤ 79) : WC (pn_0) (pm_0) (wayMany_0) (pt_0) (ph_0) (alive_0) (drawnEdge_0) (pieceOf_0) (drawnNode_0) (ends_0) (way_0) (bestWay_0) (x1) (x4) (x6) (x10) (x12) := by
  first
    | exact wc_0 ‹WC0 _ _ _ _ _ _ _ _ _ _ _ _ _ _ _› (by omega) (by omega)
    | exact wc_0 (wc_shp (best := wayMany_0) ‹WPR _ _ _ _ _ _ _ _ _› ‹WE _ _ _› ‹ISE _ _ _ _› ‹SHP _ _ _ _ _ _ _ _ _ _ _ _ _ _› (by omega) (by omega) (by omega) (by omega) (by omega) (by omega) (by omega) (by omega) rfl) (by omega) (by omega)
def o_Mo_wayOf_11 : or_T := (178, 13, [(0, (2, 0, 0, [165])), (1, (0, 0, 79, [])), (2, (2, 0, 0, [165])), (3, (0, 0, 79, [])), (4, (0, 0, 24, [])), (5, (0, 2, 30, [])), (6, (0, 0, 24, [])), (7, (0, 1, 25, [])), (8, (0, 1, 1, [])), (9, (0, 1, 1, [])), (10, (0, 1, 29, [])), (12, (0, 0, 0, []))], [(9, [10, 2], [45]), (7, [5, 10], [1]), (7, [10, 5], [2]), (8, [5], [1]), (8, [10], [1]), (20, [6, 2], [30, -1, 1, 0, 0, -1, 1, 31]), (20, [2, 3, 6, 8], [60, 0, 1, 114, 50]), (20, [2], [60, 2, 2, 75, 31, 32, 33, 34]), (20, [2], [60, 1, 2, 122, 32, 35, 43]), (20, [2, 3], [60, 2, 6, 135, 31, 32, 33, 34, 43, 44, 42, 50]), (20, [2, 3, 4], [60, 0, 1, 137, 50]), (20, [4, 2], [30, -1, 1, 0, 0, -1, 1, 31]), (20, [2, 3], [50, 1, 0, 49, 1, 3, 2, 0, 49, 1, 1]), (20, [2, 3, 4, 5, 6], [60, 2, 8, 138, 31, 32, 33, 34, 35, 43, 44, 42, 50, 52]), (24, [0, 2], []), (24, [1, 3], []), (20, [2, 4, 6, 9], [60, 4, 7, 130, 31, 32, 49, 45, 33, 34, 35, 43, 44, 42, 46]), (102, [9], [9415652603080021145753684134811499624153533166696051769344, 165045]), (8, [8], [1]), (7, [6, 4], [1]), (7, [6, 7], [2])], [], [], [(20, [2, 3, 4, 6, 10, 12], [60, 3, 9, 139, 31, 32, 45, 33, 34, 35, 43, 44, 42, 50, 46, 52])], [], [(10, 5, -4294967296, -1), (6, 7, -4294967296, -1), (1, 3, -4294967296, 0), (3, 1, -4294967296, 0)])
theorem oo_Mo_wayOf_11 {kA : Nat → ClassId} : or_ok PRD kA GG o_Mo_wayOf_11 := by
  refine or_mk fun A ta ws vs hD hth hl => ?_
  intro t0 r0 t1 k1 t2 r2 t3 k3 t4 k4 t5 k5 t6 k6 t7 k7 t8 k8 t9 k9 t10 k10 t12 k12 d0 d1 d2 d3 f0 f1 f2 f3 f4 f5 f6 f7 f8 f9 f10 f11 f12 f13 f14 f15 f16 ta1 w1 le1 s1 f18 f19 f20
  replace f0 := shm_741 f0
  replace f5 := shm_553 f5
  replace f6 := shm_610 f6
  replace f9 := shm_1669 f9
  replace f10 := shm_1671 f10
  replace f11 := shm_553 f11
  replace f12 := shm_1672 f12
  replace f14 := shm_5 f14
  replace f15 := shm_5 f15
  replace f16 := shm_1463 f16
  replace f18 := shm_142 f18
  replace f19 := shm_40 f19
  have q2 : n_v vs 2 = n_v vs 0 := f14.symm
  have q3 : n_v vs 3 = n_v vs 1 := f15.symm
  simp only [q2, q3] at f0 f5 f6 f9 f10 f11 f12 f16
  have g0 : v_iv (n_v vs 10) = w_fi ws (n_v vs 0) 45 := congrArg v_iv f0
  have kz_0_31 := fdq_145 hD hth r0
  have kz_0_32 := fdq_140 hD hth r0
  have kz_0_45 := fdq_191 hD hth r0
  have kz_0_49 := fdq_146 hD hth r0
  have nf0 : fc_1 PRD (20, [2, 3, 4, 6, 10, 12], [60, 3, 9, 139, 31, 32, 45, 33, 34, 35, 43, 44, 42, 50, 46, 52]) ws (vs) := by
    refine ⟨nf_in hl rfl, sgq_1677 ?_⟩
    · show WC (w_fi ws (n_v vs 2) 31) (w_fi ws (n_v vs 2) 32) (w_fi ws (n_v vs 2) 45) (w_ei ws (w_ar ws (n_v vs 2) 33)) (w_ei ws (w_ar ws (n_v vs 2) 34)) (w_ei ws (w_ar ws (n_v vs 2) 35)) (w_ei ws (w_ar ws (n_v vs 2) 43)) (w_ei ws (w_ar ws (n_v vs 2) 44)) (w_ei ws (w_ar ws (n_v vs 2) 42)) (w_ei ws (w_ar ws (n_v vs 2) 50)) (w_ei ws (w_ar ws (n_v vs 2) 46)) (w_ei ws (w_ar ws (n_v vs 2) 52)) (v_iv (n_v vs 3)) (v_iv (n_v vs 4)) (v_iv (n_v vs 6)) (v_iv (n_v vs 10)) (v_iv (n_v vs 12))
      simp only [q2, q3]
      exact vc_Mo_wayOf_11_0 (v_iv (n_v vs 1)) (v_iv (n_v vs 4)) (v_iv (n_v vs 6)) (v_iv (n_v vs 8)) (v_iv (n_v vs 9)) (v_iv (n_v vs 10)) (v_iv (n_v vs 12)) (w_fi ws (n_v vs 0) 45) (w_fi ws (n_v vs 0) 31) (w_ei ws (w_ar ws (n_v vs 0) 50)) (w_ei ws (w_ar ws (n_v vs 0) 33)) (w_ei ws (w_ar ws (n_v vs 0) 34)) (w_fi ws (n_v vs 0) 32) (w_ei ws (w_ar ws (n_v vs 0) 35)) (w_ei ws (w_ar ws (n_v vs 0) 43)) (w_ei ws (w_ar ws (n_v vs 0) 44)) (w_ei ws (w_ar ws (n_v vs 0) 42)) (w_fi ws (n_v vs 0) 49) (w_ei ws (w_ar ws (n_v vs 0) 52)) (w_ei ws (w_ar ws (n_v vs 0) 46)) k1 k4 k6 k8 k9 k10 k12 g0 f5 f6 f9 f10 f11 f12 f16 f18 f19 kz_0_31 kz_0_32 kz_0_45 kz_0_49
  refine ⟨(fun _ h => (by cases h)), [], trivial, ?_, (fun _ h => (by cases h))⟩
  rw [List.append_nil]
  exact List.forall_mem_cons.mpr ⟨⟨show (20 : Nat) < 100 from by decide, nf0⟩, (fun _ h => (by cases h))⟩
set_option maxHeartbeats 4000000 in
theorem vc_Mo_wayOf_12_0 (x1 : Int) (x4 : Int) (x5 : Int) (x6 : Int) (x8 : Int) (x9 : Int) (x10 : Int) (wayMany_0 : Int) (pn_0 : Int) (ends_0 : Int → Int) (pt_0 : Int → Int) (ph_0 : Int → Int) (pm_0 : Int) (alive_0 : Int → Int) (drawnEdge_0 : Int → Int) (pieceOf_0 : Int → Int) (drawnNode_0 : Int → Int) (onlyPiece_0 : Int) (way_0 : Int → Int) (k1 : 0 ≤ x1 ∧ x1 ≤ 79) (k4 : 0 ≤ x4 ∧ x4 ≤ 24) (k5 : 3 ≤ x5 ∧ x5 ≤ 29) (k6 : 0 ≤ x6 ∧ x6 ≤ 24) (k8 : 1 ≤ x8 ∧ x8 ≤ 1) (k9 : 1 ≤ x9 ∧ x9 ≤ 1) (k10 : 2 ≤ x10 ∧ x10 ≤ 28) (d0 : x10 + 0 ≤ x5 ∧ x5 ≤ x10 + 0) (d1 : x5 + (-4294967296) ≤ x10 ∧ x10 ≤ x5 + (-1)) (f6 : ISE (ends_0) (x1) (x6) (x8)) (f9 : WPR (pn_0) (pm_0) (pt_0) (ph_0) (drawnEdge_0) (pieceOf_0) (drawnNode_0) (ends_0) (x1)) (f10 : WE (ends_0) (x1) (x4)) (f12 : onlyPiece_0 = x1) (f16 : SHP (pn_0) (pm_0) (onlyPiece_0) (wayMany_0) (pt_0) (ph_0) (alive_0) (drawnEdge_0) (pieceOf_0) (drawnNode_0) (way_0) (x4) (x6) (x9)) (f18 : x8 ≠ 0) (f19 : x6 ≠ x4) (kz_0_31 : 0 ≤ pn_0 ∧ pn_0 ≤ 25) (kz_0_32 : 0 ≤ pm_0 ∧ pm_0 ≤ 80) (kz_0_45 : 0 ≤ wayMany_0 ∧ wayMany_0 ≤ 30) (kz_0_49 : (-1) ≤ onlyPiece_0 ∧ onlyPiece_0 ≤ 79) : WC0 (pn_0) (pm_0) (wayMany_0) (pt_0) (ph_0) (alive_0) (drawnEdge_0) (pieceOf_0) (drawnNode_0) (ends_0) (way_0) (x1) (x4) (x6) (x5) := by
  exact wc_shp ‹WPR _ _ _ _ _ _ _ _ _› ‹WE _ _ _› ‹ISE _ _ _ _› ‹SHP _ _ _ _ _ _ _ _ _ _ _ _ _ _› (by omega) (by omega) (by omega) (by omega) (by omega) (by omega) (by omega) (by omega) (by omega)
def o_Mo_wayOf_12 : or_T := (103, 13, [(0, (2, 0, 0, [165])), (1, (0, 0, 79, [])), (2, (2, 0, 0, [165])), (3, (0, 0, 79, [])), (4, (0, 0, 24, [])), (5, (0, 3, 29, [])), (6, (0, 0, 24, [])), (7, (0, 1, 25, [])), (8, (0, 1, 1, [])), (9, (0, 1, 1, [])), (10, (0, 2, 28, []))], [(7, [5, 10], [0]), (9, [10, 2], [45]), (7, [10, 5], [2]), (8, [5], [1]), (8, [10], [1]), (20, [6, 2], [30, -1, 1, 0, 0, -1, 1, 31]), (20, [2, 3, 6, 8], [60, 0, 1, 114, 50]), (20, [2], [60, 2, 2, 75, 31, 32, 33, 34]), (20, [2], [60, 1, 2, 122, 32, 35, 43]), (20, [2, 3], [60, 2, 6, 135, 31, 32, 33, 34, 43, 44, 42, 50]), (20, [2, 3, 4], [60, 0, 1, 137, 50]), (20, [4, 2], [30, -1, 1, 0, 0, -1, 1, 31]), (20, [2, 3], [50, 1, 0, 49, 1, 3, 2, 0, 49, 1, 1]), (20, [2, 3, 4, 5, 6], [60, 2, 8, 138, 31, 32, 33, 34, 35, 43, 44, 42, 50, 52]), (24, [0, 2], []), (24, [1, 3], []), (20, [2, 4, 6, 9], [60, 4, 7, 130, 31, 32, 49, 45, 33, 34, 35, 43, 44, 42, 46]), (102, [9], [9415652603080021145753684134811499624153533166696051769344, 165045]), (8, [8], [1]), (7, [6, 4], [1]), (7, [6, 7], [2])], [], [], [(20, [2, 3, 4, 6, 5], [60, 3, 8, 140, 31, 32, 45, 33, 34, 35, 43, 44, 42, 50, 46])], [], [(5, 10, 0, 0), (10, 5, -4294967296, -1), (6, 7, -4294967296, -1), (1, 3, -4294967296, 0), (3, 1, -4294967296, 0)])
theorem oo_Mo_wayOf_12 {kA : Nat → ClassId} : or_ok PRD kA GG o_Mo_wayOf_12 := by
  refine or_mk fun A ta ws vs hD hth hl => ?_
  intro t0 r0 t1 k1 t2 r2 t3 k3 t4 k4 t5 k5 t6 k6 t7 k7 t8 k8 t9 k9 t10 k10 d0 d1 d2 d3 d4 f0 f1 f2 f3 f4 f5 f6 f7 f8 f9 f10 f11 f12 f13 f14 f15 f16 ta1 w1 le1 s1 f18 f19 f20
  replace f6 := shm_610 f6
  replace f9 := shm_1669 f9
  replace f10 := shm_1671 f10
  replace f12 := shm_1672 f12
  replace f14 := shm_5 f14
  replace f15 := shm_5 f15
  replace f16 := shm_1463 f16
  replace f18 := shm_142 f18
  replace f19 := shm_40 f19
  have q2 : n_v vs 2 = n_v vs 0 := f14.symm
  have q3 : n_v vs 3 = n_v vs 1 := f15.symm
  simp only [q2, q3] at f6 f9 f10 f12 f16
  have kz_0_31 := fdq_145 hD hth r0
  have kz_0_32 := fdq_140 hD hth r0
  have kz_0_45 := fdq_191 hD hth r0
  have kz_0_49 := fdq_146 hD hth r0
  have nf0 : fc_1 PRD (20, [2, 3, 4, 6, 5], [60, 3, 8, 140, 31, 32, 45, 33, 34, 35, 43, 44, 42, 50, 46]) ws (vs) := by
    refine ⟨nf_in hl rfl, sgq_1678 ?_⟩
    · show WC0 (w_fi ws (n_v vs 2) 31) (w_fi ws (n_v vs 2) 32) (w_fi ws (n_v vs 2) 45) (w_ei ws (w_ar ws (n_v vs 2) 33)) (w_ei ws (w_ar ws (n_v vs 2) 34)) (w_ei ws (w_ar ws (n_v vs 2) 35)) (w_ei ws (w_ar ws (n_v vs 2) 43)) (w_ei ws (w_ar ws (n_v vs 2) 44)) (w_ei ws (w_ar ws (n_v vs 2) 42)) (w_ei ws (w_ar ws (n_v vs 2) 50)) (w_ei ws (w_ar ws (n_v vs 2) 46)) (v_iv (n_v vs 3)) (v_iv (n_v vs 4)) (v_iv (n_v vs 6)) (v_iv (n_v vs 5))
      simp only [q2, q3]
      exact vc_Mo_wayOf_12_0 (v_iv (n_v vs 1)) (v_iv (n_v vs 4)) (v_iv (n_v vs 5)) (v_iv (n_v vs 6)) (v_iv (n_v vs 8)) (v_iv (n_v vs 9)) (v_iv (n_v vs 10)) (w_fi ws (n_v vs 0) 45) (w_fi ws (n_v vs 0) 31) (w_ei ws (w_ar ws (n_v vs 0) 50)) (w_ei ws (w_ar ws (n_v vs 0) 33)) (w_ei ws (w_ar ws (n_v vs 0) 34)) (w_fi ws (n_v vs 0) 32) (w_ei ws (w_ar ws (n_v vs 0) 35)) (w_ei ws (w_ar ws (n_v vs 0) 43)) (w_ei ws (w_ar ws (n_v vs 0) 44)) (w_ei ws (w_ar ws (n_v vs 0) 42)) (w_fi ws (n_v vs 0) 49) (w_ei ws (w_ar ws (n_v vs 0) 46)) k1 k4 k5 k6 k8 k9 k10 d0 d1 f6 f9 f10 f12 f16 f18 f19 kz_0_31 kz_0_32 kz_0_45 kz_0_49
  refine ⟨(fun _ h => (by cases h)), [], trivial, ?_, (fun _ h => (by cases h))⟩
  rw [List.append_nil]
  exact List.forall_mem_cons.mpr ⟨⟨show (20 : Nat) < 100 from by decide, nf0⟩, (fun _ h => (by cases h))⟩
set_option maxHeartbeats 4000000 in
theorem vc_Mo_wayOf_13_0 (x1 : Int) (x4 : Int) (x5 : Int) (x6 : Int) (x8 : Int) (x9 : Int) (x10 : Int) (x11 : Int) (wayMany_0 : Int) (pn_0 : Int) (ends_0 : Int → Int) (pt_0 : Int → Int) (ph_0 : Int → Int) (pm_0 : Int) (alive_0 : Int → Int) (drawnEdge_0 : Int → Int) (pieceOf_0 : Int → Int) (drawnNode_0 : Int → Int) (onlyPiece_0 : Int) (bestWay_0 : Int → Int) (way_0 : Int → Int) (k1 : 0 ≤ x1 ∧ x1 ≤ 79) (k4 : 0 ≤ x4 ∧ x4 ≤ 24) (k5 : 0 ≤ x5 ∧ x5 ≤ 30) (k6 : 0 ≤ x6 ∧ x6 ≤ 24) (k8 : 1 ≤ x8 ∧ x8 ≤ 1) (k9 : 1 ≤ x9 ∧ x9 ≤ 1) (k10 : 0 ≤ x10 ∧ x10 ≤ 0) (k11 : 1 ≤ x11 ∧ x11 ≤ 25) (d0 : x6 + 1 ≤ x11 ∧ x11 ≤ x6 + 1) (g2 : x10 = wayMany_0) (f3 : 1 * x6 + ((-1) * pn_0 + 0) ≤ (-1)) (f4 : ISE (ends_0) (x1) (x6) (x8)) (f7 : WPR (pn_0) (pm_0) (pt_0) (ph_0) (drawnEdge_0) (pieceOf_0) (drawnNode_0) (ends_0) (x1)) (f8 : WE (ends_0) (x1) (x4)) (f9 : 1 * x4 + ((-1) * pn_0 + 0) ≤ (-1)) (f10 : onlyPiece_0 = x1) (f14 : SHP (pn_0) (pm_0) (onlyPiece_0) (wayMany_0) (pt_0) (ph_0) (alive_0) (drawnEdge_0) (pieceOf_0) (drawnNode_0) (way_0) (x4) (x6) (x9)) (f16 : x8 ≠ 0) (f17 : x6 ≠ x4) (kz_0_31 : 0 ≤ pn_0 ∧ pn_0 ≤ 25) (kz_0_32 : 0 ≤ pm_0 ∧ pm_0 ≤ 80) (kz_0_45 : 0 ≤ wayMany_0 ∧ wayMany_0 ≤ 30) (kz_0_49 : (-1) ≤ onlyPiece_0 ∧ onlyPiece_0 ≤ 79) : WB (pn_0) (pm_0) (pt_0) (ph_0) (alive_0) (drawnEdge_0) (pieceOf_0) (drawnNode_0) (ends_0) (bestWay_0) (x1) (x4) (x5) (x11) := by
  first
    | (have h := ‹SHP _ _ _ _ _ _ _ _ _ _ _ _ _ _›
       exfalso
       rcases wc_shp (best := wayMany_0) ‹WPR _ _ _ _ _ _ _ _ _› ‹WE _ _ _› ‹ISE _ _ _ _› ‹SHP _ _ _ _ _ _ _ _ _ _ _ _ _ _› (by omega) (by omega) (by omega) (by omega) (by omega) (by omega) (by omega) (by omega) rfl with ⟨_, _, _, q⟩
       have := q.1; omega)
def o_Mo_wayOf_13 : or_T := (27, 12, [(0, (2, 0, 0, [165])), (1, (0, 0, 79, [])), (4, (0, 0, 24, [])), (5, (0, 0, 30, [])), (6, (0, 0, 24, [])), (8, (0, 1, 1, [])), (9, (0, 1, 1, [])), (10, (0, 0, 0, [])), (11, (0, 1, 25, []))], [(9, [10, 2], [45]), (20, [6, 2], [30, -1, 1, 0, 0, -1, 1, 31]), (20, [2, 3, 6, 8], [60, 0, 1, 114, 50]), (20, [2, 3], [60, 2, 6, 135, 31, 32, 33, 34, 43, 44, 42, 50]), (20, [2, 3, 4], [60, 0, 1, 137, 50]), (20, [4, 2], [30, -1, 1, 0, 0, -1, 1, 31]), (20, [2, 3], [50, 1, 0, 49, 1, 3, 2, 0, 49, 1, 1]), (24, [0, 2], []), (24, [1, 3], []), (20, [2, 4, 6, 9], [60, 4, 7, 130, 31, 32, 49, 45, 33, 34, 35, 43, 44, 42, 46]), (102, [9], [9415652603080021145753684134811499624153533166696051769344, 165045]), (8, [8], [1]), (7, [6, 4], [1])], [], [], [(20, [2, 3, 4, 5, 11], [60, 2, 8, 138, 31, 32, 33, 34, 35, 43, 44, 42, 50, 52])], [], [(11, 6, 1, 1)])
theorem oo_Mo_wayOf_13 {kA : Nat → ClassId} : or_ok PRD kA GG o_Mo_wayOf_13 := by
  refine or_mk fun A ta ws vs hD hth hl => ?_
  intro t0 r0 t1 k1 t4 k4 t5 k5 t6 k6 t8 k8 t9 k9 t10 k10 t11 k11 d0 f2 f3 f4 f7 f8 f9 f10 f12 f13 f14 ta1 w1 le1 s1 f16 f17
  replace f2 := shm_741 f2
  replace f3 := shm_553 f3
  replace f4 := shm_610 f4
  replace f7 := shm_1669 f7
  replace f8 := shm_1671 f8
  replace f9 := shm_553 f9
  replace f10 := shm_1672 f10
  replace f12 := shm_5 f12
  replace f13 := shm_5 f13
  replace f14 := shm_1463 f14
  replace f16 := shm_142 f16
  replace f17 := shm_40 f17
  have q2 : n_v vs 2 = n_v vs 0 := f12.symm
  have q3 : n_v vs 3 = n_v vs 1 := f13.symm
  simp only [q2, q3] at f2 f3 f4 f7 f8 f9 f10 f14
  have g2 : v_iv (n_v vs 10) = w_fi ws (n_v vs 0) 45 := congrArg v_iv f2
  have kz_0_31 := fdq_145 hD hth r0
  have kz_0_32 := fdq_140 hD hth r0
  have kz_0_45 := fdq_191 hD hth r0
  have kz_0_49 := fdq_146 hD hth r0
  have nf0 : fc_1 PRD (20, [2, 3, 4, 5, 11], [60, 2, 8, 138, 31, 32, 33, 34, 35, 43, 44, 42, 50, 52]) ws (vs) := by
    refine ⟨nf_in hl rfl, sgq_1673 ?_⟩
    · show WB (w_fi ws (n_v vs 2) 31) (w_fi ws (n_v vs 2) 32) (w_ei ws (w_ar ws (n_v vs 2) 33)) (w_ei ws (w_ar ws (n_v vs 2) 34)) (w_ei ws (w_ar ws (n_v vs 2) 35)) (w_ei ws (w_ar ws (n_v vs 2) 43)) (w_ei ws (w_ar ws (n_v vs 2) 44)) (w_ei ws (w_ar ws (n_v vs 2) 42)) (w_ei ws (w_ar ws (n_v vs 2) 50)) (w_ei ws (w_ar ws (n_v vs 2) 52)) (v_iv (n_v vs 3)) (v_iv (n_v vs 4)) (v_iv (n_v vs 5)) (v_iv (n_v vs 11))
      simp only [q2, q3]
      exact vc_Mo_wayOf_13_0 (v_iv (n_v vs 1)) (v_iv (n_v vs 4)) (v_iv (n_v vs 5)) (v_iv (n_v vs 6)) (v_iv (n_v vs 8)) (v_iv (n_v vs 9)) (v_iv (n_v vs 10)) (v_iv (n_v vs 11)) (w_fi ws (n_v vs 0) 45) (w_fi ws (n_v vs 0) 31) (w_ei ws (w_ar ws (n_v vs 0) 50)) (w_ei ws (w_ar ws (n_v vs 0) 33)) (w_ei ws (w_ar ws (n_v vs 0) 34)) (w_fi ws (n_v vs 0) 32) (w_ei ws (w_ar ws (n_v vs 0) 35)) (w_ei ws (w_ar ws (n_v vs 0) 43)) (w_ei ws (w_ar ws (n_v vs 0) 44)) (w_ei ws (w_ar ws (n_v vs 0) 42)) (w_fi ws (n_v vs 0) 49) (w_ei ws (w_ar ws (n_v vs 0) 52)) (w_ei ws (w_ar ws (n_v vs 0) 46)) k1 k4 k5 k6 k8 k9 k10 k11 d0 g2 f3 f4 f7 f8 f9 f10 f14 f16 f17 kz_0_31 kz_0_32 kz_0_45 kz_0_49
  refine ⟨(fun _ h => (by cases h)), [], trivial, ?_, (fun _ h => (by cases h))⟩
  rw [List.append_nil]
  exact List.forall_mem_cons.mpr ⟨⟨show (20 : Nat) < 100 from by decide, nf0⟩, (fun _ h => (by cases h))⟩
set_option maxHeartbeats 4000000 in
theorem vc_Mo_wayOf_14_0 (x1 : Int) (x4 : Int) (x5 : Int) (x6 : Int) (x10 : Int) (pt_0 : Int → Int) (ph_0 : Int → Int) (pn_0 : Int) (pm_0 : Int) (alive_0 : Int → Int) (drawnEdge_0 : Int → Int) (pieceOf_0 : Int → Int) (drawnNode_0 : Int → Int) (ends_0 : Int → Int) (bestWay_0 : Int → Int) (way_0 : Int → Int) (wayMany_0 : Int) (k1 : 0 ≤ x1 ∧ x1 ≤ 79) (k4 : 0 ≤ x4 ∧ x4 ≤ 24) (k5 : 1 ≤ x5 ∧ x5 ≤ 30) (k6 : 0 ≤ x6 ∧ x6 ≤ 24) (k10 : 1 ≤ x10 ∧ x10 ≤ 25) (f9 : WB (pn_0) (pm_0) (pt_0) (ph_0) (alive_0) (drawnEdge_0) (pieceOf_0) (drawnNode_0) (ends_0) (bestWay_0) (x1) (x4) (x5) (x6)) (f10 : WC0 (pn_0) (pm_0) (wayMany_0) (pt_0) (ph_0) (alive_0) (drawnEdge_0) (pieceOf_0) (drawnNode_0) (ends_0) (way_0) (x1) (x4) (x6) (x5)) (kz_0_31 : 0 ≤ pn_0 ∧ pn_0 ≤ 25) (kz_0_32 : 0 ≤ pm_0 ∧ pm_0 ≤ 80) (kz_0_45 : 0 ≤ wayMany_0 ∧ wayMany_0 ≤ 30) : WB (pn_0) (pm_0) (pt_0) (ph_0) (alive_0) (drawnEdge_0) (pieceOf_0) (drawnNode_0) (ends_0) (bestWay_0) (x1) (x4) (x5) (x10) := by
  first
    | exact wc_n0 ‹WB _ _ _ _ _ _ _ _ _ _ _ _ _ _› ‹WC0 _ _ _ _ _ _ _ _ _ _ _ _ _ _ _›
def o_Mo_wayOf_14 : or_T := (27, 11, [(0, (2, 0, 0, [165])), (1, (0, 0, 79, [])), (4, (0, 0, 24, [])), (5, (0, 1, 30, [])), (6, (0, 0, 24, [])), (10, (0, 1, 25, []))], [(20, [2, 3, 4, 5, 6], [60, 2, 8, 138, 31, 32, 33, 34, 35, 43, 44, 42, 50, 52]), (20, [2, 3, 4, 6, 5], [60, 3, 8, 140, 31, 32, 45, 33, 34, 35, 43, 44, 42, 50, 46]), (24, [0, 2], []), (24, [1, 3], [])], [], [], [(20, [2, 3, 4, 5, 10], [60, 2, 8, 138, 31, 32, 33, 34, 35, 43, 44, 42, 50, 52])], [], [])
theorem oo_Mo_wayOf_14 {kA : Nat → ClassId} : or_ok PRD kA GG o_Mo_wayOf_14 := by
  refine or_mk fun A ta ws vs hD hth hl => ?_
  intro t0 r0 t1 k1 t4 k4 t5 k5 t6 k6 t10 k10 f9 f10 f11 f12
  replace f9 := shm_1673 f9
  replace f10 := shm_1678 f10
  replace f11 := shm_5 f11
  replace f12 := shm_5 f12
  have q2 : n_v vs 2 = n_v vs 0 := f11.symm
  have q3 : n_v vs 3 = n_v vs 1 := f12.symm
  simp only [q2, q3] at f9 f10
  have kz_0_31 := fdq_145 hD hth r0
  have kz_0_32 := fdq_140 hD hth r0
  have kz_0_45 := fdq_191 hD hth r0
  have nf0 : fc_1 PRD (20, [2, 3, 4, 5, 10], [60, 2, 8, 138, 31, 32, 33, 34, 35, 43, 44, 42, 50, 52]) ws (vs) := by
    refine ⟨nf_in hl rfl, sgq_1673 ?_⟩
    · show WB (w_fi ws (n_v vs 2) 31) (w_fi ws (n_v vs 2) 32) (w_ei ws (w_ar ws (n_v vs 2) 33)) (w_ei ws (w_ar ws (n_v vs 2) 34)) (w_ei ws (w_ar ws (n_v vs 2) 35)) (w_ei ws (w_ar ws (n_v vs 2) 43)) (w_ei ws (w_ar ws (n_v vs 2) 44)) (w_ei ws (w_ar ws (n_v vs 2) 42)) (w_ei ws (w_ar ws (n_v vs 2) 50)) (w_ei ws (w_ar ws (n_v vs 2) 52)) (v_iv (n_v vs 3)) (v_iv (n_v vs 4)) (v_iv (n_v vs 5)) (v_iv (n_v vs 10))
      simp only [q2, q3]
      exact vc_Mo_wayOf_14_0 (v_iv (n_v vs 1)) (v_iv (n_v vs 4)) (v_iv (n_v vs 5)) (v_iv (n_v vs 6)) (v_iv (n_v vs 10)) (w_ei ws (w_ar ws (n_v vs 0) 33)) (w_ei ws (w_ar ws (n_v vs 0) 34)) (w_fi ws (n_v vs 0) 31) (w_fi ws (n_v vs 0) 32) (w_ei ws (w_ar ws (n_v vs 0) 35)) (w_ei ws (w_ar ws (n_v vs 0) 43)) (w_ei ws (w_ar ws (n_v vs 0) 44)) (w_ei ws (w_ar ws (n_v vs 0) 42)) (w_ei ws (w_ar ws (n_v vs 0) 50)) (w_ei ws (w_ar ws (n_v vs 0) 52)) (w_ei ws (w_ar ws (n_v vs 0) 46)) (w_fi ws (n_v vs 0) 45) k1 k4 k5 k6 k10 f9 f10 kz_0_31 kz_0_32 kz_0_45
  refine ⟨(fun _ h => (by cases h)), [], trivial, ?_, (fun _ h => (by cases h))⟩
  rw [List.append_nil]
  exact List.forall_mem_cons.mpr ⟨⟨show (20 : Nat) < 100 from by decide, nf0⟩, (fun _ h => (by cases h))⟩
set_option maxHeartbeats 4000000 in
theorem vc_Mo_wayOf_15_0 (x1 : Int) (x4 : Int) (x5 : Int) (x8 : Int) (x14 : Int) (bestWay_0 : Int → Int) (pt_0 : Int → Int) (ph_0 : Int → Int) (pn_0 : Int) (pm_0 : Int) (alive_0 : Int → Int) (drawnEdge_0 : Int → Int) (pieceOf_0 : Int → Int) (drawnNode_0 : Int → Int) (ends_0 : Int → Int) (wayMany_0 : Int) (k1 : 0 ≤ x1 ∧ x1 ≤ 79) (k4 : 0 ≤ x4 ∧ x4 ≤ 24) (k5 : 2 ≤ x5 ∧ x5 ≤ 29) (k8 : 2 ≤ x8 ∧ x8 ≤ 29) (k14 : 1 ≤ x14 ∧ x14 ≤ 25) (d2 : x5 + (-4294967296) ≤ x8 ∧ x8 ≤ x5 + (-1)) (d3 : x5 + 0 ≤ x8 ∧ x8 ≤ x5 + 4294967296) (kz_0_31 : 0 ≤ pn_0 ∧ pn_0 ≤ 25) (kz_0_32 : 0 ≤ pm_0 ∧ pm_0 ≤ 80) : WB (pn_0) (pm_0) (pt_0) (ph_0) (alive_0) (drawnEdge_0) (pieceOf_0) (drawnNode_0) (ends_0) (bestWay_0) (x1) (x4) (x5) (x14) := by
  first
    | exact Or.inl ⟨by omega, fun y a b => by exfalso; omega⟩
def o_Mo_wayOf_15 : or_T := (27, 15, [(0, (2, 0, 0, [165])), (1, (0, 0, 79, [])), (2, (2, 0, 0, [165])), (3, (0, 0, 79, [])), (4, (0, 0, 24, [])), (5, (0, 2, 29, [])), (6, (0, 0, 24, [])), (8, (0, 2, 29, [])), (9, (2, 0, 0, [191])), (10, (0, 0, 24, [])), (11, (2, 0, 0, [195])), (12, (0, 0, 24, [])), (14, (0, 1, 25, []))], [(6, [14, 6], [1]), (7, [10, 12], [3]), (10, [12, 11, 8], []), (9, [11, 2], [52]), (10, [10, 9, 8], []), (9, [9, 2], [46]), (7, [8, 5], [2]), (7, [8, 5], [3]), (20, [2], [60, 2, 2, 75, 31, 32, 33, 34]), (20, [2], [60, 1, 2, 122, 32, 35, 43]), (20, [2, 3], [60, 2, 6, 135, 31, 32, 33, 34, 43, 44, 42, 50]), (20, [2, 3, 4], [60, 0, 1, 137, 50]), (20, [4, 2], [30, -1, 1, 0, 0, -1, 1, 31]), (20, [2, 3], [50, 1, 0, 49, 1, 3, 2, 0, 49, 1, 1]), (20, [2, 3, 4, 5, 6], [60, 2, 8, 138, 31, 32, 33, 34, 35, 43, 44, 42, 50, 52]), (20, [2, 3, 4, 6, 5], [60, 3, 8, 140, 31, 32, 45, 33, 34, 35, 43, 44, 42, 50, 46]), (24, [0, 2], []), (24, [1, 3], [])], [], [], [(20, [2, 3, 4, 5, 14], [60, 2, 8, 138, 31, 32, 33, 34, 35, 43, 44, 42, 50, 52])], [], [(14, 6, 1, 1), (10, 12, 0, 4294967296), (8, 5, -4294967296, -1), (8, 5, 0, 4294967296), (1, 3, -4294967296, 0), (3, 1, -4294967296, 0), (8, 5, -4294967296, 0)])
theorem oo_Mo_wayOf_15 {kA : Nat → ClassId} : or_ok PRD kA GG o_Mo_wayOf_15 := by
  refine or_mk fun A ta ws vs hD hth hl => ?_
  intro t0 r0 t1 k1 t2 r2 t3 k3 t4 k4 t5 k5 t6 k6 t8 k8 t9 r9 t10 k10 t11 r11 t12 k12 t14 k14 d0 d1 d2 d3 d4 d5 d6 f0 f1 f2 f3 f4 f5 f6 f7 f8 f9 f10 f11 f12 f13 f14 f15 f16 f17
  replace f16 := shm_5 f16
  replace f17 := shm_5 f17
  have q2 : n_v vs 2 = n_v vs 0 := f16.symm
  have q3 : n_v vs 3 = n_v vs 1 := f17.symm
  have kz_0_31 := fdq_145 hD hth r0
  have kz_0_32 := fdq_140 hD hth r0
  have nf0 : fc_1 PRD (20, [2, 3, 4, 5, 14], [60, 2, 8, 138, 31, 32, 33, 34, 35, 43, 44, 42, 50, 52]) ws (vs) := by
    refine ⟨nf_in hl rfl, sgq_1673 ?_⟩
    · show WB (w_fi ws (n_v vs 2) 31) (w_fi ws (n_v vs 2) 32) (w_ei ws (w_ar ws (n_v vs 2) 33)) (w_ei ws (w_ar ws (n_v vs 2) 34)) (w_ei ws (w_ar ws (n_v vs 2) 35)) (w_ei ws (w_ar ws (n_v vs 2) 43)) (w_ei ws (w_ar ws (n_v vs 2) 44)) (w_ei ws (w_ar ws (n_v vs 2) 42)) (w_ei ws (w_ar ws (n_v vs 2) 50)) (w_ei ws (w_ar ws (n_v vs 2) 52)) (v_iv (n_v vs 3)) (v_iv (n_v vs 4)) (v_iv (n_v vs 5)) (v_iv (n_v vs 14))
      simp only [q2, q3]
      exact vc_Mo_wayOf_15_0 (v_iv (n_v vs 1)) (v_iv (n_v vs 4)) (v_iv (n_v vs 5)) (v_iv (n_v vs 8)) (v_iv (n_v vs 14)) (w_ei ws (w_ar ws (n_v vs 0) 52)) (w_ei ws (w_ar ws (n_v vs 0) 33)) (w_ei ws (w_ar ws (n_v vs 0) 34)) (w_fi ws (n_v vs 0) 31) (w_fi ws (n_v vs 0) 32) (w_ei ws (w_ar ws (n_v vs 0) 35)) (w_ei ws (w_ar ws (n_v vs 0) 43)) (w_ei ws (w_ar ws (n_v vs 0) 44)) (w_ei ws (w_ar ws (n_v vs 0) 42)) (w_ei ws (w_ar ws (n_v vs 0) 50)) (w_fi ws (n_v vs 0) 45) k1 k4 k5 k8 k14 d2 d3 kz_0_31 kz_0_32
  refine ⟨(fun _ h => (by cases h)), [], trivial, ?_, (fun _ h => (by cases h))⟩
  rw [List.append_nil]
  exact List.forall_mem_cons.mpr ⟨⟨show (20 : Nat) < 100 from by decide, nf0⟩, (fun _ h => (by cases h))⟩
set_option maxHeartbeats 4000000 in
theorem vc_Mo_wayOf_16_0 (x1 : Int) (x4 : Int) (x5 : Int) (x6 : Int) (x8 : Int) (x14 : Int) (x15 : Int) (wayMany_0 : Int) (bestWay_0 : Int → Int) (way_0 : Int → Int) (pt_0 : Int → Int) (ph_0 : Int → Int) (pn_0 : Int) (pm_0 : Int) (alive_0 : Int → Int) (drawnEdge_0 : Int → Int) (pieceOf_0 : Int → Int) (drawnNode_0 : Int → Int) (ends_0 : Int → Int) (k1 : 0 ≤ x1 ∧ x1 ≤ 79) (k4 : 0 ≤ x4 ∧ x4 ≤ 24) (k5 : 2 ≤ x5 ∧ x5 ≤ 29) (k6 : 0 ≤ x6 ∧ x6 ≤ 24) (k8 : 2 ≤ x8 ∧ x8 ≤ 29) (k14 : 0 ≤ x14 ∧ x14 ≤ 30) (k15 : 0 ≤ x15 ∧ x15 ≤ 0) (d1 : x5 + (-4294967296) ≤ x8 ∧ x8 ≤ x5 + (-1)) (d2 : x5 + 0 ≤ x8 ∧ x8 ≤ x5 + 4294967296) (g0 : x14 = wayMany_0) (f15 : WC0 (pn_0) (pm_0) (wayMany_0) (pt_0) (ph_0) (alive_0) (drawnEdge_0) (pieceOf_0) (drawnNode_0) (ends_0) (way_0) (x1) (x4) (x6) (x5)) (kz_0_31 : 0 ≤ pn_0 ∧ pn_0 ≤ 25) (kz_0_32 : 0 ≤ pm_0 ∧ pm_0 ≤ 80) (kz_0_45 : 0 ≤ wayMany_0 ∧ wayMany_0 ≤ 30) : WC (pn_0) (pm_0) (wayMany_0) (pt_0) (ph_0) (alive_0) (drawnEdge_0) (pieceOf_0) (drawnNode_0) (ends_0) (way_0) (bestWay_0) (x1) (x4) (x6) (x14) (x15) := by
  first
    | exact wc_0 ‹WC0 _ _ _ _ _ _ _ _ _ _ _ _ _ _ _› (by omega) (by omega)
def o_Mo_wayOf_16 : or_T := (178, 16, [(0, (2, 0, 0, [165])), (1, (0, 0, 79, [])), (4, (0, 0, 24, [])), (5, (0, 2, 29, [])), (6, (0, 0, 24, [])), (8, (0, 2, 29, [])), (14, (0, 0, 30, [])), (15, (0, 0, 0, []))], [(9, [14, 2], [45]), (20, [2, 3, 4, 6, 5], [60, 3, 8, 140, 31, 32, 45, 33, 34, 35, 43, 44, 42, 50, 46]), (24, [0, 2], []), (24, [1, 3], [])], [], [], [(20, [2, 3, 4, 6, 14, 15], [60, 3, 9, 139, 31, 32, 45, 33, 34, 35, 43, 44, 42, 50, 46, 52])], [], [(8, 5, -4294967296, -1), (8, 5, 0, 4294967296)])
theorem oo_Mo_wayOf_16 {kA : Nat → ClassId} : or_ok PRD kA GG o_Mo_wayOf_16 := by
  refine or_mk fun A ta ws vs hD hth hl => ?_
  intro t0 r0 t1 k1 t4 k4 t5 k5 t6 k6 t8 k8 t14 k14 t15 k15 d1 d2 f0 f15 f16 f17
  replace f0 := shm_741 f0
  replace f15 := shm_1678 f15
  replace f16 := shm_5 f16
  replace f17 := shm_5 f17
  have q2 : n_v vs 2 = n_v vs 0 := f16.symm
  have q3 : n_v vs 3 = n_v vs 1 := f17.symm
  simp only [q2, q3] at f0 f15
  have g0 : v_iv (n_v vs 14) = w_fi ws (n_v vs 0) 45 := congrArg v_iv f0
  have kz_0_31 := fdq_145 hD hth r0
  have kz_0_32 := fdq_140 hD hth r0
  have kz_0_45 := fdq_191 hD hth r0
  have nf0 : fc_1 PRD (20, [2, 3, 4, 6, 14, 15], [60, 3, 9, 139, 31, 32, 45, 33, 34, 35, 43, 44, 42, 50, 46, 52]) ws (vs) := by
    refine ⟨nf_in hl rfl, sgq_1677 ?_⟩
    · show WC (w_fi ws (n_v vs 2) 31) (w_fi ws (n_v vs 2) 32) (w_fi ws (n_v vs 2) 45) (w_ei ws (w_ar ws (n_v vs 2) 33)) (w_ei ws (w_ar ws (n_v vs 2) 34)) (w_ei ws (w_ar ws (n_v vs 2) 35)) (w_ei ws (w_ar ws (n_v vs 2) 43)) (w_ei ws (w_ar ws (n_v vs 2) 44)) (w_ei ws (w_ar ws (n_v vs 2) 42)) (w_ei ws (w_ar ws (n_v vs 2) 50)) (w_ei ws (w_ar ws (n_v vs 2) 46)) (w_ei ws (w_ar ws (n_v vs 2) 52)) (v_iv (n_v vs 3)) (v_iv (n_v vs 4)) (v_iv (n_v vs 6)) (v_iv (n_v vs 14)) (v_iv (n_v vs 15))
      simp only [q2, q3]
      exact vc_Mo_wayOf_16_0 (v_iv (n_v vs 1)) (v_iv (n_v vs 4)) (v_iv (n_v vs 5)) (v_iv (n_v vs 6)) (v_iv (n_v vs 8)) (v_iv (n_v vs 14)) (v_iv (n_v vs 15)) (w_fi ws (n_v vs 0) 45) (w_ei ws (w_ar ws (n_v vs 0) 52)) (w_ei ws (w_ar ws (n_v vs 0) 46)) (w_ei ws (w_ar ws (n_v vs 0) 33)) (w_ei ws (w_ar ws (n_v vs 0) 34)) (w_fi ws (n_v vs 0) 31) (w_fi ws (n_v vs 0) 32) (w_ei ws (w_ar ws (n_v vs 0) 35)) (w_ei ws (w_ar ws (n_v vs 0) 43)) (w_ei ws (w_ar ws (n_v vs 0) 44)) (w_ei ws (w_ar ws (n_v vs 0) 42)) (w_ei ws (w_ar ws (n_v vs 0) 50)) k1 k4 k5 k6 k8 k14 k15 d1 d2 g0 f15 kz_0_31 kz_0_32 kz_0_45
  refine ⟨(fun _ h => (by cases h)), [], trivial, ?_, (fun _ h => (by cases h))⟩
  rw [List.append_nil]
  exact List.forall_mem_cons.mpr ⟨⟨show (20 : Nat) < 100 from by decide, nf0⟩, (fun _ h => (by cases h))⟩
set_option maxHeartbeats 4000000 in
theorem vc_Mo_wayOf_17_0 (x1 : Int) (x4 : Int) (x5 : Int) (x8 : Int) (x14 : Int) (bestWay_0 : Int → Int) (pt_0 : Int → Int) (ph_0 : Int → Int) (pn_0 : Int) (pm_0 : Int) (alive_0 : Int → Int) (drawnEdge_0 : Int → Int) (pieceOf_0 : Int → Int) (drawnNode_0 : Int → Int) (ends_0 : Int → Int) (wayMany_0 : Int) (k1 : 0 ≤ x1 ∧ x1 ≤ 79) (k4 : 0 ≤ x4 ∧ x4 ≤ 24) (k5 : 2 ≤ x5 ∧ x5 ≤ 29) (k8 : 1 ≤ x8 ∧ x8 ≤ 28) (k14 : 1 ≤ x14 ∧ x14 ≤ 25) (d1 : x5 + 0 ≤ x8 ∧ x8 ≤ x5 + 4294967296) (d2 : x5 + (-4294967296) ≤ x8 ∧ x8 ≤ x5 + (-1)) (kz_0_31 : 0 ≤ pn_0 ∧ pn_0 ≤ 25) (kz_0_32 : 0 ≤ pm_0 ∧ pm_0 ≤ 80) : WB (pn_0) (pm_0) (pt_0) (ph_0) (alive_0) (drawnEdge_0) (pieceOf_0) (drawnNode_0) (ends_0) (bestWay_0) (x1) (x4) (x5) (x14) := by
  first
    | exact Or.inl ⟨by omega, fun y a b => by exfalso; omega⟩
def o_Mo_wayOf_17 : or_T := (27, 15, [(0, (2, 0, 0, [165])), (1, (0, 0, 79, [])), (2, (2, 0, 0, [165])), (3, (0, 0, 79, [])), (4, (0, 0, 24, [])), (5, (0, 2, 29, [])), (6, (0, 0, 24, [])), (8, (0, 1, 28, [])), (9, (2, 0, 0, [191])), (10, (0, 0, 24, [])), (11, (2, 0, 0, [195])), (12, (0, 0, 24, [])), (14, (0, 1, 25, []))], [(6, [14, 6], [1]), (7, [8, 5], [3]), (7, [10, 12], [1]), (10, [12, 11, 8], []), (9, [11, 2], [52]), (10, [10, 9, 8], []), (9, [9, 2], [46]), (7, [8, 5], [2]), (20, [2], [60, 2, 2, 75, 31, 32, 33, 34]), (20, [2], [60, 1, 2, 122, 32, 35, 43]), (20, [2, 3], [60, 2, 6, 135, 31, 32, 33, 34, 43, 44, 42, 50]), (20, [2, 3, 4], [60, 0, 1, 137, 50]), (20, [4, 2], [30, -1, 1, 0, 0, -1, 1, 31]), (20, [2, 3], [50, 1, 0, 49, 1, 3, 2, 0, 49, 1, 1]), (20, [2, 3, 4, 5, 6], [60, 2, 8, 138, 31, 32, 33, 34, 35, 43, 44, 42, 50, 52]), (20, [2, 3, 4, 6, 5], [60, 3, 8, 140, 31, 32, 45, 33, 34, 35, 43, 44, 42, 50, 46]), (24, [0, 2], []), (24, [1, 3], [])], [], [], [(20, [2, 3, 4, 5, 14], [60, 2, 8, 138, 31, 32, 33, 34, 35, 43, 44, 42, 50, 52])], [], [(14, 6, 1, 1), (8, 5, 0, 4294967296), (8, 5, -4294967296, -1), (1, 3, -4294967296, 0), (3, 1, -4294967296, 0), (8, 5, -4294967296, 0)])
theorem oo_Mo_wayOf_17 {kA : Nat → ClassId} : or_ok PRD kA GG o_Mo_wayOf_17 := by
  refine or_mk fun A ta ws vs hD hth hl => ?_
  intro t0 r0 t1 k1 t2 r2 t3 k3 t4 k4 t5 k5 t6 k6 t8 k8 t9 r9 t10 k10 t11 r11 t12 k12 t14 k14 d0 d1 d2 d3 d4 d5 f0 f1 f2 f3 f4 f5 f6 f7 f8 f9 f10 f11 f12 f13 f14 f15 f16 f17
  replace f16 := shm_5 f16
  replace f17 := shm_5 f17
  have q2 : n_v vs 2 = n_v vs 0 := f16.symm
  have q3 : n_v vs 3 = n_v vs 1 := f17.symm
  have kz_0_31 := fdq_145 hD hth r0
  have kz_0_32 := fdq_140 hD hth r0
  have nf0 : fc_1 PRD (20, [2, 3, 4, 5, 14], [60, 2, 8, 138, 31, 32, 33, 34, 35, 43, 44, 42, 50, 52]) ws (vs) := by
    refine ⟨nf_in hl rfl, sgq_1673 ?_⟩
    · show WB (w_fi ws (n_v vs 2) 31) (w_fi ws (n_v vs 2) 32) (w_ei ws (w_ar ws (n_v vs 2) 33)) (w_ei ws (w_ar ws (n_v vs 2) 34)) (w_ei ws (w_ar ws (n_v vs 2) 35)) (w_ei ws (w_ar ws (n_v vs 2) 43)) (w_ei ws (w_ar ws (n_v vs 2) 44)) (w_ei ws (w_ar ws (n_v vs 2) 42)) (w_ei ws (w_ar ws (n_v vs 2) 50)) (w_ei ws (w_ar ws (n_v vs 2) 52)) (v_iv (n_v vs 3)) (v_iv (n_v vs 4)) (v_iv (n_v vs 5)) (v_iv (n_v vs 14))
      simp only [q2, q3]
      exact vc_Mo_wayOf_17_0 (v_iv (n_v vs 1)) (v_iv (n_v vs 4)) (v_iv (n_v vs 5)) (v_iv (n_v vs 8)) (v_iv (n_v vs 14)) (w_ei ws (w_ar ws (n_v vs 0) 52)) (w_ei ws (w_ar ws (n_v vs 0) 33)) (w_ei ws (w_ar ws (n_v vs 0) 34)) (w_fi ws (n_v vs 0) 31) (w_fi ws (n_v vs 0) 32) (w_ei ws (w_ar ws (n_v vs 0) 35)) (w_ei ws (w_ar ws (n_v vs 0) 43)) (w_ei ws (w_ar ws (n_v vs 0) 44)) (w_ei ws (w_ar ws (n_v vs 0) 42)) (w_ei ws (w_ar ws (n_v vs 0) 50)) (w_fi ws (n_v vs 0) 45) k1 k4 k5 k8 k14 d1 d2 kz_0_31 kz_0_32
  refine ⟨(fun _ h => (by cases h)), [], trivial, ?_, (fun _ h => (by cases h))⟩
  rw [List.append_nil]
  exact List.forall_mem_cons.mpr ⟨⟨show (20 : Nat) < 100 from by decide, nf0⟩, (fun _ h => (by cases h))⟩
set_option maxHeartbeats 4000000 in
theorem vc_Mo_wayOf_18_0 (x1 : Int) (x4 : Int) (x5 : Int) (x6 : Int) (x16 : Int) (bestWay_0 : Int → Int) (way_0 : Int → Int) (pt_0 : Int → Int) (ph_0 : Int → Int) (pn_0 : Int) (pm_0 : Int) (alive_0 : Int → Int) (drawnEdge_0 : Int → Int) (pieceOf_0 : Int → Int) (drawnNode_0 : Int → Int) (ends_0 : Int → Int) (wayMany_0 : Int) (k1 : 0 ≤ x1 ∧ x1 ≤ 79) (k4 : 0 ≤ x4 ∧ x4 ≤ 24) (k5 : 1 ≤ x5 ∧ x5 ≤ 30) (k6 : 0 ≤ x6 ∧ x6 ≤ 24) (k16 : 1 ≤ x16 ∧ x16 ≤ 25) (f17 : WB (pn_0) (pm_0) (pt_0) (ph_0) (alive_0) (drawnEdge_0) (pieceOf_0) (drawnNode_0) (ends_0) (bestWay_0) (x1) (x4) (x5) (x6)) (f18 : WC0 (pn_0) (pm_0) (wayMany_0) (pt_0) (ph_0) (alive_0) (drawnEdge_0) (pieceOf_0) (drawnNode_0) (ends_0) (way_0) (x1) (x4) (x6) (x5)) (kz_0_31 : 0 ≤ pn_0 ∧ pn_0 ≤ 25) (kz_0_32 : 0 ≤ pm_0 ∧ pm_0 ≤ 80) (kz_0_45 : 0 ≤ wayMany_0 ∧ wayMany_0 ≤ 30) : WB (pn_0) (pm_0) (pt_0) (ph_0) (alive_0) (drawnEdge_0) (pieceOf_0) (drawnNode_0) (ends_0) (bestWay_0) (x1) (x4) (x5) (x16) := by
  first
    | exact wc_n0 ‹WB _ _ _ _ _ _ _ _ _ _ _ _ _ _› ‹WC0 _ _ _ _ _ _ _ _ _ _ _ _ _ _ _›
def o_Mo_wayOf_18 : or_T := (27, 17, [(0, (2, 0, 0, [165])), (1, (0, 0, 79, [])), (4, (0, 0, 24, [])), (5, (0, 1, 30, [])), (6, (0, 0, 24, [])), (16, (0, 1, 25, []))], [(20, [2, 3, 4, 5, 6], [60, 2, 8, 138, 31, 32, 33, 34, 35, 43, 44, 42, 50, 52]), (20, [2, 3, 4, 6, 5], [60, 3, 8, 140, 31, 32, 45, 33, 34, 35, 43, 44, 42, 50, 46]), (24, [0, 2], []), (24, [1, 3], [])], [], [], [(20, [2, 3, 4, 5, 16], [60, 2, 8, 138, 31, 32, 33, 34, 35, 43, 44, 42, 50, 52])], [], [])
theorem oo_Mo_wayOf_18 {kA : Nat → ClassId} : or_ok PRD kA GG o_Mo_wayOf_18 := by
  refine or_mk fun A ta ws vs hD hth hl => ?_
  intro t0 r0 t1 k1 t4 k4 t5 k5 t6 k6 t16 k16 f17 f18 f19 f20
  replace f17 := shm_1673 f17
  replace f18 := shm_1678 f18
  replace f19 := shm_5 f19
  replace f20 := shm_5 f20
  have q2 : n_v vs 2 = n_v vs 0 := f19.symm
  have q3 : n_v vs 3 = n_v vs 1 := f20.symm
  simp only [q2, q3] at f17 f18
  have kz_0_31 := fdq_145 hD hth r0
  have kz_0_32 := fdq_140 hD hth r0
  have kz_0_45 := fdq_191 hD hth r0
  have nf0 : fc_1 PRD (20, [2, 3, 4, 5, 16], [60, 2, 8, 138, 31, 32, 33, 34, 35, 43, 44, 42, 50, 52]) ws (vs) := by
    refine ⟨nf_in hl rfl, sgq_1673 ?_⟩
    · show WB (w_fi ws (n_v vs 2) 31) (w_fi ws (n_v vs 2) 32) (w_ei ws (w_ar ws (n_v vs 2) 33)) (w_ei ws (w_ar ws (n_v vs 2) 34)) (w_ei ws (w_ar ws (n_v vs 2) 35)) (w_ei ws (w_ar ws (n_v vs 2) 43)) (w_ei ws (w_ar ws (n_v vs 2) 44)) (w_ei ws (w_ar ws (n_v vs 2) 42)) (w_ei ws (w_ar ws (n_v vs 2) 50)) (w_ei ws (w_ar ws (n_v vs 2) 52)) (v_iv (n_v vs 3)) (v_iv (n_v vs 4)) (v_iv (n_v vs 5)) (v_iv (n_v vs 16))
      simp only [q2, q3]
      exact vc_Mo_wayOf_18_0 (v_iv (n_v vs 1)) (v_iv (n_v vs 4)) (v_iv (n_v vs 5)) (v_iv (n_v vs 6)) (v_iv (n_v vs 16)) (w_ei ws (w_ar ws (n_v vs 0) 52)) (w_ei ws (w_ar ws (n_v vs 0) 46)) (w_ei ws (w_ar ws (n_v vs 0) 33)) (w_ei ws (w_ar ws (n_v vs 0) 34)) (w_fi ws (n_v vs 0) 31) (w_fi ws (n_v vs 0) 32) (w_ei ws (w_ar ws (n_v vs 0) 35)) (w_ei ws (w_ar ws (n_v vs 0) 43)) (w_ei ws (w_ar ws (n_v vs 0) 44)) (w_ei ws (w_ar ws (n_v vs 0) 42)) (w_ei ws (w_ar ws (n_v vs 0) 50)) (w_fi ws (n_v vs 0) 45) k1 k4 k5 k6 k16 f17 f18 kz_0_31 kz_0_32 kz_0_45
  refine ⟨(fun _ h => (by cases h)), [], trivial, ?_, (fun _ h => (by cases h))⟩
  rw [List.append_nil]
  exact List.forall_mem_cons.mpr ⟨⟨show (20 : Nat) < 100 from by decide, nf0⟩, (fun _ h => (by cases h))⟩
set_option maxHeartbeats 4000000 in
theorem vc_Mo_wayOf_19_0 (x1 : Int) (x4 : Int) (x5 : Int) (x6 : Int) (x8 : Int) (x16 : Int) (x17 : Int) (wayMany_0 : Int) (bestWay_0 : Int → Int) (way_0 : Int → Int) (pt_0 : Int → Int) (ph_0 : Int → Int) (pn_0 : Int) (pm_0 : Int) (alive_0 : Int → Int) (drawnEdge_0 : Int → Int) (pieceOf_0 : Int → Int) (drawnNode_0 : Int → Int) (ends_0 : Int → Int) (k1 : 0 ≤ x1 ∧ x1 ≤ 79) (k4 : 0 ≤ x4 ∧ x4 ≤ 24) (k5 : 1 ≤ x5 ∧ x5 ≤ 30) (k6 : 0 ≤ x6 ∧ x6 ≤ 24) (k16 : 0 ≤ x16 ∧ x16 ≤ 30) (k17 : 0 ≤ x17 ∧ x17 ≤ 0) (g0 : x16 = wayMany_0) (f18 : WC0 (pn_0) (pm_0) (wayMany_0) (pt_0) (ph_0) (alive_0) (drawnEdge_0) (pieceOf_0) (drawnNode_0) (ends_0) (way_0) (x1) (x4) (x6) (x5)) (kz_0_31 : 0 ≤ pn_0 ∧ pn_0 ≤ 25) (kz_0_32 : 0 ≤ pm_0 ∧ pm_0 ≤ 80) (kz_0_45 : 0 ≤ wayMany_0 ∧ wayMany_0 ≤ 30) : WC (pn_0) (pm_0) (wayMany_0) (pt_0) (ph_0) (alive_0) (drawnEdge_0) (pieceOf_0) (drawnNode_0) (ends_0) (way_0) (bestWay_0) (x1) (x4) (x6) (x16) (x17) := by
  first
    | exact wc_0 ‹WC0 _ _ _ _ _ _ _ _ _ _ _ _ _ _ _› (by omega) (by omega)
def o_Mo_wayOf_19 : or_T := (178, 18, [(0, (2, 0, 0, [165])), (1, (0, 0, 79, [])), (4, (0, 0, 24, [])), (5, (0, 1, 30, [])), (6, (0, 0, 24, [])), (16, (0, 0, 30, [])), (17, (0, 0, 0, []))], [(9, [16, 2], [45]), (20, [2, 3, 4, 6, 5], [60, 3, 8, 140, 31, 32, 45, 33, 34, 35, 43, 44, 42, 50, 46]), (24, [0, 2], []), (24, [1, 3], [])], [], [], [(20, [2, 3, 4, 6, 16, 17], [60, 3, 9, 139, 31, 32, 45, 33, 34, 35, 43, 44, 42, 50, 46, 52])], [], [])
theorem oo_Mo_wayOf_19 {kA : Nat → ClassId} : or_ok PRD kA GG o_Mo_wayOf_19 := by
  refine or_mk fun A ta ws vs hD hth hl => ?_
  intro t0 r0 t1 k1 t4 k4 t5 k5 t6 k6 t16 k16 t17 k17 f0 f18 f19 f20
  replace f0 := shm_741 f0
  replace f18 := shm_1678 f18
  replace f19 := shm_5 f19
  replace f20 := shm_5 f20
  have q2 : n_v vs 2 = n_v vs 0 := f19.symm
  have q3 : n_v vs 3 = n_v vs 1 := f20.symm
  simp only [q2, q3] at f0 f18
  have g0 : v_iv (n_v vs 16) = w_fi ws (n_v vs 0) 45 := congrArg v_iv f0
  have kz_0_31 := fdq_145 hD hth r0
  have kz_0_32 := fdq_140 hD hth r0
  have kz_0_45 := fdq_191 hD hth r0
  have nf0 : fc_1 PRD (20, [2, 3, 4, 6, 16, 17], [60, 3, 9, 139, 31, 32, 45, 33, 34, 35, 43, 44, 42, 50, 46, 52]) ws (vs) := by
    refine ⟨nf_in hl rfl, sgq_1677 ?_⟩
    · show WC (w_fi ws (n_v vs 2) 31) (w_fi ws (n_v vs 2) 32) (w_fi ws (n_v vs 2) 45) (w_ei ws (w_ar ws (n_v vs 2) 33)) (w_ei ws (w_ar ws (n_v vs 2) 34)) (w_ei ws (w_ar ws (n_v vs 2) 35)) (w_ei ws (w_ar ws (n_v vs 2) 43)) (w_ei ws (w_ar ws (n_v vs 2) 44)) (w_ei ws (w_ar ws (n_v vs 2) 42)) (w_ei ws (w_ar ws (n_v vs 2) 50)) (w_ei ws (w_ar ws (n_v vs 2) 46)) (w_ei ws (w_ar ws (n_v vs 2) 52)) (v_iv (n_v vs 3)) (v_iv (n_v vs 4)) (v_iv (n_v vs 6)) (v_iv (n_v vs 16)) (v_iv (n_v vs 17))
      simp only [q2, q3]
      exact vc_Mo_wayOf_19_0 (v_iv (n_v vs 1)) (v_iv (n_v vs 4)) (v_iv (n_v vs 5)) (v_iv (n_v vs 6)) (v_iv (n_v vs 8)) (v_iv (n_v vs 16)) (v_iv (n_v vs 17)) (w_fi ws (n_v vs 0) 45) (w_ei ws (w_ar ws (n_v vs 0) 52)) (w_ei ws (w_ar ws (n_v vs 0) 46)) (w_ei ws (w_ar ws (n_v vs 0) 33)) (w_ei ws (w_ar ws (n_v vs 0) 34)) (w_fi ws (n_v vs 0) 31) (w_fi ws (n_v vs 0) 32) (w_ei ws (w_ar ws (n_v vs 0) 35)) (w_ei ws (w_ar ws (n_v vs 0) 43)) (w_ei ws (w_ar ws (n_v vs 0) 44)) (w_ei ws (w_ar ws (n_v vs 0) 42)) (w_ei ws (w_ar ws (n_v vs 0) 50)) k1 k4 k5 k6 k16 k17 g0 f18 kz_0_31 kz_0_32 kz_0_45
  refine ⟨(fun _ h => (by cases h)), [], trivial, ?_, (fun _ h => (by cases h))⟩
  rw [List.append_nil]
  exact List.forall_mem_cons.mpr ⟨⟨show (20 : Nat) < 100 from by decide, nf0⟩, (fun _ h => (by cases h))⟩
set_option maxHeartbeats 4000000 in
theorem vc_Mo_wayOf_20_0 (x1 : Int) (x4 : Int) (x5 : Int) (x6 : Int) (x8 : Int) (x9 : Int) (pt_0 : Int → Int) (ph_0 : Int → Int) (pn_0 : Int) (pm_0 : Int) (alive_0 : Int → Int) (drawnEdge_0 : Int → Int) (pieceOf_0 : Int → Int) (drawnNode_0 : Int → Int) (ends_0 : Int → Int) (way_0 : Int → Int) (bestWay_0 : Int → Int) (wayMany_0 : Int) (k1 : 0 ≤ x1 ∧ x1 ≤ 79) (k4 : 0 ≤ x4 ∧ x4 ≤ 24) (k5 : 0 ≤ x5 ∧ x5 ≤ 30) (k6 : 0 ≤ x6 ∧ x6 ≤ 24) (k8 : 0 ≤ x8 ∧ x8 ≤ 30) (k9 : 1 ≤ x9 ∧ x9 ≤ 25) (f1 : x5 ≤ x8) (f8 : WC (pn_0) (pm_0) (wayMany_0) (pt_0) (ph_0) (alive_0) (drawnEdge_0) (pieceOf_0) (drawnNode_0) (ends_0) (way_0) (bestWay_0) (x1) (x4) (x6) (x5) (x8)) (kz_0_31 : 0 ≤ pn_0 ∧ pn_0 ≤ 25) (kz_0_32 : 0 ≤ pm_0 ∧ pm_0 ≤ 80) (kz_0_45 : 0 ≤ wayMany_0 ∧ wayMany_0 ≤ 30) : WB (pn_0) (pm_0) (pt_0) (ph_0) (alive_0) (drawnEdge_0) (pieceOf_0) (drawnNode_0) (ends_0) (bestWay_0) (x1) (x4) (x5) (x9) := by
  first
    | exact wb_wc ‹WC _ _ _ _ _ _ _ _ _ _ _ _ _ _ _ _ _› (by omega)
def o_Mo_wayOf_20 : or_T := (27, 10, [(0, (2, 0, 0, [165])), (1, (0, 0, 79, [])), (2, (2, 0, 0, [165])), (3, (0, 0, 79, [])), (4, (0, 0, 24, [])), (5, (0, 0, 30, [])), (6, (0, 0, 24, [])), (8, (0, 0, 30, [])), (9, (0, 1, 25, []))], [(6, [9, 6], [1]), (7, [8, 5], [3]), (20, [2], [60, 2, 2, 75, 31, 32, 33, 34]), (20, [2], [60, 1, 2, 122, 32, 35, 43]), (20, [2, 3], [60, 2, 6, 135, 31, 32, 33, 34, 43, 44, 42, 50]), (20, [2, 3, 4], [60, 0, 1, 137, 50]), (20, [4, 2], [30, -1, 1, 0, 0, -1, 1, 31]), (20, [2, 3], [50, 1, 0, 49, 1, 3, 2, 0, 49, 1, 1]), (20, [2, 3, 4, 6, 5, 8], [60, 3, 9, 139, 31, 32, 45, 33, 34, 35, 43, 44, 42, 50, 46, 52]), (24, [0, 2], []), (24, [1, 3], [])], [], [], [(20, [2, 3, 4, 5, 9], [60, 2, 8, 138, 31, 32, 33, 34, 35, 43, 44, 42, 50, 52])], [], [(9, 6, 1, 1), (8, 5, 0, 4294967296), (1, 3, -4294967296, 0), (3, 1, -4294967296, 0), (8, 5, -4294967296, 0)])
theorem oo_Mo_wayOf_20 {kA : Nat → ClassId} : or_ok PRD kA GG o_Mo_wayOf_20 := by
  refine or_mk fun A ta ws vs hD hth hl => ?_
  intro t0 r0 t1 k1 t2 r2 t3 k3 t4 k4 t5 k5 t6 k6 t8 k8 t9 k9 d0 d1 d2 d3 d4 f0 f1 f2 f3 f4 f5 f6 f7 f8 f9 f10
  replace f1 := shm_2 f1
  replace f8 := shm_1677 f8
  replace f9 := shm_5 f9
  replace f10 := shm_5 f10
  have q2 : n_v vs 2 = n_v vs 0 := f9.symm
  have q3 : n_v vs 3 = n_v vs 1 := f10.symm
  simp only [q2, q3] at f8
  have kz_0_31 := fdq_145 hD hth r0
  have kz_0_32 := fdq_140 hD hth r0
  have kz_0_45 := fdq_191 hD hth r0
  have nf0 : fc_1 PRD (20, [2, 3, 4, 5, 9], [60, 2, 8, 138, 31, 32, 33, 34, 35, 43, 44, 42, 50, 52]) ws (vs) := by
    refine ⟨nf_in hl rfl, sgq_1673 ?_⟩
    · show WB (w_fi ws (n_v vs 2) 31) (w_fi ws (n_v vs 2) 32) (w_ei ws (w_ar ws (n_v vs 2) 33)) (w_ei ws (w_ar ws (n_v vs 2) 34)) (w_ei ws (w_ar ws (n_v vs 2) 35)) (w_ei ws (w_ar ws (n_v vs 2) 43)) (w_ei ws (w_ar ws (n_v vs 2) 44)) (w_ei ws (w_ar ws (n_v vs 2) 42)) (w_ei ws (w_ar ws (n_v vs 2) 50)) (w_ei ws (w_ar ws (n_v vs 2) 52)) (v_iv (n_v vs 3)) (v_iv (n_v vs 4)) (v_iv (n_v vs 5)) (v_iv (n_v vs 9))
      simp only [q2, q3]
      exact vc_Mo_wayOf_20_0 (v_iv (n_v vs 1)) (v_iv (n_v vs 4)) (v_iv (n_v vs 5)) (v_iv (n_v vs 6)) (v_iv (n_v vs 8)) (v_iv (n_v vs 9)) (w_ei ws (w_ar ws (n_v vs 0) 33)) (w_ei ws (w_ar ws (n_v vs 0) 34)) (w_fi ws (n_v vs 0) 31) (w_fi ws (n_v vs 0) 32) (w_ei ws (w_ar ws (n_v vs 0) 35)) (w_ei ws (w_ar ws (n_v vs 0) 43)) (w_ei ws (w_ar ws (n_v vs 0) 44)) (w_ei ws (w_ar ws (n_v vs 0) 42)) (w_ei ws (w_ar ws (n_v vs 0) 50)) (w_ei ws (w_ar ws (n_v vs 0) 46)) (w_ei ws (w_ar ws (n_v vs 0) 52)) (w_fi ws (n_v vs 0) 45) k1 k4 k5 k6 k8 k9 f1 f8 kz_0_31 kz_0_32 kz_0_45
  refine ⟨(fun _ h => (by cases h)), [], trivial, ?_, (fun _ h => (by cases h))⟩
  rw [List.append_nil]
  exact List.forall_mem_cons.mpr ⟨⟨show (20 : Nat) < 100 from by decide, nf0⟩, (fun _ h => (by cases h))⟩
set_option maxHeartbeats 4000000 in
theorem vc_Mo_wayOf_21_0 (x1 : Int) (x4 : Int) (x5 : Int) (x6 : Int) (x8 : Int) (x11 : Int) (x12 : Int) (pt_0 : Int → Int) (ph_0 : Int → Int) (pn_0 : Int) (pm_0 : Int) (alive_0 : Int → Int) (drawnEdge_0 : Int → Int) (pieceOf_0 : Int → Int) (drawnNode_0 : Int → Int) (ends_0 : Int → Int) (onlyPiece_0 : Int) (way_1 : Int → Int) (pt_1 : Int → Int) (ph_1 : Int → Int) (pn_1 : Int) (pm_1 : Int) (alive_1 : Int → Int) (drawnEdge_1 : Int → Int) (pieceOf_1 : Int → Int) (drawnNode_1 : Int → Int) (ends_1 : Int → Int) (onlyPiece_1 : Int) (bestWay_1 : Int → Int) (wayMany_1 : Int) (wayMany_0 : Int) (way_0 : Int → Int) (bestWay_0 : Int → Int) (k1 : 0 ≤ x1 ∧ x1 ≤ 79) (k4 : 0 ≤ x4 ∧ x4 ≤ 24) (k5 : 1 ≤ x5 ∧ x5 ≤ 30) (k6 : 0 ≤ x6 ∧ x6 ≤ 24) (k8 : 0 ≤ x8 ∧ x8 ≤ 29) (k11 : 0 ≤ x11 ∧ x11 ≤ 24) (k12 : 1 ≤ x12 ∧ x12 ≤ 30) (d0 : x8 + 1 ≤ x12 ∧ x12 ≤ x8 + 1) (f0 : x12 = x8 + 1) (h10 : x11 = way_1 (x8)) (f20 : WC (pn_1) (pm_1) (wayMany_1) (pt_1) (ph_1) (alive_1) (drawnEdge_1) (pieceOf_1) (drawnNode_1) (ends_1) (way_1) (bestWay_1) (x1) (x4) (x6) (x5) (x8)) (fe_0_31_1 : pn_0 = pn_1) (fe_0_32_1 : pm_0 = pm_1) (fe_0_45_1 : wayMany_0 = wayMany_1) (fe_0_49_1 : onlyPiece_0 = onlyPiece_1) (hE_0_33_1 : ∀ j : Int, pt_0 j = pt_1 j) (hE_0_34_1 : ∀ j : Int, ph_0 j = ph_1 j) (hE_0_35_1 : ∀ j : Int, alive_0 j = alive_1 j) (hE_0_42_1 : ∀ j : Int, drawnNode_0 j = drawnNode_1 j) (hE_0_43_1 : ∀ j : Int, drawnEdge_0 j = drawnEdge_1 j) (hE_0_44_1 : ∀ j : Int, pieceOf_0 j = pieceOf_1 j) (hE_0_46_1 : ∀ j : Int, way_0 j = way_1 j) (hE_0_50_1 : ∀ j : Int, ends_0 j = ends_1 j) (hE_0_52_1 : ∀ j : Int, 0 ≤ j → (j = x8 → bestWay_0 j = x11) ∧ (j ≠ x8 → bestWay_0 j = bestWay_1 j)) (kz_0_31 : 0 ≤ pn_0 ∧ pn_0 ≤ 25) (kz_0_32 : 0 ≤ pm_0 ∧ pm_0 ≤ 80) (kz_0_45 : 0 ≤ wayMany_0 ∧ wayMany_0 ≤ 30) (kz_0_49 : (-1) ≤ onlyPiece_0 ∧ onlyPiece_0 ≤ 79) : WC (pn_0) (pm_0) (wayMany_0) (pt_0) (ph_0) (alive_0) (drawnEdge_0) (pieceOf_0) (drawnNode_0) (ends_0) (way_0) (bestWay_0) (x1) (x4) (x6) (x5) (x12) := by
  subst fe_0_31_1
  subst fe_0_32_1
  subst fe_0_45_1
  subst fe_0_49_1
  have e_hE_0_33_1 := funext hE_0_33_1; subst e_hE_0_33_1
  have e_hE_0_34_1 := funext hE_0_34_1; subst e_hE_0_34_1
  have e_hE_0_35_1 := funext hE_0_35_1; subst e_hE_0_35_1
  have e_hE_0_42_1 := funext hE_0_42_1; subst e_hE_0_42_1
  have e_hE_0_43_1 := funext hE_0_43_1; subst e_hE_0_43_1
  have e_hE_0_44_1 := funext hE_0_44_1; subst e_hE_0_44_1
  have e_hE_0_46_1 := funext hE_0_46_1; subst e_hE_0_46_1
  have e_hE_0_50_1 := funext hE_0_50_1; subst e_hE_0_50_1
  first
    | (have h := ‹WC _ _ _ _ _ _ _ _ _ _ _ _ _ _ _ _ _›
       exact wc_next (j := x8) h (by omega) (by first | omega | (have v := (hE_0_52_1 x8 (by omega)).1 rfl; rw [v]; omega)) (fun k a b => (hE_0_52_1 k a).2 b))
def o_Mo_wayOf_21 : or_T := (178, 13, [(0, (2, 0, 0, [165])), (1, (0, 0, 79, [])), (2, (2, 0, 0, [165])), (3, (0, 0, 79, [])), (4, (0, 0, 24, [])), (5, (0, 1, 30, [])), (6, (0, 0, 24, [])), (8, (0, 0, 29, [])), (9, (2, 0, 0, [195])), (10, (2, 0, 0, [191])), (11, (0, 0, 24, [])), (12, (0, 1, 30, []))], [(6, [12, 8], [1]), (20, [2], [60, 2, 2, 75, 31, 32, 33, 34]), (20, [2], [60, 1, 2, 122, 32, 35, 43]), (20, [2, 3], [60, 2, 6, 135, 31, 32, 33, 34, 43, 44, 42, 50]), (20, [2, 3, 4], [60, 0, 1, 137, 50]), (20, [4, 2], [30, -1, 1, 0, 0, -1, 1, 31]), (20, [2, 3], [50, 1, 0, 49, 1, 3, 2, 0, 49, 1, 1]), (24, [0, 2], []), (24, [1, 3], []), (100, [9, 8, 11], []), (10, [11, 10, 8], []), (9, [10, 2], [46]), (9, [9, 2], [52]), (7, [8, 5], [2]), (20, [2], [60, 2, 2, 75, 31, 32, 33, 34]), (20, [2], [60, 1, 2, 122, 32, 35, 43]), (20, [2, 3], [60, 2, 6, 135, 31, 32, 33, 34, 43, 44, 42, 50]), (20, [2, 3, 4], [60, 0, 1, 137, 50]), (20, [4, 2], [30, -1, 1, 0, 0, -1, 1, 31]), (20, [2, 3], [50, 1, 0, 49, 1, 3, 2, 0, 49, 1, 1]), (20, [2, 3, 4, 6, 5, 8], [60, 3, 9, 139, 31, 32, 45, 33, 34, 35, 43, 44, 42, 50, 46, 52])], [], [], [(20, [2, 3, 4, 6, 5, 12], [60, 3, 9, 139, 31, 32, 45, 33, 34, 35, 43, 44, 42, 50, 46, 52])], [], [(12, 8, 1, 1), (12, 5, -4294967296, 0), (12, 5, -4294967296, 1), (8, 5, -4294967296, -1), (1, 3, -4294967296, 0), (3, 1, -4294967296, 0), (8, 5, -4294967296, 0)])
theorem oo_Mo_wayOf_21 {kA : Nat → ClassId} : or_ok PRD kA GG o_Mo_wayOf_21 := by
  refine or_mk fun A ta ws vs hD hth hl => ?_
  intro t0 r0 t1 k1 t2 r2 t3 k3 t4 k4 t5 k5 t6 k6 t8 k8 t9 r9 t10 r10 t11 k11 t12 k12 d0 d1 d2 d3 d4 d5 d6 f0 f1 f2 f3 f4 f5 f6 f7 f8 ta1 w1 le1 s1 f10 f11 f12 f13 f14 f15 f16 f17 f18 f19 f20
  replace f0 := shm_4 f0
  replace f7 := shm_5 f7
  replace f8 := shm_5 f8
  have s1 : (∀ b j, w_el ws b j = if b = v_ad (n_v vs 9) ∧ j = (v_iv (n_v vs 8)).toNat then v_iv (n_v vs 11) else w_el w1 b j) ∧ ∀ b k, w_fd ws b k = w_fd w1 b k := s1.2
  replace f10 := shm_107 f10
  replace f11 := shm_737 f11
  replace f12 := shm_993 f12
  replace f20 := shm_1677 f20
  have q2 : n_v vs 2 = n_v vs 0 := f7.symm
  have q3 : n_v vs 3 = n_v vs 1 := f8.symm
  simp only [q2, q3] at f11 f12 f20
  have ar_0_33_1 : w_ar w1 (n_v vs 0) 33 = w_ar ws (n_v vs 0) 33 := congrArg v_ad (s1.2 _ _).symm
  have cr_0_33 := fdq_117 hD hth r0
  have ar_0_34_1 : w_ar w1 (n_v vs 0) 34 = w_ar ws (n_v vs 0) 34 := congrArg v_ad (s1.2 _ _).symm
  have cr_0_34 := fdq_118 hD hth r0
  have ar_0_35_1 : w_ar w1 (n_v vs 0) 35 = w_ar ws (n_v vs 0) 35 := congrArg v_ad (s1.2 _ _).symm
  have cr_0_35 := fdq_132 hD hth r0
  have ar_0_42_1 : w_ar w1 (n_v vs 0) 42 = w_ar ws (n_v vs 0) 42 := congrArg v_ad (s1.2 _ _).symm
  have cr_0_42 := fdq_136 hD hth r0
  have ar_0_43_1 : w_ar w1 (n_v vs 0) 43 = w_ar ws (n_v vs 0) 43 := congrArg v_ad (s1.2 _ _).symm
  have cr_0_43 := fdq_137 hD hth r0
  have ar_0_44_1 : w_ar w1 (n_v vs 0) 44 = w_ar ws (n_v vs 0) 44 := congrArg v_ad (s1.2 _ _).symm
  have cr_0_44 := fdq_138 hD hth r0
  have ar_0_46_1 : w_ar w1 (n_v vs 0) 46 = w_ar ws (n_v vs 0) 46 := congrArg v_ad (s1.2 _ _).symm
  have cr_0_46 := fdq_190 hD hth r0
  have ar_0_50_1 : w_ar w1 (n_v vs 0) 50 = w_ar ws (n_v vs 0) 50 := congrArg v_ad (s1.2 _ _).symm
  have cr_0_50 := fdq_139 hD hth r0
  have ar_0_52_1 : w_ar w1 (n_v vs 0) 52 = w_ar ws (n_v vs 0) 52 := congrArg v_ad (s1.2 _ _).symm
  have ad_10 : v_ad (n_v vs 10) = w_ar ws (n_v vs 0) 46 := (congrArg v_ad f11).trans ar_0_46_1
  have ad_9 : v_ad (n_v vs 9) = w_ar ws (n_v vs 0) 52 := (congrArg v_ad f12).trans ar_0_52_1
  simp only [ad_10] at f10
  have h10 : v_iv (n_v vs 11) = w_ei w1 (w_ar ws (n_v vs 0) 46) (v_iv (n_v vs 8)) := f10
  simp only [ar_0_33_1, ar_0_34_1, ar_0_35_1, ar_0_43_1, ar_0_42_1, ar_0_44_1, ar_0_50_1, ar_0_46_1, ar_0_52_1] at f20
  have fe_0_31_1 : w_fi ws (n_v vs 0) 31 = w_fi w1 (n_v vs 0) 31 := congrArg v_iv (s1.2 _ _)
  have fe_0_32_1 : w_fi ws (n_v vs 0) 32 = w_fi w1 (n_v vs 0) 32 := congrArg v_iv (s1.2 _ _)
  have fe_0_45_1 : w_fi ws (n_v vs 0) 45 = w_fi w1 (n_v vs 0) 45 := congrArg v_iv (s1.2 _ _)
  have fe_0_49_1 : w_fi ws (n_v vs 0) 49 = w_fi w1 (n_v vs 0) 49 := congrArg v_iv (s1.2 _ _)
  have hE_0_33_1 : ∀ j : Int, w_ei ws (w_ar ws (n_v vs 0) 33) j = w_ei w1 (w_ar ws (n_v vs 0) 33) j := el_kp s1.1 r9 cr_0_33 (by decide)
  have hE_0_34_1 : ∀ j : Int, w_ei ws (w_ar ws (n_v vs 0) 34) j = w_ei w1 (w_ar ws (n_v vs 0) 34) j := el_kp s1.1 r9 cr_0_34 (by decide)
  have hE_0_35_1 : ∀ j : Int, w_ei ws (w_ar ws (n_v vs 0) 35) j = w_ei w1 (w_ar ws (n_v vs 0) 35) j := el_kp s1.1 r9 cr_0_35 (by decide)
  have hE_0_42_1 : ∀ j : Int, w_ei ws (w_ar ws (n_v vs 0) 42) j = w_ei w1 (w_ar ws (n_v vs 0) 42) j := el_kp s1.1 r9 cr_0_42 (by decide)
  have hE_0_43_1 : ∀ j : Int, w_ei ws (w_ar ws (n_v vs 0) 43) j = w_ei w1 (w_ar ws (n_v vs 0) 43) j := el_kp s1.1 r9 cr_0_43 (by decide)
  have hE_0_44_1 : ∀ j : Int, w_ei ws (w_ar ws (n_v vs 0) 44) j = w_ei w1 (w_ar ws (n_v vs 0) 44) j := el_kp s1.1 r9 cr_0_44 (by decide)
  have hE_0_46_1 : ∀ j : Int, w_ei ws (w_ar ws (n_v vs 0) 46) j = w_ei w1 (w_ar ws (n_v vs 0) 46) j := el_kp s1.1 r9 cr_0_46 (by decide)
  have hE_0_50_1 : ∀ j : Int, w_ei ws (w_ar ws (n_v vs 0) 50) j = w_ei w1 (w_ar ws (n_v vs 0) 50) j := el_kp s1.1 r9 cr_0_50 (by decide)
  have hE_0_52_1 : ∀ j : Int, 0 ≤ j → (j = v_iv (n_v vs 8) → w_ei ws (w_ar ws (n_v vs 0) 52) j = v_iv (n_v vs 11)) ∧ (j ≠ v_iv (n_v vs 8) → w_ei ws (w_ar ws (n_v vs 0) 52) j = w_ei w1 (w_ar ws (n_v vs 0) 52) j) := fun j hj => ⟨fun h => by unfold w_ei; rw [s1.1, if_pos ⟨ad_9.symm, by rw [h]⟩], fun h => by unfold w_ei; rw [s1.1, if_neg (fun e => h (by have := e.2; omega))]⟩
  have kz_0_31 := fdq_145 hD hth r0
  have kz_0_32 := fdq_140 hD hth r0
  have kz_0_45 := fdq_191 hD hth r0
  have kz_0_49 := fdq_146 hD hth r0
  have nf0 : fc_1 PRD (20, [2, 3, 4, 6, 5, 12], [60, 3, 9, 139, 31, 32, 45, 33, 34, 35, 43, 44, 42, 50, 46, 52]) ws (vs) := by
    refine ⟨nf_in hl rfl, sgq_1677 ?_⟩
    · show WC (w_fi ws (n_v vs 2) 31) (w_fi ws (n_v vs 2) 32) (w_fi ws (n_v vs 2) 45) (w_ei ws (w_ar ws (n_v vs 2) 33)) (w_ei ws (w_ar ws (n_v vs 2) 34)) (w_ei ws (w_ar ws (n_v vs 2) 35)) (w_ei ws (w_ar ws (n_v vs 2) 43)) (w_ei ws (w_ar ws (n_v vs 2) 44)) (w_ei ws (w_ar ws (n_v vs 2) 42)) (w_ei ws (w_ar ws (n_v vs 2) 50)) (w_ei ws (w_ar ws (n_v vs 2) 46)) (w_ei ws (w_ar ws (n_v vs 2) 52)) (v_iv (n_v vs 3)) (v_iv (n_v vs 4)) (v_iv (n_v vs 6)) (v_iv (n_v vs 5)) (v_iv (n_v vs 12))
      simp only [q2, q3]
      exact vc_Mo_wayOf_21_0 (v_iv (n_v vs 1)) (v_iv (n_v vs 4)) (v_iv (n_v vs 5)) (v_iv (n_v vs 6)) (v_iv (n_v vs 8)) (v_iv (n_v vs 11)) (v_iv (n_v vs 12)) (w_ei ws (w_ar ws (n_v vs 0) 33)) (w_ei ws (w_ar ws (n_v vs 0) 34)) (w_fi ws (n_v vs 0) 31) (w_fi ws (n_v vs 0) 32) (w_ei ws (w_ar ws (n_v vs 0) 35)) (w_ei ws (w_ar ws (n_v vs 0) 43)) (w_ei ws (w_ar ws (n_v vs 0) 44)) (w_ei ws (w_ar ws (n_v vs 0) 42)) (w_ei ws (w_ar ws (n_v vs 0) 50)) (w_fi ws (n_v vs 0) 49) (w_ei w1 (w_ar ws (n_v vs 0) 46)) (w_ei w1 (w_ar ws (n_v vs 0) 33)) (w_ei w1 (w_ar ws (n_v vs 0) 34)) (w_fi w1 (n_v vs 0) 31) (w_fi w1 (n_v vs 0) 32) (w_ei w1 (w_ar ws (n_v vs 0) 35)) (w_ei w1 (w_ar ws (n_v vs 0) 43)) (w_ei w1 (w_ar ws (n_v vs 0) 44)) (w_ei w1 (w_ar ws (n_v vs 0) 42)) (w_ei w1 (w_ar ws (n_v vs 0) 50)) (w_fi w1 (n_v vs 0) 49) (w_ei w1 (w_ar ws (n_v vs 0) 52)) (w_fi w1 (n_v vs 0) 45) (w_fi ws (n_v vs 0) 45) (w_ei ws (w_ar ws (n_v vs 0) 46)) (w_ei ws (w_ar ws (n_v vs 0) 52)) k1 k4 k5 k6 k8 k11 k12 d0 f0 h10 f20 fe_0_31_1 fe_0_32_1 fe_0_45_1 fe_0_49_1 hE_0_33_1 hE_0_34_1 hE_0_35_1 hE_0_42_1 hE_0_43_1 hE_0_44_1 hE_0_46_1 hE_0_50_1 hE_0_52_1 kz_0_31 kz_0_32 kz_0_45 kz_0_49
  refine ⟨(fun _ h => (by cases h)), [], trivial, ?_, (fun _ h => (by cases h))⟩
  rw [List.append_nil]
  exact List.forall_mem_cons.mpr ⟨⟨show (20 : Nat) < 100 from by decide, nf0⟩, (fun _ h => (by cases h))⟩
set_option maxHeartbeats 4000000 in
theorem vc_Mo_wayOf_22_0 (x1 : Int) (x4 : Int) (x5 : Int) (x6 : Int) (pt_0 : Int → Int) (ph_0 : Int → Int) (pn_0 : Int) (pm_0 : Int) (ends_0 : Int → Int) (alive_0 : Int → Int) (drawnEdge_0 : Int → Int) (pieceOf_0 : Int → Int) (drawnNode_0 : Int → Int) (way_0 : Int → Int) (bestWay_0 : Int → Int) (wayMany_0 : Int) (k1 : 0 ≤ x1 ∧ x1 ≤ 79) (k4 : 0 ≤ x4 ∧ x4 ≤ 24) (k5 : 0 ≤ x5 ∧ x5 ≤ 30) (k6 : 0 ≤ x6 ∧ x6 ≤ 30) (f0 : x5 ≤ x6) (f2 : WE (ends_0) (x1) (x4)) (f3 : WD (pn_0) (pm_0) (pt_0) (ph_0) (alive_0) (drawnEdge_0) (pieceOf_0) (drawnNode_0) (ends_0) (way_0) (bestWay_0) (x1) (x4) (x5) (x6)) (f5 : wayMany_0 = x5) (kz_0_31 : 0 ≤ pn_0 ∧ pn_0 ≤ 25) (kz_0_32 : 0 ≤ pm_0 ∧ pm_0 ≤ 80) (kz_0_45 : 0 ≤ wayMany_0 ∧ wayMany_0 ≤ 30) : WOP (pn_0) (pm_0) (wayMany_0) (pt_0) (ph_0) (alive_0) (drawnEdge_0) (pieceOf_0) (drawnNode_0) (ends_0) (way_0) (x1) := by
  exact wd_end ‹WD _ _ _ _ _ _ _ _ _ _ _ _ _ _ _› ‹WE _ _ _› (by omega) (by omega)
set_option maxHeartbeats 4000000 in
theorem vc_Mo_wayOf_22_1 (onlyPiece_0 : Int) (f4 : onlyPiece_0 = (-1)) (kz_0_49 : (-1) ≤ onlyPiece_0 ∧ onlyPiece_0 ≤ 79) : onlyPiece_0 = (-1) := by
  first | omega
def o_Mo_wayOf_22 : or_T := (249, 7, [(0, (2, 0, 0, [165])), (1, (0, 0, 79, [])), (4, (0, 0, 24, [])), (5, (0, 0, 30, [])), (6, (0, 0, 30, []))], [(7, [6, 5], [3]), (20, [2, 3, 4], [60, 0, 1, 137, 50]), (20, [2, 3, 4, 5, 6], [60, 2, 9, 141, 31, 32, 33, 34, 35, 43, 44, 42, 50, 46, 52]), (20, [2], [50, 1, 0, 49, 1, 3, 2, 0, 49, 0, -1]), (20, [2, 5], [50, 1, 0, 45, 1, 3, 2, 0, 45, 1, 1]), (24, [0, 2], []), (24, [1, 3], [])], [], [], [(20, [0, 1], [60, 3, 8, 142, 31, 32, 45, 33, 34, 35, 43, 44, 42, 50, 46]), (20, [0], [50, 1, 0, 49, 1, 3, 2, 0, 49, 0, -1])], [], [])
theorem oo_Mo_wayOf_22 {kA : Nat → ClassId} : or_ok PRD kA GG o_Mo_wayOf_22 := by
  refine or_mk fun A ta ws vs hD hth hl => ?_
  intro t0 r0 t1 k1 t4 k4 t5 k5 t6 k6 f0 f2 f3 f4 f5 f6 f7
  replace f2 := shm_1671 f2
  replace f3 := shm_1674 f3
  replace f4 := shm_1675 f4
  replace f5 := shm_1676 f5
  replace f6 := shm_5 f6
  replace f7 := shm_5 f7
  have q2 : n_v vs 2 = n_v vs 0 := f6.symm
  have q3 : n_v vs 3 = n_v vs 1 := f7.symm
  simp only [q2, q3] at f2 f3 f4 f5
  have kz_0_31 := fdq_145 hD hth r0
  have kz_0_32 := fdq_140 hD hth r0
  have kz_0_45 := fdq_191 hD hth r0
  have kz_0_49 := fdq_146 hD hth r0
  have nf0 : fc_1 PRD (20, [0, 1], [60, 3, 8, 142, 31, 32, 45, 33, 34, 35, 43, 44, 42, 50, 46]) ws (vs) := ⟨nf_in hl rfl, sgq_1679 (vc_Mo_wayOf_22_0 (v_iv (n_v vs 1)) (v_iv (n_v vs 4)) (v_iv (n_v vs 5)) (v_iv (n_v vs 6)) (w_ei ws (w_ar ws (n_v vs 0) 33)) (w_ei ws (w_ar ws (n_v vs 0) 34)) (w_fi ws (n_v vs 0) 31) (w_fi ws (n_v vs 0) 32) (w_ei ws (w_ar ws (n_v vs 0) 50)) (w_ei ws (w_ar ws (n_v vs 0) 35)) (w_ei ws (w_ar ws (n_v vs 0) 43)) (w_ei ws (w_ar ws (n_v vs 0) 44)) (w_ei ws (w_ar ws (n_v vs 0) 42)) (w_ei ws (w_ar ws (n_v vs 0) 46)) (w_ei ws (w_ar ws (n_v vs 0) 52)) (w_fi ws (n_v vs 0) 45) k1 k4 k5 k6 (shm_2 f0) f2 f3 f5 kz_0_31 kz_0_32 kz_0_45)⟩
  have nf1 : fc_1 PRD (20, [0], [50, 1, 0, 49, 1, 3, 2, 0, 49, 0, -1]) ws (vs) := ⟨nf_in hl rfl, sgq_1675 (vc_Mo_wayOf_22_1 (w_fi ws (n_v vs 0) 49) f4 kz_0_49)⟩
  refine ⟨(fun _ h => (by cases h)), [], trivial, ?_, (fun _ h => (by cases h))⟩
  rw [List.append_nil]
  exact List.forall_mem_cons.mpr ⟨⟨show (20 : Nat) < 100 from by decide, nf0⟩, List.forall_mem_cons.mpr ⟨⟨show (20 : Nat) < 100 from by decide, nf1⟩, (fun _ h => (by cases h))⟩⟩
set_option maxHeartbeats 4000000 in
theorem vc_Mo_wayOf_23_0 (x1 : Int) (x4 : Int) (x5 : Int) (x6 : Int) (x9 : Int) (x10 : Int) (pt_0 : Int → Int) (ph_0 : Int → Int) (pn_0 : Int) (pm_0 : Int) (ends_0 : Int → Int) (onlyPiece_0 : Int) (wayMany_0 : Int) (bestWay_1 : Int → Int) (pt_1 : Int → Int) (ph_1 : Int → Int) (pn_1 : Int) (pm_1 : Int) (ends_1 : Int → Int) (alive_1 : Int → Int) (drawnEdge_1 : Int → Int) (pieceOf_1 : Int → Int) (drawnNode_1 : Int → Int) (way_1 : Int → Int) (onlyPiece_1 : Int) (wayMany_1 : Int) (alive_0 : Int → Int) (drawnNode_0 : Int → Int) (drawnEdge_0 : Int → Int) (pieceOf_0 : Int → Int) (way_0 : Int → Int) (bestWay_0 : Int → Int) (k1 : 0 ≤ x1 ∧ x1 ≤ 79) (k4 : 0 ≤ x4 ∧ x4 ≤ 24) (k5 : 1 ≤ x5 ∧ x5 ≤ 30) (k6 : 0 ≤ x6 ∧ x6 ≤ 29) (k9 : 0 ≤ x9 ∧ x9 ≤ 24) (k10 : 1 ≤ x10 ∧ x10 ≤ 30) (d0 : x6 + 1 ≤ x10 ∧ x10 ≤ x6 + 1) (f0 : x10 = x6 + 1) (h8 : x9 = bestWay_1 (x6)) (f14 : WD (pn_1) (pm_1) (pt_1) (ph_1) (alive_1) (drawnEdge_1) (pieceOf_1) (drawnNode_1) (ends_1) (way_1) (bestWay_1) (x1) (x4) (x5) (x6)) (fe_0_31_1 : pn_0 = pn_1) (fe_0_32_1 : pm_0 = pm_1) (fe_0_45_1 : wayMany_0 = wayMany_1) (fe_0_49_1 : onlyPiece_0 = onlyPiece_1) (hE_0_33_1 : ∀ j : Int, pt_0 j = pt_1 j) (hE_0_34_1 : ∀ j : Int, ph_0 j = ph_1 j) (hE_0_35_1 : ∀ j : Int, alive_0 j = alive_1 j) (hE_0_42_1 : ∀ j : Int, drawnNode_0 j = drawnNode_1 j) (hE_0_43_1 : ∀ j : Int, drawnEdge_0 j = drawnEdge_1 j) (hE_0_44_1 : ∀ j : Int, pieceOf_0 j = pieceOf_1 j) (hE_0_46_1 : ∀ j : Int, 0 ≤ j → (j = x6 → way_0 j = x9) ∧ (j ≠ x6 → way_0 j = way_1 j)) (hE_0_50_1 : ∀ j : Int, ends_0 j = ends_1 j) (hE_0_52_1 : ∀ j : Int, bestWay_0 j = bestWay_1 j) (kz_0_31 : 0 ≤ pn_0 ∧ pn_0 ≤ 25) (kz_0_32 : 0 ≤ pm_0 ∧ pm_0 ≤ 80) (kz_0_45 : 0 ≤ wayMany_0 ∧ wayMany_0 ≤ 30) (kz_0_49 : (-1) ≤ onlyPiece_0 ∧ onlyPiece_0 ≤ 79) : WD (pn_0) (pm_0) (pt_0) (ph_0) (alive_0) (drawnEdge_0) (pieceOf_0) (drawnNode_0) (ends_0) (way_0) (bestWay_0) (x1) (x4) (x5) (x10) := by
  subst fe_0_31_1
  subst fe_0_32_1
  subst fe_0_45_1
  subst fe_0_49_1
  have e_hE_0_33_1 := funext hE_0_33_1; subst e_hE_0_33_1
  have e_hE_0_34_1 := funext hE_0_34_1; subst e_hE_0_34_1
  have e_hE_0_35_1 := funext hE_0_35_1; subst e_hE_0_35_1
  have e_hE_0_42_1 := funext hE_0_42_1; subst e_hE_0_42_1
  have e_hE_0_43_1 := funext hE_0_43_1; subst e_hE_0_43_1
  have e_hE_0_44_1 := funext hE_0_44_1; subst e_hE_0_44_1
  have e_hE_0_50_1 := funext hE_0_50_1; subst e_hE_0_50_1
  have e_hE_0_52_1 := funext hE_0_52_1; subst e_hE_0_52_1
  first
    | (have h := ‹WD _ _ _ _ _ _ _ _ _ _ _ _ _ _ _›
       exact wd_next (j := x6) h (by omega) (by first | omega | (have v := (hE_0_46_1 x6 (by omega)).1 rfl; rw [v]; omega)) (fun k a b => (hE_0_46_1 k a).2 b))
def o_Mo_wayOf_23 : or_T := (223, 11, [(0, (2, 0, 0, [165])), (1, (0, 0, 79, [])), (4, (0, 0, 24, [])), (5, (0, 1, 30, [])), (6, (0, 0, 29, [])), (7, (2, 0, 0, [191])), (9, (0, 0, 24, [])), (10, (0, 1, 30, []))], [(6, [10, 6], [1]), (24, [0, 2], []), (24, [1, 3], []), (100, [7, 6, 9], []), (10, [9, 8, 6], []), (9, [8, 2], [52]), (9, [7, 2], [46]), (20, [2, 3, 4, 5, 6], [60, 2, 9, 141, 31, 32, 33, 34, 35, 43, 44, 42, 50, 46, 52])], [], [], [(20, [2, 3, 4, 5, 10], [60, 2, 9, 141, 31, 32, 33, 34, 35, 43, 44, 42, 50, 46, 52])], [], [(10, 6, 1, 1), (6, 5, -4294967296, -1), (6, 5, -4294967296, 0)])
theorem oo_Mo_wayOf_23 {kA : Nat → ClassId} : or_ok PRD kA GG o_Mo_wayOf_23 := by
  refine or_mk fun A ta ws vs hD hth hl => ?_
  intro t0 r0 t1 k1 t4 k4 t5 k5 t6 k6 t7 r7 t9 k9 t10 k10 d0 d3 d6 f0 f5 f6 ta1 w1 le1 s1 f8 f9 f10 f14
  replace f0 := shm_4 f0
  replace f5 := shm_5 f5
  replace f6 := shm_5 f6
  have s1 : (∀ b j, w_el ws b j = if b = v_ad (n_v vs 7) ∧ j = (v_iv (n_v vs 6)).toNat then v_iv (n_v vs 9) else w_el w1 b j) ∧ ∀ b k, w_fd ws b k = w_fd w1 b k := s1.2
  replace f8 := shm_107 f8
  replace f9 := shm_993 f9
  replace f10 := shm_737 f10
  replace f14 := shm_1674 f14
  have q2 : n_v vs 2 = n_v vs 0 := f5.symm
  have q3 : n_v vs 3 = n_v vs 1 := f6.symm
  simp only [q2, q3] at f9 f10 f14
  have ar_0_33_1 : w_ar w1 (n_v vs 0) 33 = w_ar ws (n_v vs 0) 33 := congrArg v_ad (s1.2 _ _).symm
  have cr_0_33 := fdq_117 hD hth r0
  have ar_0_34_1 : w_ar w1 (n_v vs 0) 34 = w_ar ws (n_v vs 0) 34 := congrArg v_ad (s1.2 _ _).symm
  have cr_0_34 := fdq_118 hD hth r0
  have ar_0_35_1 : w_ar w1 (n_v vs 0) 35 = w_ar ws (n_v vs 0) 35 := congrArg v_ad (s1.2 _ _).symm
  have cr_0_35 := fdq_132 hD hth r0
  have ar_0_42_1 : w_ar w1 (n_v vs 0) 42 = w_ar ws (n_v vs 0) 42 := congrArg v_ad (s1.2 _ _).symm
  have cr_0_42 := fdq_136 hD hth r0
  have ar_0_43_1 : w_ar w1 (n_v vs 0) 43 = w_ar ws (n_v vs 0) 43 := congrArg v_ad (s1.2 _ _).symm
  have cr_0_43 := fdq_137 hD hth r0
  have ar_0_44_1 : w_ar w1 (n_v vs 0) 44 = w_ar ws (n_v vs 0) 44 := congrArg v_ad (s1.2 _ _).symm
  have cr_0_44 := fdq_138 hD hth r0
  have ar_0_46_1 : w_ar w1 (n_v vs 0) 46 = w_ar ws (n_v vs 0) 46 := congrArg v_ad (s1.2 _ _).symm
  have ar_0_50_1 : w_ar w1 (n_v vs 0) 50 = w_ar ws (n_v vs 0) 50 := congrArg v_ad (s1.2 _ _).symm
  have cr_0_50 := fdq_139 hD hth r0
  have ar_0_52_1 : w_ar w1 (n_v vs 0) 52 = w_ar ws (n_v vs 0) 52 := congrArg v_ad (s1.2 _ _).symm
  have cr_0_52 := fdq_236 hD hth r0
  have ad_8 : v_ad (n_v vs 8) = w_ar ws (n_v vs 0) 52 := (congrArg v_ad f9).trans ar_0_52_1
  have ad_7 : v_ad (n_v vs 7) = w_ar ws (n_v vs 0) 46 := (congrArg v_ad f10).trans ar_0_46_1
  simp only [ad_8] at f8
  have h8 : v_iv (n_v vs 9) = w_ei w1 (w_ar ws (n_v vs 0) 52) (v_iv (n_v vs 6)) := f8
  simp only [ar_0_33_1, ar_0_34_1, ar_0_50_1, ar_0_35_1, ar_0_42_1, ar_0_43_1, ar_0_44_1, ar_0_46_1, ar_0_52_1] at f14
  have fe_0_31_1 : w_fi ws (n_v vs 0) 31 = w_fi w1 (n_v vs 0) 31 := congrArg v_iv (s1.2 _ _)
  have fe_0_32_1 : w_fi ws (n_v vs 0) 32 = w_fi w1 (n_v vs 0) 32 := congrArg v_iv (s1.2 _ _)
  have fe_0_45_1 : w_fi ws (n_v vs 0) 45 = w_fi w1 (n_v vs 0) 45 := congrArg v_iv (s1.2 _ _)
  have fe_0_49_1 : w_fi ws (n_v vs 0) 49 = w_fi w1 (n_v vs 0) 49 := congrArg v_iv (s1.2 _ _)
  have hE_0_33_1 : ∀ j : Int, w_ei ws (w_ar ws (n_v vs 0) 33) j = w_ei w1 (w_ar ws (n_v vs 0) 33) j := el_kp s1.1 r7 cr_0_33 (by decide)
  have hE_0_34_1 : ∀ j : Int, w_ei ws (w_ar ws (n_v vs 0) 34) j = w_ei w1 (w_ar ws (n_v vs 0) 34) j := el_kp s1.1 r7 cr_0_34 (by decide)
  have hE_0_35_1 : ∀ j : Int, w_ei ws (w_ar ws (n_v vs 0) 35) j = w_ei w1 (w_ar ws (n_v vs 0) 35) j := el_kp s1.1 r7 cr_0_35 (by decide)
  have hE_0_42_1 : ∀ j : Int, w_ei ws (w_ar ws (n_v vs 0) 42) j = w_ei w1 (w_ar ws (n_v vs 0) 42) j := el_kp s1.1 r7 cr_0_42 (by decide)
  have hE_0_43_1 : ∀ j : Int, w_ei ws (w_ar ws (n_v vs 0) 43) j = w_ei w1 (w_ar ws (n_v vs 0) 43) j := el_kp s1.1 r7 cr_0_43 (by decide)
  have hE_0_44_1 : ∀ j : Int, w_ei ws (w_ar ws (n_v vs 0) 44) j = w_ei w1 (w_ar ws (n_v vs 0) 44) j := el_kp s1.1 r7 cr_0_44 (by decide)
  have hE_0_46_1 : ∀ j : Int, 0 ≤ j → (j = v_iv (n_v vs 6) → w_ei ws (w_ar ws (n_v vs 0) 46) j = v_iv (n_v vs 9)) ∧ (j ≠ v_iv (n_v vs 6) → w_ei ws (w_ar ws (n_v vs 0) 46) j = w_ei w1 (w_ar ws (n_v vs 0) 46) j) := fun j hj => ⟨fun h => by unfold w_ei; rw [s1.1, if_pos ⟨ad_7.symm, by rw [h]⟩], fun h => by unfold w_ei; rw [s1.1, if_neg (fun e => h (by have := e.2; omega))]⟩
  have hE_0_50_1 : ∀ j : Int, w_ei ws (w_ar ws (n_v vs 0) 50) j = w_ei w1 (w_ar ws (n_v vs 0) 50) j := el_kp s1.1 r7 cr_0_50 (by decide)
  have hE_0_52_1 : ∀ j : Int, w_ei ws (w_ar ws (n_v vs 0) 52) j = w_ei w1 (w_ar ws (n_v vs 0) 52) j := el_kp s1.1 r7 cr_0_52 (by decide)
  have kz_0_31 := fdq_145 hD hth r0
  have kz_0_32 := fdq_140 hD hth r0
  have kz_0_45 := fdq_191 hD hth r0
  have kz_0_49 := fdq_146 hD hth r0
  have nf0 : fc_1 PRD (20, [2, 3, 4, 5, 10], [60, 2, 9, 141, 31, 32, 33, 34, 35, 43, 44, 42, 50, 46, 52]) ws (vs) := by
    refine ⟨nf_in hl rfl, sgq_1674 ?_⟩
    · show WD (w_fi ws (n_v vs 2) 31) (w_fi ws (n_v vs 2) 32) (w_ei ws (w_ar ws (n_v vs 2) 33)) (w_ei ws (w_ar ws (n_v vs 2) 34)) (w_ei ws (w_ar ws (n_v vs 2) 35)) (w_ei ws (w_ar ws (n_v vs 2) 43)) (w_ei ws (w_ar ws (n_v vs 2) 44)) (w_ei ws (w_ar ws (n_v vs 2) 42)) (w_ei ws (w_ar ws (n_v vs 2) 50)) (w_ei ws (w_ar ws (n_v vs 2) 46)) (w_ei ws (w_ar ws (n_v vs 2) 52)) (v_iv (n_v vs 3)) (v_iv (n_v vs 4)) (v_iv (n_v vs 5)) (v_iv (n_v vs 10))
      simp only [q2, q3]
      exact vc_Mo_wayOf_23_0 (v_iv (n_v vs 1)) (v_iv (n_v vs 4)) (v_iv (n_v vs 5)) (v_iv (n_v vs 6)) (v_iv (n_v vs 9)) (v_iv (n_v vs 10)) (w_ei ws (w_ar ws (n_v vs 0) 33)) (w_ei ws (w_ar ws (n_v vs 0) 34)) (w_fi ws (n_v vs 0) 31) (w_fi ws (n_v vs 0) 32) (w_ei ws (w_ar ws (n_v vs 0) 50)) (w_fi ws (n_v vs 0) 49) (w_fi ws (n_v vs 0) 45) (w_ei w1 (w_ar ws (n_v vs 0) 52)) (w_ei w1 (w_ar ws (n_v vs 0) 33)) (w_ei w1 (w_ar ws (n_v vs 0) 34)) (w_fi w1 (n_v vs 0) 31) (w_fi w1 (n_v vs 0) 32) (w_ei w1 (w_ar ws (n_v vs 0) 50)) (w_ei w1 (w_ar ws (n_v vs 0) 35)) (w_ei w1 (w_ar ws (n_v vs 0) 43)) (w_ei w1 (w_ar ws (n_v vs 0) 44)) (w_ei w1 (w_ar ws (n_v vs 0) 42)) (w_ei w1 (w_ar ws (n_v vs 0) 46)) (w_fi w1 (n_v vs 0) 49) (w_fi w1 (n_v vs 0) 45) (w_ei ws (w_ar ws (n_v vs 0) 35)) (w_ei ws (w_ar ws (n_v vs 0) 42)) (w_ei ws (w_ar ws (n_v vs 0) 43)) (w_ei ws (w_ar ws (n_v vs 0) 44)) (w_ei ws (w_ar ws (n_v vs 0) 46)) (w_ei ws (w_ar ws (n_v vs 0) 52)) k1 k4 k5 k6 k9 k10 d0 f0 h8 f14 fe_0_31_1 fe_0_32_1 fe_0_45_1 fe_0_49_1 hE_0_33_1 hE_0_34_1 hE_0_35_1 hE_0_42_1 hE_0_43_1 hE_0_44_1 hE_0_46_1 hE_0_50_1 hE_0_52_1 kz_0_31 kz_0_32 kz_0_45 kz_0_49
  refine ⟨(fun _ h => (by cases h)), [], trivial, ?_, (fun _ h => (by cases h))⟩
  rw [List.append_nil]
  exact List.forall_mem_cons.mpr ⟨⟨show (20 : Nat) < 100 from by decide, nf0⟩, (fun _ h => (by cases h))⟩
def n_Mo_wayOf_an : List an_T := [(2, [(0, (2, 0, 0, [165])), (1, (0, 0, 79, [])), (2, (0, 0, 24, []))], [], (0, 0), [(0, 0, 99998), (1, 4, 24), (0, 0, 100000), (0, 0, 0), (0, 0, 0)], [(1, 3, (Int.negSucc 999999999999), 0), (3, 1, (Int.negSucc 999999999999), 0)], [], [(2, 0, 0, [165]), (0, 0, 79, [])], 0, [], [(20, [2], [60, 2, 2, 75, 31, 32, 33, 34]), (20, [2], [60, 1, 2, 122, 32, 35, 43]), (20, [2, 3], [60, 2, 6, 135, 31, 32, 33, 34, 43, 44, 42, 50]), (20, [2, 3, 4], [60, 0, 1, 136, 50]), (20, [4, 2], [30, (Int.negSucc 0), 1, 0, 0, (Int.negSucc 0), 1, 31]), (24, [0, 2], []), (24, [1, 3], [])]), (27, [(0, (2, 0, 0, [165])), (1, (0, 0, 79, [])), (2, (0, 0, 24, [])), (3, (0, 0, 30, [])), (4, (0, 0, 25, []))], [], (0, 0), [(0, 0, 99973), (1, 6, 25), (0, 0, 100000), (0, 0, 0), (0, 0, 0)], [(1, 3, (Int.negSucc 999999999999), 0), (3, 1, (Int.negSucc 999999999999), 0)], [], [(2, 0, 0, [165]), (0, 0, 79, [])], 0, [], [(20, [2], [60, 2, 2, 75, 31, 32, 33, 34]), (20, [2], [60, 1, 2, 122, 32, 35, 43]), (20, [2, 3], [60, 2, 6, 135, 31, 32, 33, 34, 43, 44, 42, 50]), (20, [2, 3, 4], [60, 0, 1, 137, 50]), (20, [4, 2], [30, (Int.negSucc 0), 1, 0, 0, (Int.negSucc 0), 1, 31]), (20, [2, 3], [50, 1, 0, 49, 1, 3, 2, 0, 49, 1, 1]), (20, [2, 3, 4, 5, 6], [60, 2, 8, 138, 31, 32, 33, 34, 35, 43, 44, 42, 50, 52]), (24, [0, 2], []), (24, [1, 3], [])]), (103, [(0, (2, 0, 0, [165])), (1, (0, 0, 79, [])), (2, (0, 0, 24, [])), (3, (0, 1, 30, [])), (4, (0, 0, 24, [])), (5, (0, 0, 1, [])), (6, (0, 0, 30, []))], [], (0, 0), [(0, 0, 99973), (1, 6, 25), (0, 0, 99897), (1, 8, 30), (0, 0, 100000)], [(1, 3, (Int.negSucc 999999999999), 0), (3, 1, (Int.negSucc 999999999999), 0), (7, 5, (Int.negSucc 999999999999), (Int.negSucc 0)), (8, 5, (Int.negSucc 999999999999), 0)], [], [(2, 0, 0, [165]), (0, 0, 79, [])], 0, [], [(20, [2], [60, 2, 2, 75, 31, 32, 33, 34]), (20, [2], [60, 1, 2, 122, 32, 35, 43]), (20, [2, 3], [60, 2, 6, 135, 31, 32, 33, 34, 43, 44, 42, 50]), (20, [2, 3, 4], [60, 0, 1, 137, 50]), (20, [4, 2], [30, (Int.negSucc 0), 1, 0, 0, (Int.negSucc 0), 1, 31]), (20, [2, 3], [50, 1, 0, 49, 1, 3, 2, 0, 49, 1, 1]), (20, [2, 3, 4, 5, 6], [60, 2, 8, 138, 31, 32, 33, 34, 35, 43, 44, 42, 50, 52]), (20, [2, 3, 4, 6, 5], [60, 3, 8, 140, 31, 32, 45, 33, 34, 35, 43, 44, 42, 50, 46]), (24, [0, 2], []), (24, [1, 3], [])]), (178, [(0, (2, 0, 0, [165])), (1, (0, 0, 79, [])), (2, (0, 0, 24, [])), (3, (0, 0, 30, [])), (4, (0, 0, 24, [])), (5, (0, 1, 1, [])), (6, (0, 0, 30, []))], [], (0, 0), [(0, 0, 99973), (1, 6, 25), (0, 0, 99822), (1, 8, 30), (0, 0, 100000)], [(1, 3, (Int.negSucc 999999999999), 0), (3, 1, (Int.negSucc 999999999999), 0), (8, 5, (Int.negSucc 999999999999), 0)], [], [(2, 0, 0, [165]), (0, 0, 79, [])], 0, [], [(20, [2], [60, 2, 2, 75, 31, 32, 33, 34]), (20, [2], [60, 1, 2, 122, 32, 35, 43]), (20, [2, 3], [60, 2, 6, 135, 31, 32, 33, 34, 43, 44, 42, 50]), (20, [2, 3, 4], [60, 0, 1, 137, 50]), (20, [4, 2], [30, (Int.negSucc 0), 1, 0, 0, (Int.negSucc 0), 1, 31]), (20, [2, 3], [50, 1, 0, 49, 1, 3, 2, 0, 49, 1, 1]), (20, [2, 3, 4, 6, 5, 8], [60, 3, 9, 139, 31, 32, 45, 33, 34, 35, 43, 44, 42, 50, 46, 52]), (24, [0, 2], []), (24, [1, 3], [])]), (223, [(0, (2, 0, 0, [165])), (1, (0, 0, 79, [])), (2, (0, 0, 24, [])), (3, (0, 0, 30, [])), (4, (0, 0, 30, []))], [], (0, 0), [(0, 0, 99777), (1, 6, 30), (0, 0, 100000), (0, 0, 0), (0, 0, 0)], [(1, 3, (Int.negSucc 999999999999), 0), (3, 1, (Int.negSucc 999999999999), 0), (6, 5, (Int.negSucc 999999999999), 0)], [], [(2, 0, 0, [165]), (0, 0, 79, [])], 0, [], [(20, [2], [60, 2, 2, 75, 31, 32, 33, 34]), (20, [2, 3, 4], [60, 0, 1, 137, 50]), (20, [2, 3, 4, 5, 6], [60, 2, 9, 141, 31, 32, 33, 34, 35, 43, 44, 42, 50, 46, 52]), (20, [2], [50, 1, 0, 49, 1, 3, 2, 0, 49, 0, (Int.negSucc 0)]), (20, [2, 5], [50, 1, 0, 45, 1, 3, 2, 0, 45, 1, 1]), (24, [0, 2], []), (24, [1, 3], [])])]
def t_Mo_wayOf_ct : ct_L := [(1, 615, e_Mo_shortest), (1, 665, e_Mo_isEnd)]
set_option maxRecDepth 100000 in
theorem c_Mo_wayOf {l : Launch} {D : va_G} {kA : Nat → ClassId} (h_Mo_isEnd : ct_ok PRD l D kA GG y_Mo_isEnd z_Mo_isEnd e_Mo_isEnd) (h_Mo_shortest : ct_ok PRD l D kA GG y_Mo_shortest z_Mo_shortest e_Mo_shortest) : ct_ok PRD l D kA GG y_Mo_wayOf z_Mo_wayOf e_Mo_wayOf := chk_all_ok (FT := [(90, 13, 46), (102, 13, 52), (594, 13, 31), (619, 13, 45)]) (PT := [(619, 13, 45, .int), (649, 13, 49, .int)]) (CT := t_Mo_wayOf_ct) (KT := []) (NT := []) (AN := n_Mo_wayOf_an) (OT := [o_Mo_wayOf_0, o_Mo_wayOf_1, o_Mo_wayOf_2, o_Mo_wayOf_3, o_Mo_wayOf_4, o_Mo_wayOf_5, o_Mo_wayOf_6, o_Mo_wayOf_7, o_Mo_wayOf_8, o_Mo_wayOf_9, o_Mo_wayOf_10, o_Mo_wayOf_11, o_Mo_wayOf_12, o_Mo_wayOf_13, o_Mo_wayOf_14, o_Mo_wayOf_15, o_Mo_wayOf_16, o_Mo_wayOf_17, o_Mo_wayOf_18, o_Mo_wayOf_19, o_Mo_wayOf_20, o_Mo_wayOf_21, o_Mo_wayOf_22, o_Mo_wayOf_23]) 5 872 (List.forall_mem_cons.mpr ⟨oo_Mo_wayOf_0, List.forall_mem_cons.mpr ⟨oo_Mo_wayOf_1, List.forall_mem_cons.mpr ⟨oo_Mo_wayOf_2, List.forall_mem_cons.mpr ⟨oo_Mo_wayOf_3, List.forall_mem_cons.mpr ⟨oo_Mo_wayOf_4, List.forall_mem_cons.mpr ⟨oo_Mo_wayOf_5, List.forall_mem_cons.mpr ⟨oo_Mo_wayOf_6, List.forall_mem_cons.mpr ⟨oo_Mo_wayOf_7, List.forall_mem_cons.mpr ⟨oo_Mo_wayOf_8, List.forall_mem_cons.mpr ⟨oo_Mo_wayOf_9, List.forall_mem_cons.mpr ⟨oo_Mo_wayOf_10, List.forall_mem_cons.mpr ⟨oo_Mo_wayOf_11, List.forall_mem_cons.mpr ⟨oo_Mo_wayOf_12, List.forall_mem_cons.mpr ⟨oo_Mo_wayOf_13, List.forall_mem_cons.mpr ⟨oo_Mo_wayOf_14, List.forall_mem_cons.mpr ⟨oo_Mo_wayOf_15, List.forall_mem_cons.mpr ⟨oo_Mo_wayOf_16, List.forall_mem_cons.mpr ⟨oo_Mo_wayOf_17, List.forall_mem_cons.mpr ⟨oo_Mo_wayOf_18, List.forall_mem_cons.mpr ⟨oo_Mo_wayOf_19, List.forall_mem_cons.mpr ⟨oo_Mo_wayOf_20, List.forall_mem_cons.mpr ⟨oo_Mo_wayOf_21, List.forall_mem_cons.mpr ⟨oo_Mo_wayOf_22, List.forall_mem_cons.mpr ⟨oo_Mo_wayOf_23, List.forall_mem_nil _⟩⟩⟩⟩⟩⟩⟩⟩⟩⟩⟩⟩⟩⟩⟩⟩⟩⟩⟩⟩⟩⟩⟩⟩) (by decide +kernel) ⟨List.forall_mem_cons.mpr ⟨gf_Mo_90, List.forall_mem_cons.mpr ⟨gf_Mo_102, List.forall_mem_cons.mpr ⟨gf_Mo_594, List.forall_mem_cons.mpr ⟨gf_Mo_619, List.forall_mem_nil _⟩⟩⟩⟩, List.forall_mem_cons.mpr ⟨pf_Mo_619, List.forall_mem_cons.mpr ⟨pf_Mo_649, List.forall_mem_nil _⟩⟩, List.forall_mem_cons.mpr ⟨cl_virtual (y := y_Mo_shortest) (ci := 13) rfl rfl ⟨_, _, rfl⟩ (by decide +kernel) h_Mo_shortest wm_3182 wm_9 wm_3179 wm_3181 wv_15_4 ⟨by decide, by decide, by decide +kernel⟩ (by decide), List.forall_mem_cons.mpr ⟨cl_virtual (y := y_Mo_isEnd) (ci := 13) rfl rfl ⟨_, _, rfl⟩ (by decide +kernel) h_Mo_isEnd wm_3235 wm_9 wm_3232 wm_3234 wv_16_1 ⟨by decide, by decide, by decide +kernel⟩ (by decide), List.forall_mem_nil _⟩⟩, List.forall_mem_nil _, List.forall_mem_nil _, GG_pl⟩ (by decide +kernel)

set_option maxHeartbeats 4000000 in
theorem vc_Em_beginBlock_at_gn_0_0 (x1 : Int) (x3 : Int) (x5 : Int) (x6 : Int) (x8 : Int) (blockNodes_0 : Int) (edges_0o2 : Int) (tail_0o2 : Int → Int) (head_0o2 : Int → Int) (near_0o2 : Int → Int) (nodes_0o2 : Int) (block_0 : Int → Int) (tail_1o2 : Int → Int) (head_1o2 : Int → Int) (near_1o2 : Int → Int) (nodes_1o2 : Int) (edges_1o2 : Int) (block_1 : Int → Int) (k1 : 0 ≤ x1 ∧ x1 ≤ 71) (k3 : (-1) ≤ x3 ∧ x3 ≤ (-1)) (k5 : 0 ≤ x5 ∧ x5 ≤ 0) (k6 : 0 ≤ x6 ∧ x6 ≤ 72) (k8 : (-1) ≤ x8 ∧ x8 ≤ 71) (d0 : x6 + (-1) ≤ x8 ∧ x8 ≤ x6 + (-1)) (g0 : x5 = blockNodes_0) (g2 : x6 = edges_0o2) (f7 : HSB (edges_1o2) (block_1) (x1)) (fe_2_5_1 : nodes_0o2 = nodes_1o2) (fe_2_6_1 : edges_0o2 = edges_1o2) (hE_0_2_1 : ∀ j : Int, block_0 j = block_1 j) (hE_2_7_1 : ∀ j : Int, tail_0o2 j = tail_1o2 j) (hE_2_8_1 : ∀ j : Int, head_0o2 j = head_1o2 j) (hE_2_9_1 : ∀ j : Int, near_0o2 j = near_1o2 j) (kz_0_5 : 0 ≤ blockNodes_0 ∧ blockNodes_0 ≤ 33554431) (kz_2_5 : 0 ≤ nodes_0o2 ∧ nodes_0o2 ≤ 24) (kz_2_6 : 0 ≤ edges_0o2 ∧ edges_0o2 ≤ 72) : BBI (blockNodes_0) (nodes_0o2) (edges_0o2) (block_0) (tail_0o2) (head_0o2) (x1) (x3) (x8) := by
  subst fe_2_5_1
  subst fe_2_6_1
  have e_hE_0_2_1 := funext hE_0_2_1; subst e_hE_0_2_1
  have e_hE_2_7_1 := funext hE_2_7_1; subst e_hE_2_7_1
  have e_hE_2_8_1 := funext hE_2_8_1; subst e_hE_2_8_1
  have e_hE_2_9_1 := funext hE_2_9_1; subst e_hE_2_9_1
  first
    | exact bbi_start (by omega) ‹HSB _ _ _› (by omega) (by omega) (by omega)
def o_Em_beginBlock_at_gn_0 : or_T := (20, 9, [(0, (2, 0, 0, [1])), (1, (0, 0, 71, [])), (2, (2, 0, 0, [5])), (3, (0, -1, -1, [])), (5, (0, 0, 0, [])), (6, (0, 0, 72, [])), (8, (0, -1, 71, []))], [(9, [5, 0], [5]), (9, [6, 2], [6]), (101, [0, 5], [5]), (20, [0, 2, 1], [60, 1, 1, 597, 1006, 2])], [], [], [(20, [0, 2, 1, 3, 8], [60, 3, 3, 601, 5, 1005, 1006, 2, 1007, 1008]), (24, [2, 2], []), (24, [0, 0], []), (24, [1, 1], [])], [], [(8, 6, -1, -1)])
theorem oo_Em_beginBlock_at_gn_0 {kA : Nat → ClassId} : or_ok PRD kA GG o_Em_beginBlock_at_gn_0 := by
  refine or_mk fun A ta ws vs hD hth hl => ?_
  intro t0 r0 t1 k1 t2 r2 t3 k3 t5 k5 t6 k6 t8 k8 d0 f0 f2 ta1 w1 le1 s1 f7
  replace f0 := shm_110 f0
  replace f2 := shm_111 f2
  have s1 : (∀ b j, w_el ws b j = w_el w1 b j) ∧ ∀ b j, w_fd ws b j = if b = v_ad (n_v vs 0) ∧ j = 5 then n_v vs 5 else w_fd w1 b j := s1.2
  replace f7 := shm_1680 f7
  have ar_0_2_1 : w_ar w1 (n_v vs 0) 2 = w_ar ws (n_v vs 0) 2 := by show v_ad (w_fd w1 _ _) = v_ad (w_fd ws _ _); rw [s1.2, if_neg (fun e => absurd e.2 (by decide))]
  have ar_2_7_1 : w_ar w1 (n_v vs 2) 7 = w_ar ws (n_v vs 2) 7 := by show v_ad (w_fd w1 _ _) = v_ad (w_fd ws _ _); rw [s1.2, if_neg (fun e => absurd e.2 (by decide))]
  have ar_2_8_1 : w_ar w1 (n_v vs 2) 8 = w_ar ws (n_v vs 2) 8 := by show v_ad (w_fd w1 _ _) = v_ad (w_fd ws _ _); rw [s1.2, if_neg (fun e => absurd e.2 (by decide))]
  have ar_2_9_1 : w_ar w1 (n_v vs 2) 9 = w_ar ws (n_v vs 2) 9 := by show v_ad (w_fd w1 _ _) = v_ad (w_fd ws _ _); rw [s1.2, if_neg (fun e => absurd e.2 (by decide))]
  have g0 : v_iv (n_v vs 5) = w_fi ws (n_v vs 0) 5 := congrArg v_iv f0
  have g2 : v_iv (n_v vs 6) = w_fi ws (n_v vs 2) 6 := congrArg v_iv f2
  simp only [ar_2_7_1, ar_2_8_1, ar_2_9_1, ar_0_2_1] at f7
  have fe_2_5_1 : w_fi ws (n_v vs 2) 5 = w_fi w1 (n_v vs 2) 5 := by show v_iv (w_fd _ _ _) = v_iv (w_fd _ _ _); rw [s1.2, if_neg (fun e => by have e1 := e.1; have e2 := r2; rw [e1, r0] at e2; exact absurd (Option.some.inj e2) (by decide))]
  have fe_2_6_1 : w_fi ws (n_v vs 2) 6 = w_fi w1 (n_v vs 2) 6 := by show v_iv (w_fd _ _ _) = v_iv (w_fd _ _ _); rw [s1.2, if_neg (fun e => absurd e.2 (by decide))]
  have hE_0_2_1 : ∀ j : Int, w_ei ws (w_ar ws (n_v vs 0) 2) j = w_ei w1 (w_ar ws (n_v vs 0) 2) j := fun j => s1.1 _ _
  have hE_2_7_1 : ∀ j : Int, w_ei ws (w_ar ws (n_v vs 2) 7) j = w_ei w1 (w_ar ws (n_v vs 2) 7) j := fun j => s1.1 _ _
  have hE_2_8_1 : ∀ j : Int, w_ei ws (w_ar ws (n_v vs 2) 8) j = w_ei w1 (w_ar ws (n_v vs 2) 8) j := fun j => s1.1 _ _
  have hE_2_9_1 : ∀ j : Int, w_ei ws (w_ar ws (n_v vs 2) 9) j = w_ei w1 (w_ar ws (n_v vs 2) 9) j := fun j => s1.1 _ _
  have kz_0_5 := fdq_283 hD hth r0
  have kz_2_5 := fdq_82 hD hth r2
  have kz_2_6 := fdq_59 hD hth r2
  have nf0 : fc_1 PRD (20, [0, 2, 1, 3, 8], [60, 3, 3, 601, 5, 1005, 1006, 2, 1007, 1008]) ws (vs) := ⟨nf_in hl rfl, sgq_1681 (vc_Em_beginBlock_at_gn_0_0 (v_iv (n_v vs 1)) (v_iv (n_v vs 3)) (v_iv (n_v vs 5)) (v_iv (n_v vs 6)) (v_iv (n_v vs 8)) (w_fi ws (n_v vs 0) 5) (w_fi ws (n_v vs 2) 6) (w_ei ws (w_ar ws (n_v vs 2) 7)) (w_ei ws (w_ar ws (n_v vs 2) 8)) (w_ei ws (w_ar ws (n_v vs 2) 9)) (w_fi ws (n_v vs 2) 5) (w_ei ws (w_ar ws (n_v vs 0) 2)) (w_ei w1 (w_ar ws (n_v vs 2) 7)) (w_ei w1 (w_ar ws (n_v vs 2) 8)) (w_ei w1 (w_ar ws (n_v vs 2) 9)) (w_fi w1 (n_v vs 2) 5) (w_fi w1 (n_v vs 2) 6) (w_ei w1 (w_ar ws (n_v vs 0) 2)) k1 k3 k5 k6 k8 d0 g0 g2 f7 fe_2_5_1 fe_2_6_1 hE_0_2_1 hE_2_7_1 hE_2_8_1 hE_2_9_1 kz_0_5 kz_2_5 kz_2_6)⟩
  have nf1 : fc_1 PRD (24, [2, 2], []) ws (vs) := by
    refine ⟨nf_in hl rfl, sgq_1 ?_⟩
    · show n_v vs 2 = n_v vs 2
      first | rfl | simp only [true_and]
  have nf2 : fc_1 PRD (24, [0, 0], []) ws (vs) := by
    refine ⟨nf_in hl rfl, sgq_1 ?_⟩
    · show n_v vs 0 = n_v vs 0
      first | rfl | simp only [true_and]
  have nf3 : fc_1 PRD (24, [1, 1], []) ws (vs) := by
    refine ⟨nf_in hl rfl, sgq_1 ?_⟩
    · show n_v vs 1 = n_v vs 1
      first | rfl | simp only [true_and]
  refine ⟨(fun _ h => (by cases h)), [], trivial, ?_, (fun _ h => (by cases h))⟩
  rw [List.append_nil]
  exact List.forall_mem_cons.mpr ⟨⟨show (20 : Nat) < 100 from by decide, nf0⟩, List.forall_mem_cons.mpr ⟨⟨show (24 : Nat) < 100 from by decide, nf1⟩, List.forall_mem_cons.mpr ⟨⟨show (24 : Nat) < 100 from by decide, nf2⟩, List.forall_mem_cons.mpr ⟨⟨show (24 : Nat) < 100 from by decide, nf3⟩, (fun _ h => (by cases h))⟩⟩⟩⟩
set_option maxHeartbeats 4000000 in
theorem vc_Em_beginBlock_at_gn_1_r0 (x1 : Int) (x5 : Int) (x7 : Int) (blockNodes_0 : Int) (block_0 : Int → Int) (tail_0o2 : Int → Int) (head_0o2 : Int → Int) (nodes_0o2 : Int) (edges_0o2 : Int) (near_0o2 : Int → Int) (block_1 : Int → Int) (tail_1o2 : Int → Int) (head_1o2 : Int → Int) (blockNodes_1 : Int) (nodes_1o2 : Int) (edges_1o2 : Int) (near_1o2 : Int → Int) (k1 : 0 ≤ x1 ∧ x1 ≤ 71) (k5 : (-1) ≤ x5 ∧ x5 ≤ 71) (k7 : (-1) ≤ x7 ∧ x7 ≤ (-1)) (f8 : x7 < 0) (f9 : BBI (blockNodes_1) (nodes_1o2) (edges_1o2) (block_1) (tail_1o2) (head_1o2) (x1) (x5) (x7)) (fe_0_5_1 : blockNodes_0 = blockNodes_1) (fe_2_5_1 : nodes_0o2 = nodes_1o2) (fe_2_6_1 : edges_0o2 = edges_1o2) (hE_0_2_1 : ∀ j : Int, block_0 j = block_1 j) (hE_2_7_1 : ∀ j : Int, tail_0o2 j = tail_1o2 j) (hE_2_8_1 : ∀ j : Int, head_0o2 j = head_1o2 j) (hE_2_9_1 : ∀ j : Int, near_0o2 j = near_1o2 j) (kz_0_5 : 0 ≤ blockNodes_0 ∧ blockNodes_0 ≤ 33554431) (kz_2_5 : 0 ≤ nodes_0o2 ∧ nodes_0o2 ≤ 24) (kz_2_6 : 0 ≤ edges_0o2 ∧ edges_0o2 ≤ 72) : 0 ≤ x5 ∧ x5 ≤ 71 := by
  subst fe_0_5_1
  subst fe_2_5_1
  subst fe_2_6_1
  have e_hE_0_2_1 := funext hE_0_2_1; subst e_hE_0_2_1
  have e_hE_2_7_1 := funext hE_2_7_1; subst e_hE_2_7_1
  have e_hE_2_8_1 := funext hE_2_8_1; subst e_hE_2_8_1
  have e_hE_2_9_1 := funext hE_2_9_1; subst e_hE_2_9_1
  first
    | (have q := bbi_has ‹BBI _ _ _ _ _ _ _ _ _› (by omega); omega)
def o_Em_beginBlock_at_gn_1 : or_T := (130, 13, [(0, (2, 0, 0, [1])), (1, (0, 0, 71, [])), (2, (2, 0, 0, [5])), (3, (2, 0, 0, [1])), (4, (0, 0, 71, [])), (5, (0, -1, 71, [])), (7, (0, -1, -1, [])), (8, (0, 0, 16777215, [])), (9, (2, 0, 0, [5])), (12, (2, 0, 0, [80]))], [(9, [8, 3], [5]), (9, [12, 9], [7]), (20, [3, 9, 4, 5, 7], [60, 3, 3, 601, 5, 1005, 1006, 2, 1007, 1008]), (20, [9], [60, 2, 3, 595, 5, 6, 7, 8, 9]), (24, [2, 9], []), (24, [0, 3], []), (24, [1, 4], []), (101, [3, 10], [7]), (8, [7], [2]), (20, [3, 9, 4, 5, 7], [60, 3, 3, 601, 5, 1005, 1006, 2, 1007, 1008]), (20, [9], [60, 2, 3, 595, 5, 6, 7, 8, 9])], [(5, (0, 0, 71, []))], [], [], [], [(1, 4, -4294967296, 0), (4, 1, -4294967296, 0), (8, 5, -4294967296, 16777215)])
theorem oo_Em_beginBlock_at_gn_1 {kA : Nat → ClassId} : or_ok PRD kA GG o_Em_beginBlock_at_gn_1 := by
  refine or_mk fun A ta ws vs hD hth hl => ?_
  intro t0 r0 t1 k1 t2 r2 t3 r3 t4 k4 t5 k5 t7 k7 t8 k8 t9 r9 t12 r12 d0 d1 d2 f0 f1 f2 f3 f4 f5 f6 ta1 w1 le1 s1 f8 f9 f10
  replace f4 := shm_5 f4
  replace f5 := shm_5 f5
  replace f6 := shm_5 f6
  have s1 : (∀ b j, w_el ws b j = w_el w1 b j) ∧ ∀ b j, w_fd ws b j = if b = v_ad (n_v vs 3) ∧ j = 7 then n_v vs 10 else w_fd w1 b j := s1.2
  replace f9 := shm_1681 f9
  have q9 : n_v vs 9 = n_v vs 2 := f4.symm
  have q3 : n_v vs 3 = n_v vs 0 := f5.symm
  have q4 : n_v vs 4 = n_v vs 1 := f6.symm
  rw [q3] at s1
  simp only [q9, q3, q4] at f9
  have ar_0_2_1 : w_ar w1 (n_v vs 0) 2 = w_ar ws (n_v vs 0) 2 := by show v_ad (w_fd w1 _ _) = v_ad (w_fd ws _ _); rw [s1.2, if_neg (fun e => absurd e.2 (by decide))]
  have ar_2_7_1 : w_ar w1 (n_v vs 2) 7 = w_ar ws (n_v vs 2) 7 := by show v_ad (w_fd w1 _ _) = v_ad (w_fd ws _ _); rw [s1.2, if_neg (fun e => by have e1 := e.1; have e2 := r2; rw [e1, r0] at e2; exact absurd (Option.some.inj e2) (by decide))]
  have ar_2_8_1 : w_ar w1 (n_v vs 2) 8 = w_ar ws (n_v vs 2) 8 := by show v_ad (w_fd w1 _ _) = v_ad (w_fd ws _ _); rw [s1.2, if_neg (fun e => absurd e.2 (by decide))]
  have ar_2_9_1 : w_ar w1 (n_v vs 2) 9 = w_ar ws (n_v vs 2) 9 := by show v_ad (w_fd w1 _ _) = v_ad (w_fd ws _ _); rw [s1.2, if_neg (fun e => absurd e.2 (by decide))]
  simp only [ar_0_2_1, ar_2_7_1, ar_2_8_1, ar_2_9_1] at f9
  have fe_0_5_1 : w_fi ws (n_v vs 0) 5 = w_fi w1 (n_v vs 0) 5 := by show v_iv (w_fd _ _ _) = v_iv (w_fd _ _ _); rw [s1.2, if_neg (fun e => absurd e.2 (by decide))]
  have fe_2_5_1 : w_fi ws (n_v vs 2) 5 = w_fi w1 (n_v vs 2) 5 := by show v_iv (w_fd _ _ _) = v_iv (w_fd _ _ _); rw [s1.2, if_neg (fun e => absurd e.2 (by decide))]
  have fe_2_6_1 : w_fi ws (n_v vs 2) 6 = w_fi w1 (n_v vs 2) 6 := by show v_iv (w_fd _ _ _) = v_iv (w_fd _ _ _); rw [s1.2, if_neg (fun e => absurd e.2 (by decide))]
  have hE_0_2_1 : ∀ j : Int, w_ei ws (w_ar ws (n_v vs 0) 2) j = w_ei w1 (w_ar ws (n_v vs 0) 2) j := fun j => s1.1 _ _
  have hE_2_7_1 : ∀ j : Int, w_ei ws (w_ar ws (n_v vs 2) 7) j = w_ei w1 (w_ar ws (n_v vs 2) 7) j := fun j => s1.1 _ _
  have hE_2_8_1 : ∀ j : Int, w_ei ws (w_ar ws (n_v vs 2) 8) j = w_ei w1 (w_ar ws (n_v vs 2) 8) j := fun j => s1.1 _ _
  have hE_2_9_1 : ∀ j : Int, w_ei ws (w_ar ws (n_v vs 2) 9) j = w_ei w1 (w_ar ws (n_v vs 2) 9) j := fun j => s1.1 _ _
  have kz_0_5 := fdq_283 hD hth r0
  have kz_2_5 := fdq_82 hD hth r2
  have kz_2_6 := fdq_59 hD hth r2
  have hrf0 : 0 ≤ v_iv (n_v vs 5) ∧ v_iv (n_v vs 5) ≤ 71 := vc_Em_beginBlock_at_gn_1_r0 (v_iv (n_v vs 1)) (v_iv (n_v vs 5)) (v_iv (n_v vs 7)) (w_fi ws (n_v vs 0) 5) (w_ei ws (w_ar ws (n_v vs 0) 2)) (w_ei ws (w_ar ws (n_v vs 2) 7)) (w_ei ws (w_ar ws (n_v vs 2) 8)) (w_fi ws (n_v vs 2) 5) (w_fi ws (n_v vs 2) 6) (w_ei ws (w_ar ws (n_v vs 2) 9)) (w_ei w1 (w_ar ws (n_v vs 0) 2)) (w_ei w1 (w_ar ws (n_v vs 2) 7)) (w_ei w1 (w_ar ws (n_v vs 2) 8)) (w_fi w1 (n_v vs 0) 5) (w_fi w1 (n_v vs 2) 5) (w_fi w1 (n_v vs 2) 6) (w_ei w1 (w_ar ws (n_v vs 2) 9)) k1 k5 k7 (shm_39 f8) f9 fe_0_5_1 fe_2_5_1 fe_2_6_1 hE_0_2_1 hE_2_7_1 hE_2_8_1 hE_2_9_1 kz_0_5 kz_2_5 kz_2_6
  have rf5 : tv_ok ta (0, 0, 71, []) (n_v vs 5) := tv_in t5 (by first | omega | grind) (by first | omega | grind)
  refine ⟨List.forall_mem_cons.mpr ⟨rf5, (fun _ h => (by cases h))⟩, [], trivial, ?_, (fun _ h => (by cases h))⟩
  rw [List.append_nil]
  exact (fun _ h => (by cases h))
set_option maxHeartbeats 4000000 in
theorem vc_Em_beginBlock_at_gn_2_0 (x1 : Int) (x5 : Int) (x7 : Int) (nodes_0o2 : Int) (blockNodes_0 : Int) (head_0o2 : Int → Int) (tail_0o2 : Int → Int) (block_0 : Int → Int) (edges_0o2 : Int) (near_0o2 : Int → Int) (block_1 : Int → Int) (tail_1o2 : Int → Int) (head_1o2 : Int → Int) (blockNodes_1 : Int) (nodes_1o2 : Int) (edges_1o2 : Int) (near_1o2 : Int → Int) (k1 : 0 ≤ x1 ∧ x1 ≤ 71) (k5 : 0 ≤ x5 ∧ x5 ≤ 71) (k7 : (-1) ≤ x7 ∧ x7 ≤ (-1)) (f20 : x7 < 0) (f21 : BBI (blockNodes_1) (nodes_1o2) (edges_1o2) (block_1) (tail_1o2) (head_1o2) (x1) (x5) (x7)) (fe_0_5_1 : blockNodes_0 = blockNodes_1) (fe_2_5_1 : nodes_0o2 = nodes_1o2) (fe_2_6_1 : edges_0o2 = edges_1o2) (hE_0_2_1 : ∀ j : Int, block_0 j = block_1 j) (hE_2_7_1 : ∀ j : Int, tail_0o2 j = tail_1o2 j) (hE_2_8_1 : ∀ j : Int, head_0o2 j = head_1o2 j) (hE_2_9_1 : ∀ j : Int, near_0o2 j = near_1o2 j) (kz_0_5 : 0 ≤ blockNodes_0 ∧ blockNodes_0 ≤ 33554431) (kz_2_5 : 0 ≤ nodes_0o2 ∧ nodes_0o2 ≤ 24) (kz_2_6 : 0 ≤ edges_0o2 ∧ edges_0o2 ≤ 72) : BLN (blockNodes_0) (nodes_0o2) (edges_0o2) (block_0) (tail_0o2) (head_0o2) (x1) := by
  subst fe_0_5_1
  subst fe_2_5_1
  subst fe_2_6_1
  have e_hE_0_2_1 := funext hE_0_2_1; subst e_hE_0_2_1
  have e_hE_2_7_1 := funext hE_2_7_1; subst e_hE_2_7_1
  have e_hE_2_8_1 := funext hE_2_8_1; subst e_hE_2_8_1
  have e_hE_2_9_1 := funext hE_2_9_1; subst e_hE_2_9_1
  first
    | exact bln_of ‹BBI _ _ _ _ _ _ _ _ _› (by omega)
set_option maxHeartbeats 4000000 in
theorem vc_Em_beginBlock_at_gn_2_1 (x1 : Int) (x5 : Int) (x7 : Int) (x13 : Int) (nodes_0o2 : Int) (blockNodes_0 : Int) (head_0o2 : Int → Int) (tail_0o2 : Int → Int) (block_0 : Int → Int) (edges_0o2 : Int) (near_0o2 : Int → Int) (block_1 : Int → Int) (tail_1o2 : Int → Int) (head_1o2 : Int → Int) (blockNodes_1 : Int) (nodes_1o2 : Int) (edges_1o2 : Int) (near_1o2 : Int → Int) (k1 : 0 ≤ x1 ∧ x1 ≤ 71) (k5 : 0 ≤ x5 ∧ x5 ≤ 71) (k7 : (-1) ≤ x7 ∧ x7 ≤ (-1)) (k13 : 0 ≤ x13 ∧ x13 ≤ 23) (h12 : x13 = tail_0o2 (x5)) (f20 : x7 < 0) (f21 : BBI (blockNodes_1) (nodes_1o2) (edges_1o2) (block_1) (tail_1o2) (head_1o2) (x1) (x5) (x7)) (fe_0_5_1 : blockNodes_0 = blockNodes_1) (fe_2_5_1 : nodes_0o2 = nodes_1o2) (fe_2_6_1 : edges_0o2 = edges_1o2) (hE_0_2_1 : ∀ j : Int, block_0 j = block_1 j) (hE_2_7_1 : ∀ j : Int, tail_0o2 j = tail_1o2 j) (hE_2_8_1 : ∀ j : Int, head_0o2 j = head_1o2 j) (hE_2_9_1 : ∀ j : Int, near_0o2 j = near_1o2 j) (kz_0_5 : 0 ≤ blockNodes_0 ∧ blockNodes_0 ≤ 33554431) (kz_2_5 : 0 ≤ nodes_0o2 ∧ nodes_0o2 ≤ 24) (kz_2_6 : 0 ≤ edges_0o2 ∧ edges_0o2 ≤ 72) : BTN (blockNodes_0) (x13) := by
  subst fe_0_5_1
  subst fe_2_5_1
  subst fe_2_6_1
  have e_hE_0_2_1 := funext hE_0_2_1; subst e_hE_0_2_1
  have e_hE_2_7_1 := funext hE_2_7_1; subst e_hE_2_7_1
  have e_hE_2_8_1 := funext hE_2_8_1; subst e_hE_2_8_1
  have e_hE_2_9_1 := funext hE_2_9_1; subst e_hE_2_9_1
  first
    | (have he := bbi_has ‹BBI _ _ _ _ _ _ _ _ _› (by omega); have hb := bln_of ‹BBI _ _ _ _ _ _ _ _ _› (by omega); rw [show x13 = tail_0o2 x5 by omega]; exact (hb.1 x5 he.1 he.2.1 he.2.2).1)
  
set_option maxHeartbeats 4000000 in
theorem vc_Em_beginBlock_at_gn_2_2 (x1 : Int) (x5 : Int) (x7 : Int) (x8 : Int) (x13 : Int) (x15 : Int) (x16 : Int) (x17 : Int) (x18 : Int) (x19 : Int) (x20 : Int) (x21 : Int) (x22 : Int) (x23 : Int) (x24 : Int) (x25 : Int) (x27 : Int) (x28 : Int) (x29 : Int) (nodes_0o2 : Int) (blockNodes_0 : Int) (head_0o2 : Int → Int) (tail_0o2 : Int → Int) (block_0 : Int → Int) (edges_0o2 : Int) (near_0o2 : Int → Int) (block_1 : Int → Int) (tail_1o2 : Int → Int) (head_1o2 : Int → Int) (blockNodes_1 : Int) (nodes_1o2 : Int) (edges_1o2 : Int) (near_1o2 : Int → Int) (k1 : 0 ≤ x1 ∧ x1 ≤ 71) (k5 : 0 ≤ x5 ∧ x5 ≤ 71) (k7 : (-1) ≤ x7 ∧ x7 ≤ (-1)) (k8 : 0 ≤ x8 ∧ x8 ≤ 16777215) (k13 : 0 ≤ x13 ∧ x13 ≤ 23) (k15 : 0 ≤ x15 ∧ x15 ≤ 23) (k16 : 1 ≤ x16 ∧ x16 ≤ 1) (k17 : 1 ≤ x17 ∧ x17 ≤ 8388608) (k18 : (-1) ≤ x18 ∧ x18 ≤ (-1)) (k19 : (-2147483648) ≤ x19 ∧ x19 ≤ 2147483647) (k20 : 0 ≤ x20 ∧ x20 ≤ 16777215) (k21 : 1 ≤ x21 ∧ x21 ≤ 1) (k22 : 1 ≤ x22 ∧ x22 ≤ 8388608) (k23 : (-1) ≤ x23 ∧ x23 ≤ (-1)) (k24 : (-2147483648) ≤ x24 ∧ x24 ≤ 2147483647) (k25 : 0 ≤ x25 ∧ x25 ≤ 16777215) (k27 : 0 ≤ x27 ∧ x27 ≤ 24) (k28 : 1 ≤ x28 ∧ x28 ≤ 1) (k29 : 1 ≤ x29 ∧ x29 ≤ 8388608) (f0 : bvp (x29) = bvp (x28) <<< (x13).toNat) (g1 : x27 = nodes_0o2) (f3 : bvp (x25) = bvp (x20) &&& bvp (x24)) (f4 : bvp (x24) = bvp (x22) ^^^ bvp (x23)) (f5 : bvp (x22) = bvp (x21) <<< (x15).toNat) (f6 : bvp (x20) = bvp (x8) &&& bvp (x19)) (f7 : bvp (x19) = bvp (x17) ^^^ bvp (x18)) (f8 : bvp (x17) = bvp (x16) <<< (x13).toNat) (g9 : x8 = blockNodes_0) (h10 : x15 = head_0o2 (x5)) (h12 : x13 = tail_0o2 (x5)) (f20 : x7 < 0) (f21 : BBI (blockNodes_1) (nodes_1o2) (edges_1o2) (block_1) (tail_1o2) (head_1o2) (x1) (x5) (x7)) (f22 : NOK (nodes_1o2) (edges_1o2) (tail_1o2) (head_1o2) (near_1o2)) (fe_0_5_1 : blockNodes_0 = blockNodes_1) (fe_2_5_1 : nodes_0o2 = nodes_1o2) (fe_2_6_1 : edges_0o2 = edges_1o2) (hE_0_2_1 : ∀ j : Int, block_0 j = block_1 j) (hE_2_7_1 : ∀ j : Int, tail_0o2 j = tail_1o2 j) (hE_2_8_1 : ∀ j : Int, head_0o2 j = head_1o2 j) (hE_2_9_1 : ∀ j : Int, near_0o2 j = near_1o2 j) (kz_0_5 : 0 ≤ blockNodes_0 ∧ blockNodes_0 ≤ 33554431) (kz_2_5 : 0 ≤ nodes_0o2 ∧ nodes_0o2 ≤ 24) (kz_2_6 : 0 ≤ edges_0o2 ∧ edges_0o2 ≤ 72) : RFR (x13) (x15) (x25) (x29) (x27) := by
  subst fe_0_5_1
  subst fe_2_5_1
  subst fe_2_6_1
  have e_hE_0_2_1 := funext hE_0_2_1; subst e_hE_0_2_1
  have e_hE_2_7_1 := funext hE_2_7_1; subst e_hE_2_7_1
  have e_hE_2_8_1 := funext hE_2_8_1; subst e_hE_2_8_1
  have e_hE_2_9_1 := funext hE_2_9_1; subst e_hE_2_9_1
  first
    | (have o1 : x16 = 1 := by omega
       have o2 : x21 = 1 := by omega
       have o3 : x28 = 1 := by omega
       subst o1 o2 o3
       rw [‹x27 = nodes_0o2›]
       have hb := bln_of ‹BBI _ _ _ _ _ _ _ _ _› (by omega)
       rw [← ‹x8 = blockNodes_0›] at hb
       have he := bbi_has ‹BBI _ _ _ _ _ _ _ _ _› (by omega)
       have hn := (‹NOK _ _ _ _ _›).1 x5 he.1 he.2.1
       have q := bln_free (t := x13) (h := x15) (q1 := x17) (q2 := x22) (r1 := x19) (r2 := x24) (f1 := x20) (f2 := x25) (m1 := x18) (m2 := x23) hb (by omega) (by omega) (by assumption) (by assumption) (by omega) (by assumption) (by assumption) (by assumption) (by omega) (by assumption)
       exact ⟨q.1, q.2, by omega, by omega, by omega, by omega, by omega, by assumption, by omega⟩)
  
set_option maxHeartbeats 4000000 in
theorem vc_Em_beginBlock_at_gn_2_3 (x27 : Int) (nodes_0o2 : Int) (blockNodes_0 : Int) (head_0o2 : Int → Int) (tail_0o2 : Int → Int) (block_0 : Int → Int) (edges_0o2 : Int) (near_0o2 : Int → Int) (block_1 : Int → Int) (tail_1o2 : Int → Int) (head_1o2 : Int → Int) (blockNodes_1 : Int) (nodes_1o2 : Int) (edges_1o2 : Int) (near_1o2 : Int → Int) (k27 : 0 ≤ x27 ∧ x27 ≤ 24) (g1 : x27 = nodes_0o2) (f22 : NOK (nodes_1o2) (edges_1o2) (tail_1o2) (head_1o2) (near_1o2)) (fe_0_5_1 : blockNodes_0 = blockNodes_1) (fe_2_5_1 : nodes_0o2 = nodes_1o2) (fe_2_6_1 : edges_0o2 = edges_1o2) (hE_0_2_1 : ∀ j : Int, block_0 j = block_1 j) (hE_2_7_1 : ∀ j : Int, tail_0o2 j = tail_1o2 j) (hE_2_8_1 : ∀ j : Int, head_0o2 j = head_1o2 j) (hE_2_9_1 : ∀ j : Int, near_0o2 j = near_1o2 j) (kz_0_5 : 0 ≤ blockNodes_0 ∧ blockNodes_0 ≤ 33554431) (kz_2_5 : 0 ≤ nodes_0o2 ∧ nodes_0o2 ≤ 24) (kz_2_6 : 0 ≤ edges_0o2 ∧ edges_0o2 ≤ 72) : SYMN (near_0o2) (x27) := by
  subst fe_0_5_1
  subst fe_2_5_1
  subst fe_2_6_1
  have e_hE_0_2_1 := funext hE_0_2_1; subst e_hE_0_2_1
  have e_hE_2_7_1 := funext hE_2_7_1; subst e_hE_2_7_1
  have e_hE_2_8_1 := funext hE_2_8_1; subst e_hE_2_8_1
  have e_hE_2_9_1 := funext hE_2_9_1; subst e_hE_2_9_1
  first
    | (rw [‹x27 = nodes_0o2›]; exact nok_symn ‹NOK _ _ _ _ _› (by omega))
  
set_option maxHeartbeats 4000000 in
theorem vc_Em_beginBlock_at_gn_2_4 (x1 : Int) (x5 : Int) (x7 : Int) (x8 : Int) (x13 : Int) (x15 : Int) (x16 : Int) (x17 : Int) (x18 : Int) (x19 : Int) (x20 : Int) (x21 : Int) (x22 : Int) (x23 : Int) (x24 : Int) (x25 : Int) (x27 : Int) (nodes_0o2 : Int) (blockNodes_0 : Int) (head_0o2 : Int → Int) (tail_0o2 : Int → Int) (block_0 : Int → Int) (edges_0o2 : Int) (near_0o2 : Int → Int) (block_1 : Int → Int) (tail_1o2 : Int → Int) (head_1o2 : Int → Int) (blockNodes_1 : Int) (nodes_1o2 : Int) (edges_1o2 : Int) (near_1o2 : Int → Int) (k1 : 0 ≤ x1 ∧ x1 ≤ 71) (k5 : 0 ≤ x5 ∧ x5 ≤ 71) (k7 : (-1) ≤ x7 ∧ x7 ≤ (-1)) (k8 : 0 ≤ x8 ∧ x8 ≤ 16777215) (k13 : 0 ≤ x13 ∧ x13 ≤ 23) (k15 : 0 ≤ x15 ∧ x15 ≤ 23) (k16 : 1 ≤ x16 ∧ x16 ≤ 1) (k17 : 1 ≤ x17 ∧ x17 ≤ 8388608) (k18 : (-1) ≤ x18 ∧ x18 ≤ (-1)) (k19 : (-2147483648) ≤ x19 ∧ x19 ≤ 2147483647) (k20 : 0 ≤ x20 ∧ x20 ≤ 16777215) (k21 : 1 ≤ x21 ∧ x21 ≤ 1) (k22 : 1 ≤ x22 ∧ x22 ≤ 8388608) (k23 : (-1) ≤ x23 ∧ x23 ≤ (-1)) (k24 : (-2147483648) ≤ x24 ∧ x24 ≤ 2147483647) (k25 : 0 ≤ x25 ∧ x25 ≤ 16777215) (k27 : 0 ≤ x27 ∧ x27 ≤ 24) (g1 : x27 = nodes_0o2) (f3 : bvp (x25) = bvp (x20) &&& bvp (x24)) (f4 : bvp (x24) = bvp (x22) ^^^ bvp (x23)) (f5 : bvp (x22) = bvp (x21) <<< (x15).toNat) (f6 : bvp (x20) = bvp (x8) &&& bvp (x19)) (f7 : bvp (x19) = bvp (x17) ^^^ bvp (x18)) (f8 : bvp (x17) = bvp (x16) <<< (x13).toNat) (g9 : x8 = blockNodes_0) (h10 : x15 = head_0o2 (x5)) (h12 : x13 = tail_0o2 (x5)) (f20 : x7 < 0) (f21 : BBI (blockNodes_1) (nodes_1o2) (edges_1o2) (block_1) (tail_1o2) (head_1o2) (x1) (x5) (x7)) (f22 : NOK (nodes_1o2) (edges_1o2) (tail_1o2) (head_1o2) (near_1o2)) (fe_0_5_1 : blockNodes_0 = blockNodes_1) (fe_2_5_1 : nodes_0o2 = nodes_1o2) (fe_2_6_1 : edges_0o2 = edges_1o2) (hE_0_2_1 : ∀ j : Int, block_0 j = block_1 j) (hE_2_7_1 : ∀ j : Int, tail_0o2 j = tail_1o2 j) (hE_2_8_1 : ∀ j : Int, head_0o2 j = head_1o2 j) (hE_2_9_1 : ∀ j : Int, near_0o2 j = near_1o2 j) (kz_0_5 : 0 ≤ blockNodes_0 ∧ blockNodes_0 ≤ 33554431) (kz_2_5 : 0 ≤ nodes_0o2 ∧ nodes_0o2 ≤ 24) (kz_2_6 : 0 ≤ edges_0o2 ∧ edges_0o2 ≤ 72) : FRN (x27) (x25) := by
  subst fe_0_5_1
  subst fe_2_5_1
  subst fe_2_6_1
  have e_hE_0_2_1 := funext hE_0_2_1; subst e_hE_0_2_1
  have e_hE_2_7_1 := funext hE_2_7_1; subst e_hE_2_7_1
  have e_hE_2_8_1 := funext hE_2_8_1; subst e_hE_2_8_1
  have e_hE_2_9_1 := funext hE_2_9_1; subst e_hE_2_9_1
  first
    | (have o1 : x16 = 1 := by omega
       have o2 : x21 = 1 := by omega
       subst o1 o2
       rw [‹x27 = nodes_0o2›]
       have hb := bln_of ‹BBI _ _ _ _ _ _ _ _ _› (by omega)
       rw [← ‹x8 = blockNodes_0›] at hb
       have he := bbi_has ‹BBI _ _ _ _ _ _ _ _ _› (by omega)
       have hn := (‹NOK _ _ _ _ _›).1 x5 he.1 he.2.1
       exact (bln_free (t := x13) (h := x15) (q1 := x17) (q2 := x22) (r1 := x19) (r2 := x24) (f1 := x20) (f2 := x25) (m1 := x18) (m2 := x23) hb (by omega) (by omega) (by assumption) (by assumption) (by omega) (by assumption) (by assumption) (by assumption) (by omega) (by assumption)).1)
  
def o_Em_beginBlock_at_gn_2 : or_T := (195, 32, [(0, (2, 0, 0, [1])), (1, (0, 0, 71, [])), (2, (2, 0, 0, [5])), (5, (0, 0, 71, [])), (7, (0, -1, -1, [])), (8, (0, 0, 16777215, [])), (13, (0, 0, 23, [])), (15, (0, 0, 23, [])), (16, (0, 1, 1, [])), (17, (0, 1, 8388608, [])), (18, (0, -1, -1, [])), (19, (0, -2147483648, 2147483647, [])), (20, (0, 0, 16777215, [])), (21, (0, 1, 1, [])), (22, (0, 1, 8388608, [])), (23, (0, -1, -1, [])), (24, (0, -2147483648, 2147483647, [])), (25, (0, 0, 16777215, [])), (27, (0, 0, 24, [])), (28, (0, 1, 1, [])), (29, (0, 1, 8388608, []))], [(16, [29, 28, 13], [3]), (9, [27, 9], [5]), (9, [26, 9], [9]), (16, [25, 20, 24], [0]), (16, [24, 22, 23], [2]), (16, [22, 21, 15], [3]), (16, [20, 8, 19], [0]), (16, [19, 17, 18], [2]), (16, [17, 16, 13], [3]), (9, [8, 3], [5]), (10, [15, 14, 5], []), (9, [14, 9], [8]), (10, [13, 12, 5], []), (9, [12, 9], [7]), (24, [2, 9], []), (24, [0, 3], []), (24, [1, 4], []), (101, [3, 10], [7]), (8, [7], [2]), (20, [3, 9, 4, 5, 7], [60, 3, 3, 601, 5, 1005, 1006, 2, 1007, 1008]), (20, [9], [60, 2, 3, 595, 5, 6, 7, 8, 9])], [], [], [(20, [3, 9, 4], [60, 3, 3, 600, 5, 1005, 1006, 2, 1007, 1008]), (20, [3, 13], [60, 1, 0, 608, 5]), (20, [13, 15, 25, 29, 27], [61, 0, 609]), (20, [26, 27], [61, 1, 560]), (20, [27, 25], [61, 0, 561])], [], [])
theorem oo_Em_beginBlock_at_gn_2 {kA : Nat → ClassId} : or_ok PRD kA GG o_Em_beginBlock_at_gn_2 := by
  refine or_mk fun A ta ws vs hD hth hl => ?_
  intro t0 r0 t1 k1 t2 r2 t5 k5 t7 k7 t8 k8 t13 k13 t15 k15 t16 k16 t17 k17 t18 k18 t19 k19 t20 k20 t21 k21 t22 k22 t23 k23 t24 k24 t25 k25 t27 k27 t28 k28 t29 k29 f0 f1 f2 f3 f4 f5 f6 f7 f8 f9 f10 f11 f12 f13 f16 f17 f18 ta1 w1 le1 s1 f20 f21 f22
  replace f0 := shm_349 f0
  replace f1 := shm_110 f1
  replace f2 := shm_119 f2
  replace f3 := shm_11 f3
  replace f4 := shm_33 f4
  replace f5 := shm_349 f5
  replace f6 := shm_11 f6
  replace f7 := shm_33 f7
  replace f8 := shm_349 f8
  replace f9 := shm_110 f9
  replace f10 := shm_107 f10
  replace f11 := shm_293 f11
  replace f12 := shm_107 f12
  replace f13 := shm_198 f13
  replace f16 := shm_5 f16
  replace f17 := shm_5 f17
  replace f18 := shm_5 f18
  have s1 : (∀ b j, w_el ws b j = w_el w1 b j) ∧ ∀ b j, w_fd ws b j = if b = v_ad (n_v vs 3) ∧ j = 7 then n_v vs 10 else w_fd w1 b j := s1.2
  replace f20 := shm_39 f20
  replace f21 := shm_1681 f21
  replace f22 := shm_408 f22
  have q9 : n_v vs 9 = n_v vs 2 := f16.symm
  have q3 : n_v vs 3 = n_v vs 0 := f17.symm
  have q4 : n_v vs 4 = n_v vs 1 := f18.symm
  simp only [q9, q3] at f1 f2 f9 f11 f13
  rw [q3] at s1
  simp only [q9, q3, q4] at f21 f22
  have ar_0_2_1 : w_ar w1 (n_v vs 0) 2 = w_ar ws (n_v vs 0) 2 := by show v_ad (w_fd w1 _ _) = v_ad (w_fd ws _ _); rw [s1.2, if_neg (fun e => absurd e.2 (by decide))]
  have ar_2_7_1 : w_ar w1 (n_v vs 2) 7 = w_ar ws (n_v vs 2) 7 := by show v_ad (w_fd w1 _ _) = v_ad (w_fd ws _ _); rw [s1.2, if_neg (fun e => by have e1 := e.1; have e2 := r2; rw [e1, r0] at e2; exact absurd (Option.some.inj e2) (by decide))]
  have ar_2_8_1 : w_ar w1 (n_v vs 2) 8 = w_ar ws (n_v vs 2) 8 := by show v_ad (w_fd w1 _ _) = v_ad (w_fd ws _ _); rw [s1.2, if_neg (fun e => absurd e.2 (by decide))]
  have ar_2_9_1 : w_ar w1 (n_v vs 2) 9 = w_ar ws (n_v vs 2) 9 := by show v_ad (w_fd w1 _ _) = v_ad (w_fd ws _ _); rw [s1.2, if_neg (fun e => absurd e.2 (by decide))]
  have ad_26 : v_ad (n_v vs 26) = w_ar ws (n_v vs 2) 9 := congrArg v_ad f2
  have ad_14 : v_ad (n_v vs 14) = w_ar ws (n_v vs 2) 8 := congrArg v_ad f11
  have ad_12 : v_ad (n_v vs 12) = w_ar ws (n_v vs 2) 7 := congrArg v_ad f13
  have g1 : v_iv (n_v vs 27) = w_fi ws (n_v vs 2) 5 := congrArg v_iv f1
  have g9 : v_iv (n_v vs 8) = w_fi ws (n_v vs 0) 5 := congrArg v_iv f9
  simp only [ad_14] at f10
  have h10 : v_iv (n_v vs 15) = w_ei ws (w_ar ws (n_v vs 2) 8) (v_iv (n_v vs 5)) := f10
  simp only [ad_12] at f12
  have h12 : v_iv (n_v vs 13) = w_ei ws (w_ar ws (n_v vs 2) 7) (v_iv (n_v vs 5)) := f12
  simp only [ar_0_2_1, ar_2_7_1, ar_2_8_1, ar_2_9_1] at f21 f22
  have fe_0_5_1 : w_fi ws (n_v vs 0) 5 = w_fi w1 (n_v vs 0) 5 := by show v_iv (w_fd _ _ _) = v_iv (w_fd _ _ _); rw [s1.2, if_neg (fun e => absurd e.2 (by decide))]
  have fe_2_5_1 : w_fi ws (n_v vs 2) 5 = w_fi w1 (n_v vs 2) 5 := by show v_iv (w_fd _ _ _) = v_iv (w_fd _ _ _); rw [s1.2, if_neg (fun e => absurd e.2 (by decide))]
  have fe_2_6_1 : w_fi ws (n_v vs 2) 6 = w_fi w1 (n_v vs 2) 6 := by show v_iv (w_fd _ _ _) = v_iv (w_fd _ _ _); rw [s1.2, if_neg (fun e => absurd e.2 (by decide))]
  have hE_0_2_1 : ∀ j : Int, w_ei ws (w_ar ws (n_v vs 0) 2) j = w_ei w1 (w_ar ws (n_v vs 0) 2) j := fun j => s1.1 _ _
  have hE_2_7_1 : ∀ j : Int, w_ei ws (w_ar ws (n_v vs 2) 7) j = w_ei w1 (w_ar ws (n_v vs 2) 7) j := fun j => s1.1 _ _
  have hE_2_8_1 : ∀ j : Int, w_ei ws (w_ar ws (n_v vs 2) 8) j = w_ei w1 (w_ar ws (n_v vs 2) 8) j := fun j => s1.1 _ _
  have hE_2_9_1 : ∀ j : Int, w_ei ws (w_ar ws (n_v vs 2) 9) j = w_ei w1 (w_ar ws (n_v vs 2) 9) j := fun j => s1.1 _ _
  have kz_0_5 := fdq_283 hD hth r0
  have kz_2_5 := fdq_82 hD hth r2
  have kz_2_6 := fdq_59 hD hth r2
  have nf0 : fc_1 PRD (20, [3, 9, 4], [60, 3, 3, 600, 5, 1005, 1006, 2, 1007, 1008]) ws (vs) := by
    refine ⟨nf_in hl rfl, sgq_1338 ?_⟩
    · show BLN (w_fi ws (n_v vs 3) 5) (w_fi ws (n_v vs 9) 5) (w_fi ws (n_v vs 9) 6) (w_ei ws (w_ar ws (n_v vs 3) 2)) (w_ei ws (w_ar ws (n_v vs 9) 7)) (w_ei ws (w_ar ws (n_v vs 9) 8)) (v_iv (n_v vs 4))
      simp only [q9, q3, q4]
      exact vc_Em_beginBlock_at_gn_2_0 (v_iv (n_v vs 1)) (v_iv (n_v vs 5)) (v_iv (n_v vs 7)) (w_fi ws (n_v vs 2) 5) (w_fi ws (n_v vs 0) 5) (w_ei ws (w_ar ws (n_v vs 2) 8)) (w_ei ws (w_ar ws (n_v vs 2) 7)) (w_ei ws (w_ar ws (n_v vs 0) 2)) (w_fi ws (n_v vs 2) 6) (w_ei ws (w_ar ws (n_v vs 2) 9)) (w_ei w1 (w_ar ws (n_v vs 0) 2)) (w_ei w1 (w_ar ws (n_v vs 2) 7)) (w_ei w1 (w_ar ws (n_v vs 2) 8)) (w_fi w1 (n_v vs 0) 5) (w_fi w1 (n_v vs 2) 5) (w_fi w1 (n_v vs 2) 6) (w_ei w1 (w_ar ws (n_v vs 2) 9)) k1 k5 k7 f20 f21 fe_0_5_1 fe_2_5_1 fe_2_6_1 hE_0_2_1 hE_2_7_1 hE_2_8_1 hE_2_9_1 kz_0_5 kz_2_5 kz_2_6
  have nf1 : fc_1 PRD (20, [3, 13], [60, 1, 0, 608, 5]) ws (vs) := by
    refine ⟨nf_in hl rfl, sgq_1682 ?_⟩
    · show BTN (w_fi ws (n_v vs 3) 5) (v_iv (n_v vs 13))
      rw [q3]
      exact vc_Em_beginBlock_at_gn_2_1 (v_iv (n_v vs 1)) (v_iv (n_v vs 5)) (v_iv (n_v vs 7)) (v_iv (n_v vs 13)) (w_fi ws (n_v vs 2) 5) (w_fi ws (n_v vs 0) 5) (w_ei ws (w_ar ws (n_v vs 2) 8)) (w_ei ws (w_ar ws (n_v vs 2) 7)) (w_ei ws (w_ar ws (n_v vs 0) 2)) (w_fi ws (n_v vs 2) 6) (w_ei ws (w_ar ws (n_v vs 2) 9)) (w_ei w1 (w_ar ws (n_v vs 0) 2)) (w_ei w1 (w_ar ws (n_v vs 2) 7)) (w_ei w1 (w_ar ws (n_v vs 2) 8)) (w_fi w1 (n_v vs 0) 5) (w_fi w1 (n_v vs 2) 5) (w_fi w1 (n_v vs 2) 6) (w_ei w1 (w_ar ws (n_v vs 2) 9)) k1 k5 k7 k13 h12 f20 f21 fe_0_5_1 fe_2_5_1 fe_2_6_1 hE_0_2_1 hE_2_7_1 hE_2_8_1 hE_2_9_1 kz_0_5 kz_2_5 kz_2_6
  have nf2 : fc_1 PRD (20, [13, 15, 25, 29, 27], [61, 0, 609]) ws (vs) := ⟨nf_in hl rfl, sgq_1683 (vc_Em_beginBlock_at_gn_2_2 (v_iv (n_v vs 1)) (v_iv (n_v vs 5)) (v_iv (n_v vs 7)) (v_iv (n_v vs 8)) (v_iv (n_v vs 13)) (v_iv (n_v vs 15)) (v_iv (n_v vs 16)) (v_iv (n_v vs 17)) (v_iv (n_v vs 18)) (v_iv (n_v vs 19)) (v_iv (n_v vs 20)) (v_iv (n_v vs 21)) (v_iv (n_v vs 22)) (v_iv (n_v vs 23)) (v_iv (n_v vs 24)) (v_iv (n_v vs 25)) (v_iv (n_v vs 27)) (v_iv (n_v vs 28)) (v_iv (n_v vs 29)) (w_fi ws (n_v vs 2) 5) (w_fi ws (n_v vs 0) 5) (w_ei ws (w_ar ws (n_v vs 2) 8)) (w_ei ws (w_ar ws (n_v vs 2) 7)) (w_ei ws (w_ar ws (n_v vs 0) 2)) (w_fi ws (n_v vs 2) 6) (w_ei ws (w_ar ws (n_v vs 2) 9)) (w_ei w1 (w_ar ws (n_v vs 0) 2)) (w_ei w1 (w_ar ws (n_v vs 2) 7)) (w_ei w1 (w_ar ws (n_v vs 2) 8)) (w_fi w1 (n_v vs 0) 5) (w_fi w1 (n_v vs 2) 5) (w_fi w1 (n_v vs 2) 6) (w_ei w1 (w_ar ws (n_v vs 2) 9)) k1 k5 k7 k8 k13 k15 k16 k17 k18 k19 k20 k21 k22 k23 k24 k25 k27 k28 k29 f0 g1 f3 f4 f5 f6 f7 f8 g9 h10 h12 f20 f21 f22 fe_0_5_1 fe_2_5_1 fe_2_6_1 hE_0_2_1 hE_2_7_1 hE_2_8_1 hE_2_9_1 kz_0_5 kz_2_5 kz_2_6)⟩
  have nf3 : fc_1 PRD (20, [26, 27], [61, 1, 560]) ws (vs) := by
    refine ⟨nf_in hl rfl, sgq_1180 ?_⟩
    · show SYMN (w_ei ws (v_ad (n_v vs 26))) (v_iv (n_v vs 27))
      rw [ad_26]
      exact vc_Em_beginBlock_at_gn_2_3 (v_iv (n_v vs 27)) (w_fi ws (n_v vs 2) 5) (w_fi ws (n_v vs 0) 5) (w_ei ws (w_ar ws (n_v vs 2) 8)) (w_ei ws (w_ar ws (n_v vs 2) 7)) (w_ei ws (w_ar ws (n_v vs 0) 2)) (w_fi ws (n_v vs 2) 6) (w_ei ws (w_ar ws (n_v vs 2) 9)) (w_ei w1 (w_ar ws (n_v vs 0) 2)) (w_ei w1 (w_ar ws (n_v vs 2) 7)) (w_ei w1 (w_ar ws (n_v vs 2) 8)) (w_fi w1 (n_v vs 0) 5) (w_fi w1 (n_v vs 2) 5) (w_fi w1 (n_v vs 2) 6) (w_ei w1 (w_ar ws (n_v vs 2) 9)) k27 g1 f22 fe_0_5_1 fe_2_5_1 fe_2_6_1 hE_0_2_1 hE_2_7_1 hE_2_8_1 hE_2_9_1 kz_0_5 kz_2_5 kz_2_6
  have nf4 : fc_1 PRD (20, [27, 25], [61, 0, 561]) ws (vs) := ⟨nf_in hl rfl, sgq_1181 (vc_Em_beginBlock_at_gn_2_4 (v_iv (n_v vs 1)) (v_iv (n_v vs 5)) (v_iv (n_v vs 7)) (v_iv (n_v vs 8)) (v_iv (n_v vs 13)) (v_iv (n_v vs 15)) (v_iv (n_v vs 16)) (v_iv (n_v vs 17)) (v_iv (n_v vs 18)) (v_iv (n_v vs 19)) (v_iv (n_v vs 20)) (v_iv (n_v vs 21)) (v_iv (n_v vs 22)) (v_iv (n_v vs 23)) (v_iv (n_v vs 24)) (v_iv (n_v vs 25)) (v_iv (n_v vs 27)) (w_fi ws (n_v vs 2) 5) (w_fi ws (n_v vs 0) 5) (w_ei ws (w_ar ws (n_v vs 2) 8)) (w_ei ws (w_ar ws (n_v vs 2) 7)) (w_ei ws (w_ar ws (n_v vs 0) 2)) (w_fi ws (n_v vs 2) 6) (w_ei ws (w_ar ws (n_v vs 2) 9)) (w_ei w1 (w_ar ws (n_v vs 0) 2)) (w_ei w1 (w_ar ws (n_v vs 2) 7)) (w_ei w1 (w_ar ws (n_v vs 2) 8)) (w_fi w1 (n_v vs 0) 5) (w_fi w1 (n_v vs 2) 5) (w_fi w1 (n_v vs 2) 6) (w_ei w1 (w_ar ws (n_v vs 2) 9)) k1 k5 k7 k8 k13 k15 k16 k17 k18 k19 k20 k21 k22 k23 k24 k25 k27 g1 f3 f4 f5 f6 f7 f8 g9 h10 h12 f20 f21 f22 fe_0_5_1 fe_2_5_1 fe_2_6_1 hE_0_2_1 hE_2_7_1 hE_2_8_1 hE_2_9_1 kz_0_5 kz_2_5 kz_2_6)⟩
  refine ⟨(fun _ h => (by cases h)), [], trivial, ?_, (fun _ h => (by cases h))⟩
  rw [List.append_nil]
  exact List.forall_mem_cons.mpr ⟨⟨show (20 : Nat) < 100 from by decide, nf0⟩, List.forall_mem_cons.mpr ⟨⟨show (20 : Nat) < 100 from by decide, nf1⟩, List.forall_mem_cons.mpr ⟨⟨show (20 : Nat) < 100 from by decide, nf2⟩, List.forall_mem_cons.mpr ⟨⟨show (20 : Nat) < 100 from by decide, nf3⟩, List.forall_mem_cons.mpr ⟨⟨show (20 : Nat) < 100 from by decide, nf4⟩, (fun _ h => (by cases h))⟩⟩⟩⟩⟩
set_option maxHeartbeats 4000000 in
theorem vc_Em_beginBlock_at_gn_3_0 (x13 : Int) (x15 : Int) (x25 : Int) (x27 : Int) (x29 : Int) (x32 : Int) (wayLength_0 : Int) (nodes_0o2 : Int) (blockNodes_0 : Int) (block_0 : Int → Int) (tail_0o2 : Int → Int) (head_0o2 : Int → Int) (edges_0o2 : Int) (near_0o2 : Int → Int) (way_0 : Int → Int) (block_1 : Int → Int) (tail_1o2 : Int → Int) (head_1o2 : Int → Int) (blockNodes_1 : Int) (nodes_1o2 : Int) (edges_1o2 : Int) (near_1o2 : Int → Int) (way_1 : Int → Int) (k13 : 0 ≤ x13 ∧ x13 ≤ 23) (k15 : 0 ≤ x15 ∧ x15 ≤ 23) (k25 : 0 ≤ x25 ∧ x25 ≤ 16777215) (k27 : 0 ≤ x27 ∧ x27 ≤ 24) (k29 : 1 ≤ x29 ∧ x29 ≤ 8388608) (k32 : 0 ≤ x32 ∧ x32 ≤ 25) (f22 : RFR (x13) (x15) (x25) (x29) (x27)) (f27 : SHW (way_1) (x15) (x29) (x25) (x32)) (fe_0_5_1 : blockNodes_0 = blockNodes_1) (fe_0_15_1 : wayLength_0 = x32) (fe_2_5_1 : nodes_0o2 = nodes_1o2) (fe_2_6_1 : edges_0o2 = edges_1o2) (hE_0_2_1 : ∀ j : Int, block_0 j = block_1 j) (hE_0_14_1 : ∀ j : Int, way_0 j = way_1 j) (hE_2_7_1 : ∀ j : Int, tail_0o2 j = tail_1o2 j) (hE_2_8_1 : ∀ j : Int, head_0o2 j = head_1o2 j) (hE_2_9_1 : ∀ j : Int, near_0o2 j = near_1o2 j) (kz_0_5 : 0 ≤ blockNodes_0 ∧ blockNodes_0 ≤ 33554431) (kz_0_15 : 0 ≤ wayLength_0 ∧ wayLength_0 ≤ 27) (kz_2_5 : 0 ≤ nodes_0o2 ∧ nodes_0o2 ≤ 24) (kz_2_6 : 0 ≤ edges_0o2 ∧ edges_0o2 ≤ 72) : RNP (wayLength_0) (way_0) (x13) := by
  subst fe_0_5_1
  subst fe_2_5_1
  subst fe_2_6_1
  have e_hE_0_2_1 := funext hE_0_2_1; subst e_hE_0_2_1
  have e_hE_0_14_1 := funext hE_0_14_1; subst e_hE_0_14_1
  have e_hE_2_7_1 := funext hE_2_7_1; subst e_hE_2_7_1
  have e_hE_2_8_1 := funext hE_2_8_1; subst e_hE_2_8_1
  have e_hE_2_9_1 := funext hE_2_9_1; subst e_hE_2_9_1
  first
    | exact rnp_rfr ‹RFR _ _ _ _ _› ‹SHW _ _ _ _ _› (by omega)
  
def o_Em_beginBlock_at_gn_3 : or_T := (204, 33, [(0, (2, 0, 0, [1])), (2, (2, 0, 0, [5])), (13, (0, 0, 23, [])), (15, (0, 0, 23, [])), (25, (0, 0, 16777215, [])), (27, (0, 0, 24, [])), (29, (0, 1, 8388608, [])), (32, (0, 0, 25, []))], [(9, [31, 3], [14]), (9, [26, 9], [9]), (24, [2, 9], []), (24, [0, 3], []), (101, [3, 32], [15]), (20, [13, 15, 25, 29, 27], [61, 0, 609]), (20, [31, 15, 29, 25, 32], [61, 1, 564])], [], [], [(20, [3, 13], [60, 1, 1, 604, 15, 14])], [], [])
theorem oo_Em_beginBlock_at_gn_3 {kA : Nat → ClassId} : or_ok PRD kA GG o_Em_beginBlock_at_gn_3 := by
  refine or_mk fun A ta ws vs hD hth hl => ?_
  intro t0 r0 t2 r2 t13 k13 t15 k15 t25 k25 t27 k27 t29 k29 t32 k32 f1 f3 f14 f15 ta1 w1 le1 s1 f22 f27
  replace f1 := shm_115 f1
  replace f3 := shm_119 f3
  replace f14 := shm_5 f14
  replace f15 := shm_5 f15
  have s1 : (∀ b j, w_el ws b j = w_el w1 b j) ∧ ∀ b j, w_fd ws b j = if b = v_ad (n_v vs 3) ∧ j = 15 then n_v vs 32 else w_fd w1 b j := s1.2
  replace f22 := shm_1683 f22
  replace f27 := shm_1187 f27
  have q9 : n_v vs 9 = n_v vs 2 := f14.symm
  have q3 : n_v vs 3 = n_v vs 0 := f15.symm
  simp only [q3, q9] at f1 f3
  rw [q3] at s1
  have ar_0_2_1 : w_ar w1 (n_v vs 0) 2 = w_ar ws (n_v vs 0) 2 := by show v_ad (w_fd w1 _ _) = v_ad (w_fd ws _ _); rw [s1.2, if_neg (fun e => absurd e.2 (by decide))]
  have ar_2_7_1 : w_ar w1 (n_v vs 2) 7 = w_ar ws (n_v vs 2) 7 := by show v_ad (w_fd w1 _ _) = v_ad (w_fd ws _ _); rw [s1.2, if_neg (fun e => absurd e.2 (by decide))]
  have ar_2_8_1 : w_ar w1 (n_v vs 2) 8 = w_ar ws (n_v vs 2) 8 := by show v_ad (w_fd w1 _ _) = v_ad (w_fd ws _ _); rw [s1.2, if_neg (fun e => absurd e.2 (by decide))]
  have ar_2_9_1 : w_ar w1 (n_v vs 2) 9 = w_ar ws (n_v vs 2) 9 := by show v_ad (w_fd w1 _ _) = v_ad (w_fd ws _ _); rw [s1.2, if_neg (fun e => absurd e.2 (by decide))]
  have ad_31 : v_ad (n_v vs 31) = w_ar ws (n_v vs 0) 14 := congrArg v_ad f1
  have ad_26 : v_ad (n_v vs 26) = w_ar ws (n_v vs 2) 9 := congrArg v_ad f3
  simp only [ad_26, ad_31, ar_0_2_1, ar_2_7_1, ar_2_8_1, ar_2_9_1] at f27
  have fe_0_5_1 : w_fi ws (n_v vs 0) 5 = w_fi w1 (n_v vs 0) 5 := by show v_iv (w_fd _ _ _) = v_iv (w_fd _ _ _); rw [s1.2, if_neg (fun e => absurd e.2 (by decide))]
  have fe_0_15_1 : w_fi ws (n_v vs 0) 15 = v_iv (n_v vs 32) := by show v_iv (w_fd _ _ _) = _; rw [s1.2, if_pos ⟨rfl, rfl⟩]
  have fe_2_5_1 : w_fi ws (n_v vs 2) 5 = w_fi w1 (n_v vs 2) 5 := by show v_iv (w_fd _ _ _) = v_iv (w_fd _ _ _); rw [s1.2, if_neg (fun e => absurd e.2 (by decide))]
  have fe_2_6_1 : w_fi ws (n_v vs 2) 6 = w_fi w1 (n_v vs 2) 6 := by show v_iv (w_fd _ _ _) = v_iv (w_fd _ _ _); rw [s1.2, if_neg (fun e => absurd e.2 (by decide))]
  have hE_0_2_1 : ∀ j : Int, w_ei ws (w_ar ws (n_v vs 0) 2) j = w_ei w1 (w_ar ws (n_v vs 0) 2) j := fun j => s1.1 _ _
  have hE_0_14_1 : ∀ j : Int, w_ei ws (w_ar ws (n_v vs 0) 14) j = w_ei w1 (w_ar ws (n_v vs 0) 14) j := fun j => s1.1 _ _
  have hE_2_7_1 : ∀ j : Int, w_ei ws (w_ar ws (n_v vs 2) 7) j = w_ei w1 (w_ar ws (n_v vs 2) 7) j := fun j => s1.1 _ _
  have hE_2_8_1 : ∀ j : Int, w_ei ws (w_ar ws (n_v vs 2) 8) j = w_ei w1 (w_ar ws (n_v vs 2) 8) j := fun j => s1.1 _ _
  have hE_2_9_1 : ∀ j : Int, w_ei ws (w_ar ws (n_v vs 2) 9) j = w_ei w1 (w_ar ws (n_v vs 2) 9) j := fun j => s1.1 _ _
  have kz_0_5 := fdq_283 hD hth r0
  have kz_0_15 := fdq_54 hD hth r0
  have kz_2_5 := fdq_82 hD hth r2
  have kz_2_6 := fdq_59 hD hth r2
  have nf0 : fc_1 PRD (20, [3, 13], [60, 1, 1, 604, 15, 14]) ws (vs) := by
    refine ⟨nf_in hl rfl, sgq_348 ?_⟩
    · show RNP (w_fi ws (n_v vs 3) 15) (w_ei ws (w_ar ws (n_v vs 3) 14)) (v_iv (n_v vs 13))
      rw [q3]
      exact vc_Em_beginBlock_at_gn_3_0 (v_iv (n_v vs 13)) (v_iv (n_v vs 15)) (v_iv (n_v vs 25)) (v_iv (n_v vs 27)) (v_iv (n_v vs 29)) (v_iv (n_v vs 32)) (w_fi ws (n_v vs 0) 15) (w_fi ws (n_v vs 2) 5) (w_fi ws (n_v vs 0) 5) (w_ei ws (w_ar ws (n_v vs 0) 2)) (w_ei ws (w_ar ws (n_v vs 2) 7)) (w_ei ws (w_ar ws (n_v vs 2) 8)) (w_fi ws (n_v vs 2) 6) (w_ei ws (w_ar ws (n_v vs 2) 9)) (w_ei ws (w_ar ws (n_v vs 0) 14)) (w_ei w1 (w_ar ws (n_v vs 0) 2)) (w_ei w1 (w_ar ws (n_v vs 2) 7)) (w_ei w1 (w_ar ws (n_v vs 2) 8)) (w_fi w1 (n_v vs 0) 5) (w_fi w1 (n_v vs 2) 5) (w_fi w1 (n_v vs 2) 6) (w_ei w1 (w_ar ws (n_v vs 2) 9)) (w_ei w1 (w_ar ws (n_v vs 0) 14)) k13 k15 k25 k27 k29 k32 f22 f27 fe_0_5_1 fe_0_15_1 fe_2_5_1 fe_2_6_1 hE_0_2_1 hE_0_14_1 hE_2_7_1 hE_2_8_1 hE_2_9_1 kz_0_5 kz_0_15 kz_2_5 kz_2_6
  refine ⟨(fun _ h => (by cases h)), [], trivial, ?_, (fun _ h => (by cases h))⟩
  rw [List.append_nil]
  exact List.forall_mem_cons.mpr ⟨⟨show (20 : Nat) < 100 from by decide, nf0⟩, (fun _ h => (by cases h))⟩
set_option maxHeartbeats 4000000 in
theorem vc_Em_beginBlock_at_gn_4_0 (x1 : Int) (nodes_0o2 : Int) (blockNodes_0 : Int) (wayLength_0 : Int) (way_0 : Int → Int) (block_0 : Int → Int) (tail_0o2 : Int → Int) (head_0o2 : Int → Int) (edges_0o2 : Int) (near_0o2 : Int → Int) (cycle_0 : Int → Int) (cycleLength_0 : Int → Int) (cycles_0 : Int) (drawnNodes_0 : Int) (way_1 : Int → Int) (wayLength_1 : Int) (block_1 : Int → Int) (tail_1o2 : Int → Int) (head_1o2 : Int → Int) (blockNodes_1 : Int) (nodes_1o2 : Int) (edges_1o2 : Int) (near_1o2 : Int → Int) (cycle_1 : Int → Int) (cycleLength_1 : Int → Int) (cycles_1 : Int) (drawnNodes_1 : Int) (k1 : 0 ≤ x1 ∧ x1 ≤ 71) (f26 : BLN (blockNodes_1) (nodes_1o2) (edges_1o2) (block_1) (tail_1o2) (head_1o2) (x1)) (fe_0_5_1 : blockNodes_0 = blockNodes_1) (fe_0_6_1 : drawnNodes_0 = drawnNodes_1) (fe_0_7_1 : cycles_0 = cycles_1) (fe_0_15_1 : wayLength_0 = wayLength_1) (fe_2_5_1 : nodes_0o2 = nodes_1o2) (fe_2_6_1 : edges_0o2 = edges_1o2) (hE_0_2_1 : ∀ j : Int, block_0 j = block_1 j) (hE_0_8_1 : ∀ j : Int, cycle_0 j = cycle_1 j) (hE_0_9_1 : ∀ j : Int, cycleLength_0 j = cycleLength_1 j) (hE_0_14_1 : ∀ j : Int, way_0 j = way_1 j) (hE_2_7_1 : ∀ j : Int, tail_0o2 j = tail_1o2 j) (hE_2_8_1 : ∀ j : Int, head_0o2 j = head_1o2 j) (hE_2_9_1 : ∀ j : Int, near_0o2 j = near_1o2 j) (kz_0_5 : 0 ≤ blockNodes_0 ∧ blockNodes_0 ≤ 33554431) (kz_0_6 : 0 ≤ drawnNodes_0 ∧ drawnNodes_0 ≤ 33554431) (kz_0_7 : 0 ≤ cycles_0 ∧ cycles_0 ≤ 50) (kz_0_15 : 0 ≤ wayLength_0 ∧ wayLength_0 ≤ 27) (kz_2_5 : 0 ≤ nodes_0o2 ∧ nodes_0o2 ≤ 24) (kz_2_6 : 0 ≤ edges_0o2 ∧ edges_0o2 ≤ 72) : BLN (blockNodes_0) (nodes_0o2) (edges_0o2) (block_0) (tail_0o2) (head_0o2) (x1) := by
  subst fe_0_5_1
  subst fe_0_6_1
  subst fe_0_7_1
  subst fe_0_15_1
  subst fe_2_5_1
  subst fe_2_6_1
  have e_hE_0_2_1 := funext hE_0_2_1; subst e_hE_0_2_1
  have e_hE_0_8_1 := funext hE_0_8_1; subst e_hE_0_8_1
  have e_hE_0_9_1 := funext hE_0_9_1; subst e_hE_0_9_1
  have e_hE_0_14_1 := funext hE_0_14_1; subst e_hE_0_14_1
  have e_hE_2_7_1 := funext hE_2_7_1; subst e_hE_2_7_1
  have e_hE_2_8_1 := funext hE_2_8_1; subst e_hE_2_8_1
  have e_hE_2_9_1 := funext hE_2_9_1; subst e_hE_2_9_1
  first
    | assumption
set_option maxHeartbeats 4000000 in
theorem vc_Em_beginBlock_at_gn_4_1 (nodes_0o2 : Int) (blockNodes_0 : Int) (wayLength_0 : Int) (way_0 : Int → Int) (block_0 : Int → Int) (tail_0o2 : Int → Int) (head_0o2 : Int → Int) (edges_0o2 : Int) (near_0o2 : Int → Int) (cycle_0 : Int → Int) (cycleLength_0 : Int → Int) (cycles_0 : Int) (drawnNodes_0 : Int) (way_1 : Int → Int) (wayLength_1 : Int) (block_1 : Int → Int) (tail_1o2 : Int → Int) (head_1o2 : Int → Int) (blockNodes_1 : Int) (nodes_1o2 : Int) (edges_1o2 : Int) (near_1o2 : Int → Int) (cycle_1 : Int → Int) (cycleLength_1 : Int → Int) (cycles_1 : Int) (drawnNodes_1 : Int) (f35 : CYR (cycles_1) (drawnNodes_1) (cycle_1) (cycleLength_1)) (fe_0_5_1 : blockNodes_0 = blockNodes_1) (fe_0_6_1 : drawnNodes_0 = drawnNodes_1) (fe_0_7_1 : cycles_0 = cycles_1) (fe_0_15_1 : wayLength_0 = wayLength_1) (fe_2_5_1 : nodes_0o2 = nodes_1o2) (fe_2_6_1 : edges_0o2 = edges_1o2) (hE_0_2_1 : ∀ j : Int, block_0 j = block_1 j) (hE_0_8_1 : ∀ j : Int, cycle_0 j = cycle_1 j) (hE_0_9_1 : ∀ j : Int, cycleLength_0 j = cycleLength_1 j) (hE_0_14_1 : ∀ j : Int, way_0 j = way_1 j) (hE_2_7_1 : ∀ j : Int, tail_0o2 j = tail_1o2 j) (hE_2_8_1 : ∀ j : Int, head_0o2 j = head_1o2 j) (hE_2_9_1 : ∀ j : Int, near_0o2 j = near_1o2 j) (kz_0_5 : 0 ≤ blockNodes_0 ∧ blockNodes_0 ≤ 33554431) (kz_0_6 : 0 ≤ drawnNodes_0 ∧ drawnNodes_0 ≤ 33554431) (kz_0_7 : 0 ≤ cycles_0 ∧ cycles_0 ≤ 50) (kz_0_15 : 0 ≤ wayLength_0 ∧ wayLength_0 ≤ 27) (kz_2_5 : 0 ≤ nodes_0o2 ∧ nodes_0o2 ≤ 24) (kz_2_6 : 0 ≤ edges_0o2 ∧ edges_0o2 ≤ 72) : CYR (cycles_0) (drawnNodes_0) (cycle_0) (cycleLength_0) := by
  subst fe_0_5_1
  subst fe_0_6_1
  subst fe_0_7_1
  subst fe_0_15_1
  subst fe_2_5_1
  subst fe_2_6_1
  have e_hE_0_2_1 := funext hE_0_2_1; subst e_hE_0_2_1
  have e_hE_0_8_1 := funext hE_0_8_1; subst e_hE_0_8_1
  have e_hE_0_9_1 := funext hE_0_9_1; subst e_hE_0_9_1
  have e_hE_0_14_1 := funext hE_0_14_1; subst e_hE_0_14_1
  have e_hE_2_7_1 := funext hE_2_7_1; subst e_hE_2_7_1
  have e_hE_2_8_1 := funext hE_2_8_1; subst e_hE_2_8_1
  have e_hE_2_9_1 := funext hE_2_9_1; subst e_hE_2_9_1
  first
    | assumption
    | (intro c c0 c1; omega)
set_option maxHeartbeats 4000000 in
theorem vc_Em_beginBlock_at_gn_4_2 (x35 : Int) (nodes_0o2 : Int) (blockNodes_0 : Int) (wayLength_0 : Int) (way_0 : Int → Int) (block_0 : Int → Int) (tail_0o2 : Int → Int) (head_0o2 : Int → Int) (edges_0o2 : Int) (near_0o2 : Int → Int) (cycle_0 : Int → Int) (cycleLength_0 : Int → Int) (cycles_0 : Int) (drawnNodes_0 : Int) (way_1 : Int → Int) (wayLength_1 : Int) (block_1 : Int → Int) (tail_1o2 : Int → Int) (head_1o2 : Int → Int) (blockNodes_1 : Int) (nodes_1o2 : Int) (edges_1o2 : Int) (near_1o2 : Int → Int) (cycle_1 : Int → Int) (cycleLength_1 : Int → Int) (cycles_1 : Int) (drawnNodes_1 : Int) (k35 : (-2147483648) ≤ x35 ∧ x35 ≤ 2147483647) (f22 : 2 ≤ cycles_0) (fe_0_5_1 : blockNodes_0 = blockNodes_1) (fe_0_6_1 : drawnNodes_0 = drawnNodes_1) (fe_0_7_1 : cycles_0 = cycles_1) (fe_0_15_1 : wayLength_0 = wayLength_1) (fe_2_5_1 : nodes_0o2 = nodes_1o2) (fe_2_6_1 : edges_0o2 = edges_1o2) (hE_0_2_1 : ∀ j : Int, block_0 j = block_1 j) (hE_0_8_1 : ∀ j : Int, cycle_0 j = cycle_1 j) (hE_0_9_1 : ∀ j : Int, cycleLength_0 j = cycleLength_1 j) (hE_0_14_1 : ∀ j : Int, way_0 j = way_1 j) (hE_2_7_1 : ∀ j : Int, tail_0o2 j = tail_1o2 j) (hE_2_8_1 : ∀ j : Int, head_0o2 j = head_1o2 j) (hE_2_9_1 : ∀ j : Int, near_0o2 j = near_1o2 j) (kz_0_5 : 0 ≤ blockNodes_0 ∧ blockNodes_0 ≤ 33554431) (kz_0_6 : 0 ≤ drawnNodes_0 ∧ drawnNodes_0 ≤ 33554431) (kz_0_7 : 0 ≤ cycles_0 ∧ cycles_0 ≤ 50) (kz_0_15 : 0 ≤ wayLength_0 ∧ wayLength_0 ≤ 27) (kz_2_5 : 0 ≤ nodes_0o2 ∧ nodes_0o2 ≤ 24) (kz_2_6 : 0 ≤ edges_0o2 ∧ edges_0o2 ≤ 72) : (x35 ≤ 0) ∨ (1 ≤ cycles_0) := by
  subst fe_0_5_1
  subst fe_0_6_1
  subst fe_0_7_1
  subst fe_0_15_1
  subst fe_2_5_1
  subst fe_2_6_1
  have e_hE_0_2_1 := funext hE_0_2_1; subst e_hE_0_2_1
  have e_hE_0_8_1 := funext hE_0_8_1; subst e_hE_0_8_1
  have e_hE_0_9_1 := funext hE_0_9_1; subst e_hE_0_9_1
  have e_hE_0_14_1 := funext hE_0_14_1; subst e_hE_0_14_1
  have e_hE_2_7_1 := funext hE_2_7_1; subst e_hE_2_7_1
  have e_hE_2_8_1 := funext hE_2_8_1; subst e_hE_2_8_1
  have e_hE_2_9_1 := funext hE_2_9_1; subst e_hE_2_9_1
  first
    | omega
set_option maxHeartbeats 4000000 in
theorem vc_Em_beginBlock_at_gn_4_3 (x13 : Int) (x35 : Int) (nodes_0o2 : Int) (blockNodes_0 : Int) (wayLength_0 : Int) (way_0 : Int → Int) (block_0 : Int → Int) (tail_0o2 : Int → Int) (head_0o2 : Int → Int) (edges_0o2 : Int) (near_0o2 : Int → Int) (cycle_0 : Int → Int) (cycleLength_0 : Int → Int) (cycles_0 : Int) (drawnNodes_0 : Int) (way_1 : Int → Int) (wayLength_1 : Int) (block_1 : Int → Int) (tail_1o2 : Int → Int) (head_1o2 : Int → Int) (blockNodes_1 : Int) (nodes_1o2 : Int) (edges_1o2 : Int) (near_1o2 : Int → Int) (cycle_1 : Int → Int) (cycleLength_1 : Int → Int) (cycles_1 : Int) (drawnNodes_1 : Int) (k13 : 0 ≤ x13 ∧ x13 ≤ 23) (k35 : (-2147483648) ≤ x35 ∧ x35 ≤ 2147483647) (f27 : BTN (blockNodes_1) (x13)) (f37 : BTD (drawnNodes_1) (x13)) (fe_0_5_1 : blockNodes_0 = blockNodes_1) (fe_0_6_1 : drawnNodes_0 = drawnNodes_1) (fe_0_7_1 : cycles_0 = cycles_1) (fe_0_15_1 : wayLength_0 = wayLength_1) (fe_2_5_1 : nodes_0o2 = nodes_1o2) (fe_2_6_1 : edges_0o2 = edges_1o2) (hE_0_2_1 : ∀ j : Int, block_0 j = block_1 j) (hE_0_8_1 : ∀ j : Int, cycle_0 j = cycle_1 j) (hE_0_9_1 : ∀ j : Int, cycleLength_0 j = cycleLength_1 j) (hE_0_14_1 : ∀ j : Int, way_0 j = way_1 j) (hE_2_7_1 : ∀ j : Int, tail_0o2 j = tail_1o2 j) (hE_2_8_1 : ∀ j : Int, head_0o2 j = head_1o2 j) (hE_2_9_1 : ∀ j : Int, near_0o2 j = near_1o2 j) (kz_0_5 : 0 ≤ blockNodes_0 ∧ blockNodes_0 ≤ 33554431) (kz_0_6 : 0 ≤ drawnNodes_0 ∧ drawnNodes_0 ≤ 33554431) (kz_0_7 : 0 ≤ cycles_0 ∧ cycles_0 ≤ 50) (kz_0_15 : 0 ≤ wayLength_0 ∧ wayLength_0 ≤ 27) (kz_2_5 : 0 ≤ nodes_0o2 ∧ nodes_0o2 ≤ 24) (kz_2_6 : 0 ≤ edges_0o2 ∧ edges_0o2 ≤ 72) : DBA (drawnNodes_0) (blockNodes_0) (x35) := by
  subst fe_0_5_1
  subst fe_0_6_1
  subst fe_0_7_1
  subst fe_0_15_1
  subst fe_2_5_1
  subst fe_2_6_1
  have e_hE_0_2_1 := funext hE_0_2_1; subst e_hE_0_2_1
  have e_hE_0_8_1 := funext hE_0_8_1; subst e_hE_0_8_1
  have e_hE_0_9_1 := funext hE_0_9_1; subst e_hE_0_9_1
  have e_hE_0_14_1 := funext hE_0_14_1; subst e_hE_0_14_1
  have e_hE_2_7_1 := funext hE_2_7_1; subst e_hE_2_7_1
  have e_hE_2_8_1 := funext hE_2_8_1; subst e_hE_2_8_1
  have e_hE_2_9_1 := funext hE_2_9_1; subst e_hE_2_9_1
  first
    | exact Or.inl (by omega)
    | exact Or.inr ⟨x13, by omega, by omega, ‹BTD _ _›, ‹BTN _ _›⟩
def o_Em_beginBlock_at_gn_4 : or_T := (224, 36, [(0, (2, 0, 0, [1])), (1, (0, 0, 71, [])), (2, (2, 0, 0, [5])), (13, (0, 0, 23, [])), (33, (2, 0, 0, [27])), (35, (0, -2147483648, 2147483647, []))], [(9, [31, 3], [14]), (9, [26, 9], [9]), (24, [2, 9], []), (24, [0, 3], []), (24, [1, 4], []), (20, [3], [50, 1, 0, 7, 0, 2, 0, 2, 2, 0, 7]), (100, [33, 5, 34], []), (20, [3, 9, 4], [60, 3, 3, 600, 5, 1005, 1006, 2, 1007, 1008]), (20, [3, 13], [60, 1, 0, 608, 5]), (20, [3], [60, 2, 2, 603, 7, 6, 8, 9]), (20, [3, 13], [60, 1, 0, 606, 6])], [], [], [(20, [0, 2, 1], [60, 3, 3, 600, 5, 1005, 1006, 2, 1007, 1008]), (20, [0], [60, 2, 2, 603, 7, 6, 8, 9]), (20, [35, 0], [50, 1, 0, 1007, 3, 6, 0, 2, 1, 0, 0, 0, 0, 2, 0, 1, 2, 1, 7]), (20, [0, 35], [60, 2, 0, 607, 6, 5])], [], [])
theorem oo_Em_beginBlock_at_gn_4 {kA : Nat → ClassId} : or_ok PRD kA GG o_Em_beginBlock_at_gn_4 := by
  refine or_mk fun A ta ws vs hD hth hl => ?_
  intro t0 r0 t1 k1 t2 r2 t13 k13 t33 r33 t35 k35 f1 f3 f16 f17 f18 f22 ta1 w1 le1 s1 f26 f27 f35 f37
  replace f1 := shm_115 f1
  replace f3 := shm_119 f3
  replace f16 := shm_5 f16
  replace f17 := shm_5 f17
  replace f18 := shm_5 f18
  replace f22 := shm_352 f22
  have s1 : (∀ b j, w_el ws b j = if b = v_ad (n_v vs 33) ∧ j = (v_iv (n_v vs 5)).toNat then v_iv (n_v vs 34) else w_el w1 b j) ∧ ∀ b k, w_fd ws b k = w_fd w1 b k := s1.2
  replace f26 := shm_1338 f26
  replace f27 := shm_1682 f27
  replace f35 := shm_351 f35
  replace f37 := shm_353 f37
  have q9 : n_v vs 9 = n_v vs 2 := f16.symm
  have q3 : n_v vs 3 = n_v vs 0 := f17.symm
  have q4 : n_v vs 4 = n_v vs 1 := f18.symm
  simp only [q3, q9, q4] at f1 f3 f22 f26 f27 f35 f37
  have ar_0_2_1 : w_ar w1 (n_v vs 0) 2 = w_ar ws (n_v vs 0) 2 := congrArg v_ad (s1.2 _ _).symm
  have cr_0_2 := fdq_56 hD hth r0
  have ar_0_8_1 : w_ar w1 (n_v vs 0) 8 = w_ar ws (n_v vs 0) 8 := congrArg v_ad (s1.2 _ _).symm
  have cr_0_8 := fdq_51 hD hth r0
  have ar_0_9_1 : w_ar w1 (n_v vs 0) 9 = w_ar ws (n_v vs 0) 9 := congrArg v_ad (s1.2 _ _).symm
  have cr_0_9 := fdq_50 hD hth r0
  have ar_0_14_1 : w_ar w1 (n_v vs 0) 14 = w_ar ws (n_v vs 0) 14 := congrArg v_ad (s1.2 _ _).symm
  have cr_0_14 := fdq_52 hD hth r0
  have ar_2_7_1 : w_ar w1 (n_v vs 2) 7 = w_ar ws (n_v vs 2) 7 := congrArg v_ad (s1.2 _ _).symm
  have cr_2_7 := fdq_57 hD hth r2
  have ar_2_8_1 : w_ar w1 (n_v vs 2) 8 = w_ar ws (n_v vs 2) 8 := congrArg v_ad (s1.2 _ _).symm
  have cr_2_8 := fdq_58 hD hth r2
  have ar_2_9_1 : w_ar w1 (n_v vs 2) 9 = w_ar ws (n_v vs 2) 9 := congrArg v_ad (s1.2 _ _).symm
  have cr_2_9 := fdq_80 hD hth r2
  have ad_31 : v_ad (n_v vs 31) = w_ar ws (n_v vs 0) 14 := congrArg v_ad f1
  have ad_26 : v_ad (n_v vs 26) = w_ar ws (n_v vs 2) 9 := congrArg v_ad f3
  simp only [ad_26, ad_31, ar_0_14_1, ar_0_2_1, ar_2_7_1, ar_2_8_1, ar_2_9_1, ar_0_8_1, ar_0_9_1] at f26 f35
  have fe_0_5_1 : w_fi ws (n_v vs 0) 5 = w_fi w1 (n_v vs 0) 5 := congrArg v_iv (s1.2 _ _)
  have fe_0_6_1 : w_fi ws (n_v vs 0) 6 = w_fi w1 (n_v vs 0) 6 := congrArg v_iv (s1.2 _ _)
  have fe_0_7_1 : w_fi ws (n_v vs 0) 7 = w_fi w1 (n_v vs 0) 7 := congrArg v_iv (s1.2 _ _)
  have fe_0_15_1 : w_fi ws (n_v vs 0) 15 = w_fi w1 (n_v vs 0) 15 := congrArg v_iv (s1.2 _ _)
  have fe_2_5_1 : w_fi ws (n_v vs 2) 5 = w_fi w1 (n_v vs 2) 5 := congrArg v_iv (s1.2 _ _)
  have fe_2_6_1 : w_fi ws (n_v vs 2) 6 = w_fi w1 (n_v vs 2) 6 := congrArg v_iv (s1.2 _ _)
  have hE_0_2_1 : ∀ j : Int, w_ei ws (w_ar ws (n_v vs 0) 2) j = w_ei w1 (w_ar ws (n_v vs 0) 2) j := el_kp s1.1 r33 cr_0_2 (by decide)
  have hE_0_8_1 : ∀ j : Int, w_ei ws (w_ar ws (n_v vs 0) 8) j = w_ei w1 (w_ar ws (n_v vs 0) 8) j := el_kp s1.1 r33 cr_0_8 (by decide)
  have hE_0_9_1 : ∀ j : Int, w_ei ws (w_ar ws (n_v vs 0) 9) j = w_ei w1 (w_ar ws (n_v vs 0) 9) j := el_kp s1.1 r33 cr_0_9 (by decide)
  have hE_0_14_1 : ∀ j : Int, w_ei ws (w_ar ws (n_v vs 0) 14) j = w_ei w1 (w_ar ws (n_v vs 0) 14) j := el_kp s1.1 r33 cr_0_14 (by decide)
  have hE_2_7_1 : ∀ j : Int, w_ei ws (w_ar ws (n_v vs 2) 7) j = w_ei w1 (w_ar ws (n_v vs 2) 7) j := el_kp s1.1 r33 cr_2_7 (by decide)
  have hE_2_8_1 : ∀ j : Int, w_ei ws (w_ar ws (n_v vs 2) 8) j = w_ei w1 (w_ar ws (n_v vs 2) 8) j := el_kp s1.1 r33 cr_2_8 (by decide)
  have hE_2_9_1 : ∀ j : Int, w_ei ws (w_ar ws (n_v vs 2) 9) j = w_ei w1 (w_ar ws (n_v vs 2) 9) j := el_kp s1.1 r33 cr_2_9 (by decide)
  have kz_0_5 := fdq_283 hD hth r0
  have kz_0_6 := fdq_53 hD hth r0
  have kz_0_7 := fdq_49 hD hth r0
  have kz_0_15 := fdq_54 hD hth r0
  have kz_2_5 := fdq_82 hD hth r2
  have kz_2_6 := fdq_59 hD hth r2
  have nf0 : fc_1 PRD (20, [0, 2, 1], [60, 3, 3, 600, 5, 1005, 1006, 2, 1007, 1008]) ws (vs) := ⟨nf_in hl rfl, sgq_1338 (vc_Em_beginBlock_at_gn_4_0 (v_iv (n_v vs 1)) (w_fi ws (n_v vs 2) 5) (w_fi ws (n_v vs 0) 5) (w_fi ws (n_v vs 0) 15) (w_ei ws (w_ar ws (n_v vs 0) 14)) (w_ei ws (w_ar ws (n_v vs 0) 2)) (w_ei ws (w_ar ws (n_v vs 2) 7)) (w_ei ws (w_ar ws (n_v vs 2) 8)) (w_fi ws (n_v vs 2) 6) (w_ei ws (w_ar ws (n_v vs 2) 9)) (w_ei ws (w_ar ws (n_v vs 0) 8)) (w_ei ws (w_ar ws (n_v vs 0) 9)) (w_fi ws (n_v vs 0) 7) (w_fi ws (n_v vs 0) 6) (w_ei w1 (w_ar ws (n_v vs 0) 14)) (w_fi w1 (n_v vs 0) 15) (w_ei w1 (w_ar ws (n_v vs 0) 2)) (w_ei w1 (w_ar ws (n_v vs 2) 7)) (w_ei w1 (w_ar ws (n_v vs 2) 8)) (w_fi w1 (n_v vs 0) 5) (w_fi w1 (n_v vs 2) 5) (w_fi w1 (n_v vs 2) 6) (w_ei w1 (w_ar ws (n_v vs 2) 9)) (w_ei w1 (w_ar ws (n_v vs 0) 8)) (w_ei w1 (w_ar ws (n_v vs 0) 9)) (w_fi w1 (n_v vs 0) 7) (w_fi w1 (n_v vs 0) 6) k1 f26 fe_0_5_1 fe_0_6_1 fe_0_7_1 fe_0_15_1 fe_2_5_1 fe_2_6_1 hE_0_2_1 hE_0_8_1 hE_0_9_1 hE_0_14_1 hE_2_7_1 hE_2_8_1 hE_2_9_1 kz_0_5 kz_0_6 kz_0_7 kz_0_15 kz_2_5 kz_2_6)⟩
  have nf1 : fc_1 PRD (20, [0], [60, 2, 2, 603, 7, 6, 8, 9]) ws (vs) := ⟨nf_in hl rfl, sgq_351 (vc_Em_beginBlock_at_gn_4_1 (w_fi ws (n_v vs 2) 5) (w_fi ws (n_v vs 0) 5) (w_fi ws (n_v vs 0) 15) (w_ei ws (w_ar ws (n_v vs 0) 14)) (w_ei ws (w_ar ws (n_v vs 0) 2)) (w_ei ws (w_ar ws (n_v vs 2) 7)) (w_ei ws (w_ar ws (n_v vs 2) 8)) (w_fi ws (n_v vs 2) 6) (w_ei ws (w_ar ws (n_v vs 2) 9)) (w_ei ws (w_ar ws (n_v vs 0) 8)) (w_ei ws (w_ar ws (n_v vs 0) 9)) (w_fi ws (n_v vs 0) 7) (w_fi ws (n_v vs 0) 6) (w_ei w1 (w_ar ws (n_v vs 0) 14)) (w_fi w1 (n_v vs 0) 15) (w_ei w1 (w_ar ws (n_v vs 0) 2)) (w_ei w1 (w_ar ws (n_v vs 2) 7)) (w_ei w1 (w_ar ws (n_v vs 2) 8)) (w_fi w1 (n_v vs 0) 5) (w_fi w1 (n_v vs 2) 5) (w_fi w1 (n_v vs 2) 6) (w_ei w1 (w_ar ws (n_v vs 2) 9)) (w_ei w1 (w_ar ws (n_v vs 0) 8)) (w_ei w1 (w_ar ws (n_v vs 0) 9)) (w_fi w1 (n_v vs 0) 7) (w_fi w1 (n_v vs 0) 6) f35 fe_0_5_1 fe_0_6_1 fe_0_7_1 fe_0_15_1 fe_2_5_1 fe_2_6_1 hE_0_2_1 hE_0_8_1 hE_0_9_1 hE_0_14_1 hE_2_7_1 hE_2_8_1 hE_2_9_1 kz_0_5 kz_0_6 kz_0_7 kz_0_15 kz_2_5 kz_2_6)⟩
  have nf2 : fc_1 PRD (20, [35, 0], [50, 1, 0, 1007, 3, 6, 0, 2, 1, 0, 0, 0, 0, 2, 0, 1, 2, 1, 7]) ws (vs) := ⟨nf_in hl rfl, sgq_1684 (vc_Em_beginBlock_at_gn_4_2 (v_iv (n_v vs 35)) (w_fi ws (n_v vs 2) 5) (w_fi ws (n_v vs 0) 5) (w_fi ws (n_v vs 0) 15) (w_ei ws (w_ar ws (n_v vs 0) 14)) (w_ei ws (w_ar ws (n_v vs 0) 2)) (w_ei ws (w_ar ws (n_v vs 2) 7)) (w_ei ws (w_ar ws (n_v vs 2) 8)) (w_fi ws (n_v vs 2) 6) (w_ei ws (w_ar ws (n_v vs 2) 9)) (w_ei ws (w_ar ws (n_v vs 0) 8)) (w_ei ws (w_ar ws (n_v vs 0) 9)) (w_fi ws (n_v vs 0) 7) (w_fi ws (n_v vs 0) 6) (w_ei w1 (w_ar ws (n_v vs 0) 14)) (w_fi w1 (n_v vs 0) 15) (w_ei w1 (w_ar ws (n_v vs 0) 2)) (w_ei w1 (w_ar ws (n_v vs 2) 7)) (w_ei w1 (w_ar ws (n_v vs 2) 8)) (w_fi w1 (n_v vs 0) 5) (w_fi w1 (n_v vs 2) 5) (w_fi w1 (n_v vs 2) 6) (w_ei w1 (w_ar ws (n_v vs 2) 9)) (w_ei w1 (w_ar ws (n_v vs 0) 8)) (w_ei w1 (w_ar ws (n_v vs 0) 9)) (w_fi w1 (n_v vs 0) 7) (w_fi w1 (n_v vs 0) 6) k35 f22 fe_0_5_1 fe_0_6_1 fe_0_7_1 fe_0_15_1 fe_2_5_1 fe_2_6_1 hE_0_2_1 hE_0_8_1 hE_0_9_1 hE_0_14_1 hE_2_7_1 hE_2_8_1 hE_2_9_1 kz_0_5 kz_0_6 kz_0_7 kz_0_15 kz_2_5 kz_2_6)⟩
  have nf3 : fc_1 PRD (20, [0, 35], [60, 2, 0, 607, 6, 5]) ws (vs) := ⟨nf_in hl rfl, sgq_1685 (vc_Em_beginBlock_at_gn_4_3 (v_iv (n_v vs 13)) (v_iv (n_v vs 35)) (w_fi ws (n_v vs 2) 5) (w_fi ws (n_v vs 0) 5) (w_fi ws (n_v vs 0) 15) (w_ei ws (w_ar ws (n_v vs 0) 14)) (w_ei ws (w_ar ws (n_v vs 0) 2)) (w_ei ws (w_ar ws (n_v vs 2) 7)) (w_ei ws (w_ar ws (n_v vs 2) 8)) (w_fi ws (n_v vs 2) 6) (w_ei ws (w_ar ws (n_v vs 2) 9)) (w_ei ws (w_ar ws (n_v vs 0) 8)) (w_ei ws (w_ar ws (n_v vs 0) 9)) (w_fi ws (n_v vs 0) 7) (w_fi ws (n_v vs 0) 6) (w_ei w1 (w_ar ws (n_v vs 0) 14)) (w_fi w1 (n_v vs 0) 15) (w_ei w1 (w_ar ws (n_v vs 0) 2)) (w_ei w1 (w_ar ws (n_v vs 2) 7)) (w_ei w1 (w_ar ws (n_v vs 2) 8)) (w_fi w1 (n_v vs 0) 5) (w_fi w1 (n_v vs 2) 5) (w_fi w1 (n_v vs 2) 6) (w_ei w1 (w_ar ws (n_v vs 2) 9)) (w_ei w1 (w_ar ws (n_v vs 0) 8)) (w_ei w1 (w_ar ws (n_v vs 0) 9)) (w_fi w1 (n_v vs 0) 7) (w_fi w1 (n_v vs 0) 6) k13 k35 f27 f37 fe_0_5_1 fe_0_6_1 fe_0_7_1 fe_0_15_1 fe_2_5_1 fe_2_6_1 hE_0_2_1 hE_0_8_1 hE_0_9_1 hE_0_14_1 hE_2_7_1 hE_2_8_1 hE_2_9_1 kz_0_5 kz_0_6 kz_0_7 kz_0_15 kz_2_5 kz_2_6)⟩
  refine ⟨(fun _ h => (by cases h)), [], trivial, ?_, (fun _ h => (by cases h))⟩
  rw [List.append_nil]
  exact List.forall_mem_cons.mpr ⟨⟨show (20 : Nat) < 100 from by decide, nf0⟩, List.forall_mem_cons.mpr ⟨⟨show (20 : Nat) < 100 from by decide, nf1⟩, List.forall_mem_cons.mpr ⟨⟨show (20 : Nat) < 100 from by decide, nf2⟩, List.forall_mem_cons.mpr ⟨⟨show (20 : Nat) < 100 from by decide, nf3⟩, (fun _ h => (by cases h))⟩⟩⟩⟩
set_option maxHeartbeats 4000000 in
theorem vc_Em_beginBlock_at_gn_5_r0 (x1 : Int) (x5 : Int) (x7 : Int) (x14 : Int) (blockNodes_0 : Int) (block_0 : Int → Int) (tail_0o2 : Int → Int) (head_0o2 : Int → Int) (nodes_0o2 : Int) (edges_0o2 : Int) (near_0o2 : Int → Int) (block_1 : Int → Int) (tail_1o2 : Int → Int) (head_1o2 : Int → Int) (blockNodes_1 : Int) (nodes_1o2 : Int) (edges_1o2 : Int) (near_1o2 : Int → Int) (k1 : 0 ≤ x1 ∧ x1 ≤ 71) (k5 : (-1) ≤ x5 ∧ x5 ≤ 71) (k7 : (-1) ≤ x7 ∧ x7 ≤ (-1)) (k14 : (-2) ≤ x14 ∧ x14 ≤ 142) (f1 : x14 = 2 * x5) (f8 : x7 < 0) (f9 : BBI (blockNodes_1) (nodes_1o2) (edges_1o2) (block_1) (tail_1o2) (head_1o2) (x1) (x5) (x7)) (fe_0_5_1 : blockNodes_0 = blockNodes_1) (fe_2_5_1 : nodes_0o2 = nodes_1o2) (fe_2_6_1 : edges_0o2 = edges_1o2) (hE_0_2_1 : ∀ j : Int, block_0 j = block_1 j) (hE_2_7_1 : ∀ j : Int, tail_0o2 j = tail_1o2 j) (hE_2_8_1 : ∀ j : Int, head_0o2 j = head_1o2 j) (hE_2_9_1 : ∀ j : Int, near_0o2 j = near_1o2 j) (kz_0_5 : 0 ≤ blockNodes_0 ∧ blockNodes_0 ≤ 33554431) (kz_2_5 : 0 ≤ nodes_0o2 ∧ nodes_0o2 ≤ 24) (kz_2_6 : 0 ≤ edges_0o2 ∧ edges_0o2 ≤ 72) : 0 ≤ x14 ∧ x14 ≤ 142 := by
  subst fe_0_5_1
  subst fe_2_5_1
  subst fe_2_6_1
  have e_hE_0_2_1 := funext hE_0_2_1; subst e_hE_0_2_1
  have e_hE_2_7_1 := funext hE_2_7_1; subst e_hE_2_7_1
  have e_hE_2_8_1 := funext hE_2_8_1; subst e_hE_2_8_1
  have e_hE_2_9_1 := funext hE_2_9_1; subst e_hE_2_9_1
  first
    | (have q := bbi_has ‹BBI _ _ _ _ _ _ _ _ _› (by omega); omega)
def o_Em_beginBlock_at_gn_5 : or_T := (108, 15, [(0, (2, 0, 0, [1])), (1, (0, 0, 71, [])), (2, (2, 0, 0, [5])), (3, (2, 0, 0, [1])), (4, (0, 0, 71, [])), (5, (0, -1, 71, [])), (7, (0, -1, -1, [])), (8, (0, 0, 16777215, [])), (9, (2, 0, 0, [5])), (13, (0, 2, 2, [])), (14, (0, -2, 142, []))], [(9, [8, 3], [5]), (3, [14, 13, 5], []), (20, [3, 9, 4, 5, 7], [60, 3, 3, 601, 5, 1005, 1006, 2, 1007, 1008]), (20, [9], [60, 2, 3, 595, 5, 6, 7, 8, 9]), (24, [2, 9], []), (24, [0, 3], []), (24, [1, 4], []), (101, [3, 10], [7]), (8, [7], [2]), (20, [3, 9, 4, 5, 7], [60, 3, 3, 601, 5, 1005, 1006, 2, 1007, 1008]), (20, [9], [60, 2, 3, 595, 5, 6, 7, 8, 9])], [(14, (0, 0, 142, []))], [], [], [], [(1, 4, -4294967296, 0), (4, 1, -4294967296, 0), (8, 5, -4294967296, 16777215)])
theorem oo_Em_beginBlock_at_gn_5 {kA : Nat → ClassId} : or_ok PRD kA GG o_Em_beginBlock_at_gn_5 := by
  refine or_mk fun A ta ws vs hD hth hl => ?_
  intro t0 r0 t1 k1 t2 r2 t3 r3 t4 k4 t5 k5 t7 k7 t8 k8 t9 r9 t13 k13 t14 k14 d0 d1 d2 f0 f1 f2 f3 f4 f5 f6 ta1 w1 le1 s1 f8 f9 f10
  replace f1 := shm_38 f1
  rw [show v_iv (n_v vs 13) = 2 from by omega] at f1
  replace f4 := shm_5 f4
  replace f5 := shm_5 f5
  replace f6 := shm_5 f6
  have s1 : (∀ b j, w_el ws b j = w_el w1 b j) ∧ ∀ b j, w_fd ws b j = if b = v_ad (n_v vs 3) ∧ j = 7 then n_v vs 10 else w_fd w1 b j := s1.2
  replace f9 := shm_1681 f9
  have q9 : n_v vs 9 = n_v vs 2 := f4.symm
  have q3 : n_v vs 3 = n_v vs 0 := f5.symm
  have q4 : n_v vs 4 = n_v vs 1 := f6.symm
  rw [q3] at s1
  simp only [q9, q3, q4] at f9
  have ar_0_2_1 : w_ar w1 (n_v vs 0) 2 = w_ar ws (n_v vs 0) 2 := by show v_ad (w_fd w1 _ _) = v_ad (w_fd ws _ _); rw [s1.2, if_neg (fun e => absurd e.2 (by decide))]
  have ar_2_7_1 : w_ar w1 (n_v vs 2) 7 = w_ar ws (n_v vs 2) 7 := by show v_ad (w_fd w1 _ _) = v_ad (w_fd ws _ _); rw [s1.2, if_neg (fun e => by have e1 := e.1; have e2 := r2; rw [e1, r0] at e2; exact absurd (Option.some.inj e2) (by decide))]
  have ar_2_8_1 : w_ar w1 (n_v vs 2) 8 = w_ar ws (n_v vs 2) 8 := by show v_ad (w_fd w1 _ _) = v_ad (w_fd ws _ _); rw [s1.2, if_neg (fun e => absurd e.2 (by decide))]
  have ar_2_9_1 : w_ar w1 (n_v vs 2) 9 = w_ar ws (n_v vs 2) 9 := by show v_ad (w_fd w1 _ _) = v_ad (w_fd ws _ _); rw [s1.2, if_neg (fun e => absurd e.2 (by decide))]
  simp only [ar_0_2_1, ar_2_7_1, ar_2_8_1, ar_2_9_1] at f9
  have fe_0_5_1 : w_fi ws (n_v vs 0) 5 = w_fi w1 (n_v vs 0) 5 := by show v_iv (w_fd _ _ _) = v_iv (w_fd _ _ _); rw [s1.2, if_neg (fun e => absurd e.2 (by decide))]
  have fe_2_5_1 : w_fi ws (n_v vs 2) 5 = w_fi w1 (n_v vs 2) 5 := by show v_iv (w_fd _ _ _) = v_iv (w_fd _ _ _); rw [s1.2, if_neg (fun e => absurd e.2 (by decide))]
  have fe_2_6_1 : w_fi ws (n_v vs 2) 6 = w_fi w1 (n_v vs 2) 6 := by show v_iv (w_fd _ _ _) = v_iv (w_fd _ _ _); rw [s1.2, if_neg (fun e => absurd e.2 (by decide))]
  have hE_0_2_1 : ∀ j : Int, w_ei ws (w_ar ws (n_v vs 0) 2) j = w_ei w1 (w_ar ws (n_v vs 0) 2) j := fun j => s1.1 _ _
  have hE_2_7_1 : ∀ j : Int, w_ei ws (w_ar ws (n_v vs 2) 7) j = w_ei w1 (w_ar ws (n_v vs 2) 7) j := fun j => s1.1 _ _
  have hE_2_8_1 : ∀ j : Int, w_ei ws (w_ar ws (n_v vs 2) 8) j = w_ei w1 (w_ar ws (n_v vs 2) 8) j := fun j => s1.1 _ _
  have hE_2_9_1 : ∀ j : Int, w_ei ws (w_ar ws (n_v vs 2) 9) j = w_ei w1 (w_ar ws (n_v vs 2) 9) j := fun j => s1.1 _ _
  have kz_0_5 := fdq_283 hD hth r0
  have kz_2_5 := fdq_82 hD hth r2
  have kz_2_6 := fdq_59 hD hth r2
  have hrf0 : 0 ≤ v_iv (n_v vs 14) ∧ v_iv (n_v vs 14) ≤ 142 := vc_Em_beginBlock_at_gn_5_r0 (v_iv (n_v vs 1)) (v_iv (n_v vs 5)) (v_iv (n_v vs 7)) (v_iv (n_v vs 14)) (w_fi ws (n_v vs 0) 5) (w_ei ws (w_ar ws (n_v vs 0) 2)) (w_ei ws (w_ar ws (n_v vs 2) 7)) (w_ei ws (w_ar ws (n_v vs 2) 8)) (w_fi ws (n_v vs 2) 5) (w_fi ws (n_v vs 2) 6) (w_ei ws (w_ar ws (n_v vs 2) 9)) (w_ei w1 (w_ar ws (n_v vs 0) 2)) (w_ei w1 (w_ar ws (n_v vs 2) 7)) (w_ei w1 (w_ar ws (n_v vs 2) 8)) (w_fi w1 (n_v vs 0) 5) (w_fi w1 (n_v vs 2) 5) (w_fi w1 (n_v vs 2) 6) (w_ei w1 (w_ar ws (n_v vs 2) 9)) k1 k5 k7 k14 f1 (shm_39 f8) f9 fe_0_5_1 fe_2_5_1 fe_2_6_1 hE_0_2_1 hE_2_7_1 hE_2_8_1 hE_2_9_1 kz_0_5 kz_2_5 kz_2_6
  have rf14 : tv_ok ta (0, 0, 142, []) (n_v vs 14) := tv_in t14 (by first | omega | grind) (by first | omega | grind)
  refine ⟨List.forall_mem_cons.mpr ⟨rf14, (fun _ h => (by cases h))⟩, [], trivial, ?_, (fun _ h => (by cases h))⟩
  rw [List.append_nil]
  exact (fun _ h => (by cases h))
set_option maxHeartbeats 4000000 in
theorem vc_Em_beginBlock_at_gn_6_r0 (x1 : Int) (x5 : Int) (x7 : Int) (x16 : Int) (x18 : Int) (blockNodes_0 : Int) (block_0 : Int → Int) (tail_0o2 : Int → Int) (head_0o2 : Int → Int) (nodes_0o2 : Int) (edges_0o2 : Int) (near_0o2 : Int → Int) (block_1 : Int → Int) (tail_1o2 : Int → Int) (head_1o2 : Int → Int) (blockNodes_1 : Int) (nodes_1o2 : Int) (edges_1o2 : Int) (near_1o2 : Int → Int) (block_2 : Int → Int) (tail_2o2 : Int → Int) (head_2o2 : Int → Int) (blockNodes_2 : Int) (nodes_2o2 : Int) (edges_2o2 : Int) (near_2o2 : Int → Int) (after_1 : Int → Int) (after_2 : Int → Int) (k1 : 0 ≤ x1 ∧ x1 ≤ 71) (k5 : (-1) ≤ x5 ∧ x5 ≤ 71) (k7 : (-1) ≤ x7 ∧ x7 ≤ (-1)) (k16 : (-2) ≤ x16 ∧ x16 ≤ 142) (k18 : (-1) ≤ x18 ∧ x18 ≤ 143) (d0 : x16 + 1 ≤ x18 ∧ x18 ≤ x16 + 1) (f2 : x16 = 2 * x5) (f13 : x7 < 0) (f14 : BBI (blockNodes_2) (nodes_2o2) (edges_2o2) (block_2) (tail_2o2) (head_2o2) (x1) (x5) (x7)) (fe_0_5_1 : blockNodes_0 = blockNodes_1) (fe_2_5_1 : nodes_0o2 = nodes_1o2) (fe_2_6_1 : edges_0o2 = edges_1o2) (fe_0_5_2 : blockNodes_1 = blockNodes_2) (fe_2_5_2 : nodes_1o2 = nodes_2o2) (fe_2_6_2 : edges_1o2 = edges_2o2) (hE_0_2_1 : ∀ j : Int, block_0 j = block_1 j) (hE_0_2_2 : ∀ j : Int, block_1 j = block_2 j) (hE_0_12_2 : ∀ j : Int, after_1 j = after_2 j) (hE_2_7_1 : ∀ j : Int, tail_0o2 j = tail_1o2 j) (hE_2_7_2 : ∀ j : Int, tail_1o2 j = tail_2o2 j) (hE_2_8_1 : ∀ j : Int, head_0o2 j = head_1o2 j) (hE_2_8_2 : ∀ j : Int, head_1o2 j = head_2o2 j) (hE_2_9_1 : ∀ j : Int, near_0o2 j = near_1o2 j) (hE_2_9_2 : ∀ j : Int, near_1o2 j = near_2o2 j) (kz_0_5 : 0 ≤ blockNodes_0 ∧ blockNodes_0 ≤ 33554431) (kz_2_5 : 0 ≤ nodes_0o2 ∧ nodes_0o2 ≤ 24) (kz_2_6 : 0 ≤ edges_0o2 ∧ edges_0o2 ≤ 72) : 0 ≤ x18 ∧ x18 ≤ 143 := by
  subst fe_0_5_1
  subst fe_2_5_1
  subst fe_2_6_1
  subst fe_0_5_2
  subst fe_2_5_2
  subst fe_2_6_2
  have e_hE_0_2_1 := funext hE_0_2_1; subst e_hE_0_2_1
  have e_hE_0_2_2 := funext hE_0_2_2; subst e_hE_0_2_2
  have e_hE_0_12_2 := funext hE_0_12_2; subst e_hE_0_12_2
  have e_hE_2_7_1 := funext hE_2_7_1; subst e_hE_2_7_1
  have e_hE_2_7_2 := funext hE_2_7_2; subst e_hE_2_7_2
  have e_hE_2_8_1 := funext hE_2_8_1; subst e_hE_2_8_1
  have e_hE_2_8_2 := funext hE_2_8_2; subst e_hE_2_8_2
  have e_hE_2_9_1 := funext hE_2_9_1; subst e_hE_2_9_1
  have e_hE_2_9_2 := funext hE_2_9_2; subst e_hE_2_9_2
  first
    | (have q := bbi_has ‹BBI _ _ _ _ _ _ _ _ _› (by omega); omega)
def o_Em_beginBlock_at_gn_6 : or_T := (119, 19, [(0, (2, 0, 0, [1])), (1, (0, 0, 71, [])), (2, (2, 0, 0, [5])), (3, (2, 0, 0, [1])), (4, (0, 0, 71, [])), (5, (0, -1, 71, [])), (7, (0, -1, -1, [])), (8, (0, 0, 16777215, [])), (9, (2, 0, 0, [5])), (12, (2, 0, 0, [33])), (14, (0, 0, 142, [])), (15, (0, 2, 2, [])), (16, (0, -2, 142, [])), (17, (0, 1, 1, [])), (18, (0, -1, 143, []))], [(9, [8, 3], [5]), (1, [18, 16, 17], []), (3, [16, 15, 5], []), (9, [12, 3], [12]), (20, [3, 9, 4, 5, 7], [60, 3, 3, 601, 5, 1005, 1006, 2, 1007, 1008]), (20, [9], [60, 2, 3, 595, 5, 6, 7, 8, 9]), (24, [2, 9], []), (24, [0, 3], []), (24, [1, 4], []), (100, [12, 14, 5], []), (20, [3, 9, 4, 5, 7], [60, 3, 3, 601, 5, 1005, 1006, 2, 1007, 1008]), (20, [9], [60, 2, 3, 595, 5, 6, 7, 8, 9]), (101, [3, 10], [7]), (8, [7], [2]), (20, [3, 9, 4, 5, 7], [60, 3, 3, 601, 5, 1005, 1006, 2, 1007, 1008]), (20, [9], [60, 2, 3, 595, 5, 6, 7, 8, 9])], [(18, (0, 0, 143, []))], [], [], [], [(18, 16, 1, 1), (1, 4, -4294967296, 0), (4, 1, -4294967296, 0), (8, 5, -4294967296, 16777215)])
theorem oo_Em_beginBlock_at_gn_6 {kA : Nat → ClassId} : or_ok PRD kA GG o_Em_beginBlock_at_gn_6 := by
  refine or_mk fun A ta ws vs hD hth hl => ?_
  intro t0 r0 t1 k1 t2 r2 t3 r3 t4 k4 t5 k5 t7 k7 t8 k8 t9 r9 t12 r12 t14 k14 t15 k15 t16 k16 t17 k17 t18 k18 d0 d1 d2 d3 f0 f1 f2 f3 f4 f5 f6 f7 f8 ta1 w1 le1 s1 f10 f11 ta2 w2 le2 s2 f13 f14 f15
  replace f2 := shm_38 f2
  rw [show v_iv (n_v vs 15) = 2 from by omega] at f2
  replace f6 := shm_5 f6
  replace f7 := shm_5 f7
  replace f8 := shm_5 f8
  have s1 : (∀ b j, w_el ws b j = if b = v_ad (n_v vs 12) ∧ j = (v_iv (n_v vs 14)).toNat then v_iv (n_v vs 5) else w_el w1 b j) ∧ ∀ b k, w_fd ws b k = w_fd w1 b k := s1.2
  have s2 : (∀ b j, w_el w1 b j = w_el w2 b j) ∧ ∀ b j, w_fd w1 b j = if b = v_ad (n_v vs 3) ∧ j = 7 then n_v vs 10 else w_fd w2 b j := s2.2
  replace f14 := shm_1681 f14
  have q9 : n_v vs 9 = n_v vs 2 := f6.symm
  have q3 : n_v vs 3 = n_v vs 0 := f7.symm
  have q4 : n_v vs 4 = n_v vs 1 := f8.symm
  rw [q3] at s2
  simp only [q9, q3, q4] at f14
  have ar_0_2_1 : w_ar w1 (n_v vs 0) 2 = w_ar ws (n_v vs 0) 2 := congrArg v_ad (s1.2 _ _).symm
  have ar_0_2_2 : w_ar w2 (n_v vs 0) 2 = w_ar ws (n_v vs 0) 2 := by rw [← ar_0_2_1]; show v_ad (w_fd w2 _ _) = v_ad (w_fd w1 _ _); rw [s2.2, if_neg (fun e => absurd e.2 (by decide))]
  have cr_0_2 := fdq_56 hD hth r0
  have ar_2_7_1 : w_ar w1 (n_v vs 2) 7 = w_ar ws (n_v vs 2) 7 := congrArg v_ad (s1.2 _ _).symm
  have ar_2_7_2 : w_ar w2 (n_v vs 2) 7 = w_ar ws (n_v vs 2) 7 := by rw [← ar_2_7_1]; show v_ad (w_fd w2 _ _) = v_ad (w_fd w1 _ _); rw [s2.2, if_neg (fun e => by have e1 := e.1; have e2 := r2; rw [e1, r0] at e2; exact absurd (Option.some.inj e2) (by decide))]
  have cr_2_7 := fdq_57 hD hth r2
  have ar_2_8_1 : w_ar w1 (n_v vs 2) 8 = w_ar ws (n_v vs 2) 8 := congrArg v_ad (s1.2 _ _).symm
  have ar_2_8_2 : w_ar w2 (n_v vs 2) 8 = w_ar ws (n_v vs 2) 8 := by rw [← ar_2_8_1]; show v_ad (w_fd w2 _ _) = v_ad (w_fd w1 _ _); rw [s2.2, if_neg (fun e => absurd e.2 (by decide))]
  have cr_2_8 := fdq_58 hD hth r2
  have ar_2_9_1 : w_ar w1 (n_v vs 2) 9 = w_ar ws (n_v vs 2) 9 := congrArg v_ad (s1.2 _ _).symm
  have ar_2_9_2 : w_ar w2 (n_v vs 2) 9 = w_ar ws (n_v vs 2) 9 := by rw [← ar_2_9_1]; show v_ad (w_fd w2 _ _) = v_ad (w_fd w1 _ _); rw [s2.2, if_neg (fun e => absurd e.2 (by decide))]
  have cr_2_9 := fdq_80 hD hth r2
  simp only [ar_0_2_1, ar_2_7_1, ar_2_8_1, ar_2_9_1, ar_0_2_2, ar_2_7_2, ar_2_8_2, ar_2_9_2] at f14
  have fe_0_5_1 : w_fi ws (n_v vs 0) 5 = w_fi w1 (n_v vs 0) 5 := congrArg v_iv (s1.2 _ _)
  have fe_2_5_1 : w_fi ws (n_v vs 2) 5 = w_fi w1 (n_v vs 2) 5 := congrArg v_iv (s1.2 _ _)
  have fe_2_6_1 : w_fi ws (n_v vs 2) 6 = w_fi w1 (n_v vs 2) 6 := congrArg v_iv (s1.2 _ _)
  have fe_0_5_2 : w_fi w1 (n_v vs 0) 5 = w_fi w2 (n_v vs 0) 5 := by show v_iv (w_fd _ _ _) = v_iv (w_fd _ _ _); rw [s2.2, if_neg (fun e => absurd e.2 (by decide))]
  have fe_2_5_2 : w_fi w1 (n_v vs 2) 5 = w_fi w2 (n_v vs 2) 5 := by show v_iv (w_fd _ _ _) = v_iv (w_fd _ _ _); rw [s2.2, if_neg (fun e => absurd e.2 (by decide))]
  have fe_2_6_2 : w_fi w1 (n_v vs 2) 6 = w_fi w2 (n_v vs 2) 6 := by show v_iv (w_fd _ _ _) = v_iv (w_fd _ _ _); rw [s2.2, if_neg (fun e => absurd e.2 (by decide))]
  have hE_0_2_1 : ∀ j : Int, w_ei ws (w_ar ws (n_v vs 0) 2) j = w_ei w1 (w_ar ws (n_v vs 0) 2) j := el_kp s1.1 r12 cr_0_2 (by decide)
  have hE_0_2_2 : ∀ j : Int, w_ei w1 (w_ar ws (n_v vs 0) 2) j = w_ei w2 (w_ar ws (n_v vs 0) 2) j := fun j => s2.1 _ _
  have hE_0_12_2 : ∀ j : Int, w_ei w1 (w_ar ws (n_v vs 0) 12) j = w_ei w2 (w_ar ws (n_v vs 0) 12) j := fun j => s2.1 _ _
  have hE_2_7_1 : ∀ j : Int, w_ei ws (w_ar ws (n_v vs 2) 7) j = w_ei w1 (w_ar ws (n_v vs 2) 7) j := el_kp s1.1 r12 cr_2_7 (by decide)
  have hE_2_7_2 : ∀ j : Int, w_ei w1 (w_ar ws (n_v vs 2) 7) j = w_ei w2 (w_ar ws (n_v vs 2) 7) j := fun j => s2.1 _ _
  have hE_2_8_1 : ∀ j : Int, w_ei ws (w_ar ws (n_v vs 2) 8) j = w_ei w1 (w_ar ws (n_v vs 2) 8) j := el_kp s1.1 r12 cr_2_8 (by decide)
  have hE_2_8_2 : ∀ j : Int, w_ei w1 (w_ar ws (n_v vs 2) 8) j = w_ei w2 (w_ar ws (n_v vs 2) 8) j := fun j => s2.1 _ _
  have hE_2_9_1 : ∀ j : Int, w_ei ws (w_ar ws (n_v vs 2) 9) j = w_ei w1 (w_ar ws (n_v vs 2) 9) j := el_kp s1.1 r12 cr_2_9 (by decide)
  have hE_2_9_2 : ∀ j : Int, w_ei w1 (w_ar ws (n_v vs 2) 9) j = w_ei w2 (w_ar ws (n_v vs 2) 9) j := fun j => s2.1 _ _
  have kz_0_5 := fdq_283 hD hth r0
  have kz_2_5 := fdq_82 hD hth r2
  have kz_2_6 := fdq_59 hD hth r2
  have hrf0 : 0 ≤ v_iv (n_v vs 18) ∧ v_iv (n_v vs 18) ≤ 143 := vc_Em_beginBlock_at_gn_6_r0 (v_iv (n_v vs 1)) (v_iv (n_v vs 5)) (v_iv (n_v vs 7)) (v_iv (n_v vs 16)) (v_iv (n_v vs 18)) (w_fi ws (n_v vs 0) 5) (w_ei ws (w_ar ws (n_v vs 0) 2)) (w_ei ws (w_ar ws (n_v vs 2) 7)) (w_ei ws (w_ar ws (n_v vs 2) 8)) (w_fi ws (n_v vs 2) 5) (w_fi ws (n_v vs 2) 6) (w_ei ws (w_ar ws (n_v vs 2) 9)) (w_ei w1 (w_ar ws (n_v vs 0) 2)) (w_ei w1 (w_ar ws (n_v vs 2) 7)) (w_ei w1 (w_ar ws (n_v vs 2) 8)) (w_fi w1 (n_v vs 0) 5) (w_fi w1 (n_v vs 2) 5) (w_fi w1 (n_v vs 2) 6) (w_ei w1 (w_ar ws (n_v vs 2) 9)) (w_ei w2 (w_ar ws (n_v vs 0) 2)) (w_ei w2 (w_ar ws (n_v vs 2) 7)) (w_ei w2 (w_ar ws (n_v vs 2) 8)) (w_fi w2 (n_v vs 0) 5) (w_fi w2 (n_v vs 2) 5) (w_fi w2 (n_v vs 2) 6) (w_ei w2 (w_ar ws (n_v vs 2) 9)) (w_ei w1 (w_ar ws (n_v vs 0) 12)) (w_ei w2 (w_ar ws (n_v vs 0) 12)) k1 k5 k7 k16 k18 d0 f2 (shm_39 f13) f14 fe_0_5_1 fe_2_5_1 fe_2_6_1 fe_0_5_2 fe_2_5_2 fe_2_6_2 hE_0_2_1 hE_0_2_2 hE_0_12_2 hE_2_7_1 hE_2_7_2 hE_2_8_1 hE_2_8_2 hE_2_9_1 hE_2_9_2 kz_0_5 kz_2_5 kz_2_6
  have rf18 : tv_ok ta (0, 0, 143, []) (n_v vs 18) := tv_in t18 (by first | omega | grind) (by first | omega | grind)
  refine ⟨List.forall_mem_cons.mpr ⟨rf18, (fun _ h => (by cases h))⟩, [], trivial, ?_, (fun _ h => (by cases h))⟩
  rw [List.append_nil]
  exact (fun _ h => (by cases h))
set_option maxHeartbeats 4000000 in
theorem vc_Em_beginBlock_at_gn_7_0 (x1 : Int) (x5 : Int) (x7 : Int) (cycles_0 : Int) (blockNodes_0 : Int) (block_0 : Int → Int) (tail_0o2 : Int → Int) (head_0o2 : Int → Int) (nodes_0o2 : Int) (edges_0o2 : Int) (near_0o2 : Int → Int) (block_1 : Int → Int) (tail_1o2 : Int → Int) (head_1o2 : Int → Int) (blockNodes_1 : Int) (nodes_1o2 : Int) (edges_1o2 : Int) (near_1o2 : Int → Int) (block_2 : Int → Int) (tail_2o2 : Int → Int) (head_2o2 : Int → Int) (blockNodes_2 : Int) (nodes_2o2 : Int) (edges_2o2 : Int) (near_2o2 : Int → Int) (block_3 : Int → Int) (tail_3o2 : Int → Int) (head_3o2 : Int → Int) (blockNodes_3 : Int) (nodes_3o2 : Int) (edges_3o2 : Int) (near_3o2 : Int → Int) (drawnNodes_0 : Int) (drawnNodes_1 : Int) (cycles_1 : Int) (drawnNodes_2 : Int) (cycles_2 : Int) (cycle_0 : Int → Int) (cycle_1 : Int → Int) (cycle_2 : Int → Int) (cycle_3 : Int → Int) (cycleLength_0 : Int → Int) (cycleLength_1 : Int → Int) (cycleLength_2 : Int → Int) (cycleLength_3 : Int → Int) (after_2 : Int → Int) (after_3 : Int → Int) (k1 : 0 ≤ x1 ∧ x1 ≤ 71) (k5 : (-1) ≤ x5 ∧ x5 ≤ 71) (k7 : (-1) ≤ x7 ∧ x7 ≤ (-1)) (f15 : x7 < 0) (f16 : BBI (blockNodes_3) (nodes_3o2) (edges_3o2) (block_3) (tail_3o2) (head_3o2) (x1) (x5) (x7)) (fe_0_5_1 : blockNodes_0 = blockNodes_1) (fe_0_6_1 : drawnNodes_0 = drawnNodes_1) (fe_0_7_1 : cycles_0 = cycles_1) (fe_2_5_1 : nodes_0o2 = nodes_1o2) (fe_2_6_1 : edges_0o2 = edges_1o2) (fe_0_5_2 : blockNodes_1 = blockNodes_2) (fe_0_6_2 : drawnNodes_1 = drawnNodes_2) (fe_0_7_2 : cycles_1 = cycles_2) (fe_2_5_2 : nodes_1o2 = nodes_2o2) (fe_2_6_2 : edges_1o2 = edges_2o2) (fe_0_5_3 : blockNodes_2 = blockNodes_3) (fe_2_5_3 : nodes_2o2 = nodes_3o2) (fe_2_6_3 : edges_2o2 = edges_3o2) (hE_0_2_1 : ∀ j : Int, block_0 j = block_1 j) (hE_0_2_2 : ∀ j : Int, block_1 j = block_2 j) (hE_0_2_3 : ∀ j : Int, block_2 j = block_3 j) (hE_0_8_1 : ∀ j : Int, cycle_0 j = cycle_1 j) (hE_0_8_2 : ∀ j : Int, cycle_1 j = cycle_2 j) (hE_0_8_3 : ∀ j : Int, cycle_2 j = cycle_3 j) (hE_0_9_1 : ∀ j : Int, cycleLength_0 j = cycleLength_1 j) (hE_0_9_2 : ∀ j : Int, cycleLength_1 j = cycleLength_2 j) (hE_0_9_3 : ∀ j : Int, cycleLength_2 j = cycleLength_3 j) (hE_0_12_3 : ∀ j : Int, after_2 j = after_3 j) (hE_2_7_1 : ∀ j : Int, tail_0o2 j = tail_1o2 j) (hE_2_7_2 : ∀ j : Int, tail_1o2 j = tail_2o2 j) (hE_2_7_3 : ∀ j : Int, tail_2o2 j = tail_3o2 j) (hE_2_8_1 : ∀ j : Int, head_0o2 j = head_1o2 j) (hE_2_8_2 : ∀ j : Int, head_1o2 j = head_2o2 j) (hE_2_8_3 : ∀ j : Int, head_2o2 j = head_3o2 j) (hE_2_9_1 : ∀ j : Int, near_0o2 j = near_1o2 j) (hE_2_9_2 : ∀ j : Int, near_1o2 j = near_2o2 j) (hE_2_9_3 : ∀ j : Int, near_2o2 j = near_3o2 j) (kz_0_5 : 0 ≤ blockNodes_0 ∧ blockNodes_0 ≤ 33554431) (kz_0_6 : 0 ≤ drawnNodes_0 ∧ drawnNodes_0 ≤ 33554431) (kz_0_7 : 0 ≤ cycles_0 ∧ cycles_0 ≤ 50) (kz_2_5 : 0 ≤ nodes_0o2 ∧ nodes_0o2 ≤ 24) (kz_2_6 : 0 ≤ edges_0o2 ∧ edges_0o2 ≤ 72) : BLN (blockNodes_0) (nodes_0o2) (edges_0o2) (block_0) (tail_0o2) (head_0o2) (x1) := by
  subst fe_0_5_1
  subst fe_0_6_1
  subst fe_0_7_1
  subst fe_2_5_1
  subst fe_2_6_1
  subst fe_0_5_2
  subst fe_0_6_2
  subst fe_0_7_2
  subst fe_2_5_2
  subst fe_2_6_2
  subst fe_0_5_3
  subst fe_2_5_3
  subst fe_2_6_3
  have e_hE_0_2_1 := funext hE_0_2_1; subst e_hE_0_2_1
  have e_hE_0_2_2 := funext hE_0_2_2; subst e_hE_0_2_2
  have e_hE_0_2_3 := funext hE_0_2_3; subst e_hE_0_2_3
  have e_hE_0_8_1 := funext hE_0_8_1; subst e_hE_0_8_1
  have e_hE_0_8_2 := funext hE_0_8_2; subst e_hE_0_8_2
  have e_hE_0_8_3 := funext hE_0_8_3; subst e_hE_0_8_3
  have e_hE_0_9_1 := funext hE_0_9_1; subst e_hE_0_9_1
  have e_hE_0_9_2 := funext hE_0_9_2; subst e_hE_0_9_2
  have e_hE_0_9_3 := funext hE_0_9_3; subst e_hE_0_9_3
  have e_hE_0_12_3 := funext hE_0_12_3; subst e_hE_0_12_3
  have e_hE_2_7_1 := funext hE_2_7_1; subst e_hE_2_7_1
  have e_hE_2_7_2 := funext hE_2_7_2; subst e_hE_2_7_2
  have e_hE_2_7_3 := funext hE_2_7_3; subst e_hE_2_7_3
  have e_hE_2_8_1 := funext hE_2_8_1; subst e_hE_2_8_1
  have e_hE_2_8_2 := funext hE_2_8_2; subst e_hE_2_8_2
  have e_hE_2_8_3 := funext hE_2_8_3; subst e_hE_2_8_3
  have e_hE_2_9_1 := funext hE_2_9_1; subst e_hE_2_9_1
  have e_hE_2_9_2 := funext hE_2_9_2; subst e_hE_2_9_2
  have e_hE_2_9_3 := funext hE_2_9_3; subst e_hE_2_9_3
  first
    | exact bln_of ‹BBI _ _ _ _ _ _ _ _ _› (by omega)
set_option maxHeartbeats 4000000 in
theorem vc_Em_beginBlock_at_gn_7_1 (x10 : Int) (cycles_0 : Int) (blockNodes_0 : Int) (block_0 : Int → Int) (tail_0o2 : Int → Int) (head_0o2 : Int → Int) (nodes_0o2 : Int) (edges_0o2 : Int) (near_0o2 : Int → Int) (block_1 : Int → Int) (tail_1o2 : Int → Int) (head_1o2 : Int → Int) (blockNodes_1 : Int) (nodes_1o2 : Int) (edges_1o2 : Int) (near_1o2 : Int → Int) (block_2 : Int → Int) (tail_2o2 : Int → Int) (head_2o2 : Int → Int) (blockNodes_2 : Int) (nodes_2o2 : Int) (edges_2o2 : Int) (near_2o2 : Int → Int) (block_3 : Int → Int) (tail_3o2 : Int → Int) (head_3o2 : Int → Int) (blockNodes_3 : Int) (nodes_3o2 : Int) (edges_3o2 : Int) (near_3o2 : Int → Int) (drawnNodes_0 : Int) (drawnNodes_1 : Int) (cycles_1 : Int) (drawnNodes_2 : Int) (cycles_2 : Int) (cycle_0 : Int → Int) (cycle_1 : Int → Int) (cycle_2 : Int → Int) (cycle_3 : Int → Int) (cycleLength_0 : Int → Int) (cycleLength_1 : Int → Int) (cycleLength_2 : Int → Int) (cycleLength_3 : Int → Int) (after_2 : Int → Int) (after_3 : Int → Int) (k10 : 0 ≤ x10 ∧ x10 ≤ 0) (g1 : x10 = cycles_0) (fe_0_5_1 : blockNodes_0 = blockNodes_1) (fe_0_6_1 : drawnNodes_0 = drawnNodes_1) (fe_0_7_1 : cycles_0 = cycles_1) (fe_2_5_1 : nodes_0o2 = nodes_1o2) (fe_2_6_1 : edges_0o2 = edges_1o2) (fe_0_5_2 : blockNodes_1 = blockNodes_2) (fe_0_6_2 : drawnNodes_1 = drawnNodes_2) (fe_0_7_2 : cycles_1 = cycles_2) (fe_2_5_2 : nodes_1o2 = nodes_2o2) (fe_2_6_2 : edges_1o2 = edges_2o2) (fe_0_5_3 : blockNodes_2 = blockNodes_3) (fe_2_5_3 : nodes_2o2 = nodes_3o2) (fe_2_6_3 : edges_2o2 = edges_3o2) (hE_0_2_1 : ∀ j : Int, block_0 j = block_1 j) (hE_0_2_2 : ∀ j : Int, block_1 j = block_2 j) (hE_0_2_3 : ∀ j : Int, block_2 j = block_3 j) (hE_0_8_1 : ∀ j : Int, cycle_0 j = cycle_1 j) (hE_0_8_2 : ∀ j : Int, cycle_1 j = cycle_2 j) (hE_0_8_3 : ∀ j : Int, cycle_2 j = cycle_3 j) (hE_0_9_1 : ∀ j : Int, cycleLength_0 j = cycleLength_1 j) (hE_0_9_2 : ∀ j : Int, cycleLength_1 j = cycleLength_2 j) (hE_0_9_3 : ∀ j : Int, cycleLength_2 j = cycleLength_3 j) (hE_0_12_3 : ∀ j : Int, after_2 j = after_3 j) (hE_2_7_1 : ∀ j : Int, tail_0o2 j = tail_1o2 j) (hE_2_7_2 : ∀ j : Int, tail_1o2 j = tail_2o2 j) (hE_2_7_3 : ∀ j : Int, tail_2o2 j = tail_3o2 j) (hE_2_8_1 : ∀ j : Int, head_0o2 j = head_1o2 j) (hE_2_8_2 : ∀ j : Int, head_1o2 j = head_2o2 j) (hE_2_8_3 : ∀ j : Int, head_2o2 j = head_3o2 j) (hE_2_9_1 : ∀ j : Int, near_0o2 j = near_1o2 j) (hE_2_9_2 : ∀ j : Int, near_1o2 j = near_2o2 j) (hE_2_9_3 : ∀ j : Int, near_2o2 j = near_3o2 j) (kz_0_5 : 0 ≤ blockNodes_0 ∧ blockNodes_0 ≤ 33554431) (kz_0_6 : 0 ≤ drawnNodes_0 ∧ drawnNodes_0 ≤ 33554431) (kz_0_7 : 0 ≤ cycles_0 ∧ cycles_0 ≤ 50) (kz_2_5 : 0 ≤ nodes_0o2 ∧ nodes_0o2 ≤ 24) (kz_2_6 : 0 ≤ edges_0o2 ∧ edges_0o2 ≤ 72) : CYR (cycles_0) (drawnNodes_0) (cycle_0) (cycleLength_0) := by
  subst fe_0_5_1
  subst fe_0_6_1
  subst fe_0_7_1
  subst fe_2_5_1
  subst fe_2_6_1
  subst fe_0_5_2
  subst fe_0_6_2
  subst fe_0_7_2
  subst fe_2_5_2
  subst fe_2_6_2
  subst fe_0_5_3
  subst fe_2_5_3
  subst fe_2_6_3
  have e_hE_0_2_1 := funext hE_0_2_1; subst e_hE_0_2_1
  have e_hE_0_2_2 := funext hE_0_2_2; subst e_hE_0_2_2
  have e_hE_0_2_3 := funext hE_0_2_3; subst e_hE_0_2_3
  have e_hE_0_8_1 := funext hE_0_8_1; subst e_hE_0_8_1
  have e_hE_0_8_2 := funext hE_0_8_2; subst e_hE_0_8_2
  have e_hE_0_8_3 := funext hE_0_8_3; subst e_hE_0_8_3
  have e_hE_0_9_1 := funext hE_0_9_1; subst e_hE_0_9_1
  have e_hE_0_9_2 := funext hE_0_9_2; subst e_hE_0_9_2
  have e_hE_0_9_3 := funext hE_0_9_3; subst e_hE_0_9_3
  have e_hE_0_12_3 := funext hE_0_12_3; subst e_hE_0_12_3
  have e_hE_2_7_1 := funext hE_2_7_1; subst e_hE_2_7_1
  have e_hE_2_7_2 := funext hE_2_7_2; subst e_hE_2_7_2
  have e_hE_2_7_3 := funext hE_2_7_3; subst e_hE_2_7_3
  have e_hE_2_8_1 := funext hE_2_8_1; subst e_hE_2_8_1
  have e_hE_2_8_2 := funext hE_2_8_2; subst e_hE_2_8_2
  have e_hE_2_8_3 := funext hE_2_8_3; subst e_hE_2_8_3
  have e_hE_2_9_1 := funext hE_2_9_1; subst e_hE_2_9_1
  have e_hE_2_9_2 := funext hE_2_9_2; subst e_hE_2_9_2
  have e_hE_2_9_3 := funext hE_2_9_3; subst e_hE_2_9_3
  first
    | assumption
    | (intro c c0 c1; omega)
set_option maxHeartbeats 4000000 in
theorem vc_Em_beginBlock_at_gn_7_2 (x19 : Int) (cycles_0 : Int) (blockNodes_0 : Int) (block_0 : Int → Int) (tail_0o2 : Int → Int) (head_0o2 : Int → Int) (nodes_0o2 : Int) (edges_0o2 : Int) (near_0o2 : Int → Int) (block_1 : Int → Int) (tail_1o2 : Int → Int) (head_1o2 : Int → Int) (blockNodes_1 : Int) (nodes_1o2 : Int) (edges_1o2 : Int) (near_1o2 : Int → Int) (block_2 : Int → Int) (tail_2o2 : Int → Int) (head_2o2 : Int → Int) (blockNodes_2 : Int) (nodes_2o2 : Int) (edges_2o2 : Int) (near_2o2 : Int → Int) (block_3 : Int → Int) (tail_3o2 : Int → Int) (head_3o2 : Int → Int) (blockNodes_3 : Int) (nodes_3o2 : Int) (edges_3o2 : Int) (near_3o2 : Int → Int) (drawnNodes_0 : Int) (drawnNodes_1 : Int) (cycles_1 : Int) (drawnNodes_2 : Int) (cycles_2 : Int) (cycle_0 : Int → Int) (cycle_1 : Int → Int) (cycle_2 : Int → Int) (cycle_3 : Int → Int) (cycleLength_0 : Int → Int) (cycleLength_1 : Int → Int) (cycleLength_2 : Int → Int) (cycleLength_3 : Int → Int) (after_2 : Int → Int) (after_3 : Int → Int) (k19 : 0 ≤ x19 ∧ x19 ≤ 0) (fe_0_5_1 : blockNodes_0 = blockNodes_1) (fe_0_6_1 : drawnNodes_0 = drawnNodes_1) (fe_0_7_1 : cycles_0 = cycles_1) (fe_2_5_1 : nodes_0o2 = nodes_1o2) (fe_2_6_1 : edges_0o2 = edges_1o2) (fe_0_5_2 : blockNodes_1 = blockNodes_2) (fe_0_6_2 : drawnNodes_1 = drawnNodes_2) (fe_0_7_2 : cycles_1 = cycles_2) (fe_2_5_2 : nodes_1o2 = nodes_2o2) (fe_2_6_2 : edges_1o2 = edges_2o2) (fe_0_5_3 : blockNodes_2 = blockNodes_3) (fe_2_5_3 : nodes_2o2 = nodes_3o2) (fe_2_6_3 : edges_2o2 = edges_3o2) (hE_0_2_1 : ∀ j : Int, block_0 j = block_1 j) (hE_0_2_2 : ∀ j : Int, block_1 j = block_2 j) (hE_0_2_3 : ∀ j : Int, block_2 j = block_3 j) (hE_0_8_1 : ∀ j : Int, cycle_0 j = cycle_1 j) (hE_0_8_2 : ∀ j : Int, cycle_1 j = cycle_2 j) (hE_0_8_3 : ∀ j : Int, cycle_2 j = cycle_3 j) (hE_0_9_1 : ∀ j : Int, cycleLength_0 j = cycleLength_1 j) (hE_0_9_2 : ∀ j : Int, cycleLength_1 j = cycleLength_2 j) (hE_0_9_3 : ∀ j : Int, cycleLength_2 j = cycleLength_3 j) (hE_0_12_3 : ∀ j : Int, after_2 j = after_3 j) (hE_2_7_1 : ∀ j : Int, tail_0o2 j = tail_1o2 j) (hE_2_7_2 : ∀ j : Int, tail_1o2 j = tail_2o2 j) (hE_2_7_3 : ∀ j : Int, tail_2o2 j = tail_3o2 j) (hE_2_8_1 : ∀ j : Int, head_0o2 j = head_1o2 j) (hE_2_8_2 : ∀ j : Int, head_1o2 j = head_2o2 j) (hE_2_8_3 : ∀ j : Int, head_2o2 j = head_3o2 j) (hE_2_9_1 : ∀ j : Int, near_0o2 j = near_1o2 j) (hE_2_9_2 : ∀ j : Int, near_1o2 j = near_2o2 j) (hE_2_9_3 : ∀ j : Int, near_2o2 j = near_3o2 j) (kz_0_5 : 0 ≤ blockNodes_0 ∧ blockNodes_0 ≤ 33554431) (kz_0_6 : 0 ≤ drawnNodes_0 ∧ drawnNodes_0 ≤ 33554431) (kz_0_7 : 0 ≤ cycles_0 ∧ cycles_0 ≤ 50) (kz_2_5 : 0 ≤ nodes_0o2 ∧ nodes_0o2 ≤ 24) (kz_2_6 : 0 ≤ edges_0o2 ∧ edges_0o2 ≤ 72) : (x19 ≤ 0) ∨ (1 ≤ cycles_0) := by
  subst fe_0_5_1
  subst fe_0_6_1
  subst fe_0_7_1
  subst fe_2_5_1
  subst fe_2_6_1
  subst fe_0_5_2
  subst fe_0_6_2
  subst fe_0_7_2
  subst fe_2_5_2
  subst fe_2_6_2
  subst fe_0_5_3
  subst fe_2_5_3
  subst fe_2_6_3
  have e_hE_0_2_1 := funext hE_0_2_1; subst e_hE_0_2_1
  have e_hE_0_2_2 := funext hE_0_2_2; subst e_hE_0_2_2
  have e_hE_0_2_3 := funext hE_0_2_3; subst e_hE_0_2_3
  have e_hE_0_8_1 := funext hE_0_8_1; subst e_hE_0_8_1
  have e_hE_0_8_2 := funext hE_0_8_2; subst e_hE_0_8_2
  have e_hE_0_8_3 := funext hE_0_8_3; subst e_hE_0_8_3
  have e_hE_0_9_1 := funext hE_0_9_1; subst e_hE_0_9_1
  have e_hE_0_9_2 := funext hE_0_9_2; subst e_hE_0_9_2
  have e_hE_0_9_3 := funext hE_0_9_3; subst e_hE_0_9_3
  have e_hE_0_12_3 := funext hE_0_12_3; subst e_hE_0_12_3
  have e_hE_2_7_1 := funext hE_2_7_1; subst e_hE_2_7_1
  have e_hE_2_7_2 := funext hE_2_7_2; subst e_hE_2_7_2
  have e_hE_2_7_3 := funext hE_2_7_3; subst e_hE_2_7_3
  have e_hE_2_8_1 := funext hE_2_8_1; subst e_hE_2_8_1
  have e_hE_2_8_2 := funext hE_2_8_2; subst e_hE_2_8_2
  have e_hE_2_8_3 := funext hE_2_8_3; subst e_hE_2_8_3
  have e_hE_2_9_1 := funext hE_2_9_1; subst e_hE_2_9_1
  have e_hE_2_9_2 := funext hE_2_9_2; subst e_hE_2_9_2
  have e_hE_2_9_3 := funext hE_2_9_3; subst e_hE_2_9_3
  first
    | omega
set_option maxHeartbeats 4000000 in
theorem vc_Em_beginBlock_at_gn_7_3 (x19 : Int) (cycles_0 : Int) (blockNodes_0 : Int) (block_0 : Int → Int) (tail_0o2 : Int → Int) (head_0o2 : Int → Int) (nodes_0o2 : Int) (edges_0o2 : Int) (near_0o2 : Int → Int) (block_1 : Int → Int) (tail_1o2 : Int → Int) (head_1o2 : Int → Int) (blockNodes_1 : Int) (nodes_1o2 : Int) (edges_1o2 : Int) (near_1o2 : Int → Int) (block_2 : Int → Int) (tail_2o2 : Int → Int) (head_2o2 : Int → Int) (blockNodes_2 : Int) (nodes_2o2 : Int) (edges_2o2 : Int) (near_2o2 : Int → Int) (block_3 : Int → Int) (tail_3o2 : Int → Int) (head_3o2 : Int → Int) (blockNodes_3 : Int) (nodes_3o2 : Int) (edges_3o2 : Int) (near_3o2 : Int → Int) (drawnNodes_0 : Int) (drawnNodes_1 : Int) (cycles_1 : Int) (drawnNodes_2 : Int) (cycles_2 : Int) (cycle_0 : Int → Int) (cycle_1 : Int → Int) (cycle_2 : Int → Int) (cycle_3 : Int → Int) (cycleLength_0 : Int → Int) (cycleLength_1 : Int → Int) (cycleLength_2 : Int → Int) (cycleLength_3 : Int → Int) (after_2 : Int → Int) (after_3 : Int → Int) (k19 : 0 ≤ x19 ∧ x19 ≤ 0) (fe_0_5_1 : blockNodes_0 = blockNodes_1) (fe_0_6_1 : drawnNodes_0 = drawnNodes_1) (fe_0_7_1 : cycles_0 = cycles_1) (fe_2_5_1 : nodes_0o2 = nodes_1o2) (fe_2_6_1 : edges_0o2 = edges_1o2) (fe_0_5_2 : blockNodes_1 = blockNodes_2) (fe_0_6_2 : drawnNodes_1 = drawnNodes_2) (fe_0_7_2 : cycles_1 = cycles_2) (fe_2_5_2 : nodes_1o2 = nodes_2o2) (fe_2_6_2 : edges_1o2 = edges_2o2) (fe_0_5_3 : blockNodes_2 = blockNodes_3) (fe_2_5_3 : nodes_2o2 = nodes_3o2) (fe_2_6_3 : edges_2o2 = edges_3o2) (hE_0_2_1 : ∀ j : Int, block_0 j = block_1 j) (hE_0_2_2 : ∀ j : Int, block_1 j = block_2 j) (hE_0_2_3 : ∀ j : Int, block_2 j = block_3 j) (hE_0_8_1 : ∀ j : Int, cycle_0 j = cycle_1 j) (hE_0_8_2 : ∀ j : Int, cycle_1 j = cycle_2 j) (hE_0_8_3 : ∀ j : Int, cycle_2 j = cycle_3 j) (hE_0_9_1 : ∀ j : Int, cycleLength_0 j = cycleLength_1 j) (hE_0_9_2 : ∀ j : Int, cycleLength_1 j = cycleLength_2 j) (hE_0_9_3 : ∀ j : Int, cycleLength_2 j = cycleLength_3 j) (hE_0_12_3 : ∀ j : Int, after_2 j = after_3 j) (hE_2_7_1 : ∀ j : Int, tail_0o2 j = tail_1o2 j) (hE_2_7_2 : ∀ j : Int, tail_1o2 j = tail_2o2 j) (hE_2_7_3 : ∀ j : Int, tail_2o2 j = tail_3o2 j) (hE_2_8_1 : ∀ j : Int, head_0o2 j = head_1o2 j) (hE_2_8_2 : ∀ j : Int, head_1o2 j = head_2o2 j) (hE_2_8_3 : ∀ j : Int, head_2o2 j = head_3o2 j) (hE_2_9_1 : ∀ j : Int, near_0o2 j = near_1o2 j) (hE_2_9_2 : ∀ j : Int, near_1o2 j = near_2o2 j) (hE_2_9_3 : ∀ j : Int, near_2o2 j = near_3o2 j) (kz_0_5 : 0 ≤ blockNodes_0 ∧ blockNodes_0 ≤ 33554431) (kz_0_6 : 0 ≤ drawnNodes_0 ∧ drawnNodes_0 ≤ 33554431) (kz_0_7 : 0 ≤ cycles_0 ∧ cycles_0 ≤ 50) (kz_2_5 : 0 ≤ nodes_0o2 ∧ nodes_0o2 ≤ 24) (kz_2_6 : 0 ≤ edges_0o2 ∧ edges_0o2 ≤ 72) : DBA (drawnNodes_0) (blockNodes_0) (x19) := by
  subst fe_0_5_1
  subst fe_0_6_1
  subst fe_0_7_1
  subst fe_2_5_1
  subst fe_2_6_1
  subst fe_0_5_2
  subst fe_0_6_2
  subst fe_0_7_2
  subst fe_2_5_2
  subst fe_2_6_2
  subst fe_0_5_3
  subst fe_2_5_3
  subst fe_2_6_3
  have e_hE_0_2_1 := funext hE_0_2_1; subst e_hE_0_2_1
  have e_hE_0_2_2 := funext hE_0_2_2; subst e_hE_0_2_2
  have e_hE_0_2_3 := funext hE_0_2_3; subst e_hE_0_2_3
  have e_hE_0_8_1 := funext hE_0_8_1; subst e_hE_0_8_1
  have e_hE_0_8_2 := funext hE_0_8_2; subst e_hE_0_8_2
  have e_hE_0_8_3 := funext hE_0_8_3; subst e_hE_0_8_3
  have e_hE_0_9_1 := funext hE_0_9_1; subst e_hE_0_9_1
  have e_hE_0_9_2 := funext hE_0_9_2; subst e_hE_0_9_2
  have e_hE_0_9_3 := funext hE_0_9_3; subst e_hE_0_9_3
  have e_hE_0_12_3 := funext hE_0_12_3; subst e_hE_0_12_3
  have e_hE_2_7_1 := funext hE_2_7_1; subst e_hE_2_7_1
  have e_hE_2_7_2 := funext hE_2_7_2; subst e_hE_2_7_2
  have e_hE_2_7_3 := funext hE_2_7_3; subst e_hE_2_7_3
  have e_hE_2_8_1 := funext hE_2_8_1; subst e_hE_2_8_1
  have e_hE_2_8_2 := funext hE_2_8_2; subst e_hE_2_8_2
  have e_hE_2_8_3 := funext hE_2_8_3; subst e_hE_2_8_3
  have e_hE_2_9_1 := funext hE_2_9_1; subst e_hE_2_9_1
  have e_hE_2_9_2 := funext hE_2_9_2; subst e_hE_2_9_2
  have e_hE_2_9_3 := funext hE_2_9_3; subst e_hE_2_9_3
  first
    | exact Or.inl (by omega)
    | exact Or.inr ⟨x13, by omega, by omega, ‹BTD _ _›, ‹BTN _ _›⟩
def o_Em_beginBlock_at_gn_7 : or_T := (121, 20, [(0, (2, 0, 0, [1])), (1, (0, 0, 71, [])), (2, (2, 0, 0, [5])), (5, (0, -1, 71, [])), (7, (0, -1, -1, [])), (10, (0, 0, 0, [])), (12, (2, 0, 0, [33])), (19, (0, 0, 0, []))], [(9, [10, 3], [7]), (24, [2, 9], []), (24, [0, 3], []), (24, [1, 4], []), (100, [12, 18, 5], []), (100, [12, 14, 5], []), (101, [3, 10], [7]), (8, [7], [2]), (20, [3, 9, 4, 5, 7], [60, 3, 3, 601, 5, 1005, 1006, 2, 1007, 1008])], [], [], [(20, [0, 2, 1], [60, 3, 3, 600, 5, 1005, 1006, 2, 1007, 1008]), (20, [0], [60, 2, 2, 603, 7, 6, 8, 9]), (20, [19, 0], [50, 1, 0, 1007, 3, 6, 0, 2, 1, 0, 0, 0, 0, 2, 0, 1, 2, 1, 7]), (20, [0, 19], [60, 2, 0, 607, 6, 5])], [], [])
theorem oo_Em_beginBlock_at_gn_7 {kA : Nat → ClassId} : or_ok PRD kA GG o_Em_beginBlock_at_gn_7 := by
  refine or_mk fun A ta ws vs hD hth hl => ?_
  intro t0 r0 t1 k1 t2 r2 t5 k5 t7 k7 t10 k10 t12 r12 t19 k19 f1 f5 f6 f7 ta1 w1 le1 s1 ta2 w2 le2 s2 ta3 w3 le3 s3 f15 f16
  replace f1 := shm_198 f1
  replace f5 := shm_5 f5
  replace f6 := shm_5 f6
  replace f7 := shm_5 f7
  have s1 : (∀ b j, w_el ws b j = if b = v_ad (n_v vs 12) ∧ j = (v_iv (n_v vs 18)).toNat then v_iv (n_v vs 5) else w_el w1 b j) ∧ ∀ b k, w_fd ws b k = w_fd w1 b k := s1.2
  have s2 : (∀ b j, w_el w1 b j = if b = v_ad (n_v vs 12) ∧ j = (v_iv (n_v vs 14)).toNat then v_iv (n_v vs 5) else w_el w2 b j) ∧ ∀ b k, w_fd w1 b k = w_fd w2 b k := s2.2
  have s3 : (∀ b j, w_el w2 b j = w_el w3 b j) ∧ ∀ b j, w_fd w2 b j = if b = v_ad (n_v vs 3) ∧ j = 7 then n_v vs 10 else w_fd w3 b j := s3.2
  replace f16 := shm_1681 f16
  have q9 : n_v vs 9 = n_v vs 2 := f5.symm
  have q3 : n_v vs 3 = n_v vs 0 := f6.symm
  have q4 : n_v vs 4 = n_v vs 1 := f7.symm
  simp only [q3] at f1
  rw [q3] at s3
  simp only [q9, q3, q4] at f16
  have ar_0_2_1 : w_ar w1 (n_v vs 0) 2 = w_ar ws (n_v vs 0) 2 := congrArg v_ad (s1.2 _ _).symm
  have ar_0_2_2 : w_ar w2 (n_v vs 0) 2 = w_ar ws (n_v vs 0) 2 := by rw [← ar_0_2_1]; show v_ad (w_fd w2 _ _) = v_ad (w_fd w1 _ _); rw [s2.2]
  have ar_0_2_3 : w_ar w3 (n_v vs 0) 2 = w_ar ws (n_v vs 0) 2 := by rw [← ar_0_2_2]; show v_ad (w_fd w3 _ _) = v_ad (w_fd w2 _ _); rw [s3.2, if_neg (fun e => absurd e.2 (by decide))]
  have cr_0_2 := fdq_56 hD hth r0
  have cr_0_8 := fdq_51 hD hth r0
  have cr_0_9 := fdq_50 hD hth r0
  have ar_2_7_1 : w_ar w1 (n_v vs 2) 7 = w_ar ws (n_v vs 2) 7 := congrArg v_ad (s1.2 _ _).symm
  have ar_2_7_2 : w_ar w2 (n_v vs 2) 7 = w_ar ws (n_v vs 2) 7 := by rw [← ar_2_7_1]; show v_ad (w_fd w2 _ _) = v_ad (w_fd w1 _ _); rw [s2.2]
  have ar_2_7_3 : w_ar w3 (n_v vs 2) 7 = w_ar ws (n_v vs 2) 7 := by rw [← ar_2_7_2]; show v_ad (w_fd w3 _ _) = v_ad (w_fd w2 _ _); rw [s3.2, if_neg (fun e => by have e1 := e.1; have e2 := r2; rw [e1, r0] at e2; exact absurd (Option.some.inj e2) (by decide))]
  have cr_2_7 := fdq_57 hD hth r2
  have ar_2_8_1 : w_ar w1 (n_v vs 2) 8 = w_ar ws (n_v vs 2) 8 := congrArg v_ad (s1.2 _ _).symm
  have ar_2_8_2 : w_ar w2 (n_v vs 2) 8 = w_ar ws (n_v vs 2) 8 := by rw [← ar_2_8_1]; show v_ad (w_fd w2 _ _) = v_ad (w_fd w1 _ _); rw [s2.2]
  have ar_2_8_3 : w_ar w3 (n_v vs 2) 8 = w_ar ws (n_v vs 2) 8 := by rw [← ar_2_8_2]; show v_ad (w_fd w3 _ _) = v_ad (w_fd w2 _ _); rw [s3.2, if_neg (fun e => absurd e.2 (by decide))]
  have cr_2_8 := fdq_58 hD hth r2
  have ar_2_9_1 : w_ar w1 (n_v vs 2) 9 = w_ar ws (n_v vs 2) 9 := congrArg v_ad (s1.2 _ _).symm
  have ar_2_9_2 : w_ar w2 (n_v vs 2) 9 = w_ar ws (n_v vs 2) 9 := by rw [← ar_2_9_1]; show v_ad (w_fd w2 _ _) = v_ad (w_fd w1 _ _); rw [s2.2]
  have ar_2_9_3 : w_ar w3 (n_v vs 2) 9 = w_ar ws (n_v vs 2) 9 := by rw [← ar_2_9_2]; show v_ad (w_fd w3 _ _) = v_ad (w_fd w2 _ _); rw [s3.2, if_neg (fun e => absurd e.2 (by decide))]
  have cr_2_9 := fdq_80 hD hth r2
  have g1 : v_iv (n_v vs 10) = w_fi ws (n_v vs 0) 7 := congrArg v_iv f1
  simp only [ar_0_2_1, ar_2_7_1, ar_2_8_1, ar_2_9_1, ar_0_2_2, ar_2_7_2, ar_2_8_2, ar_2_9_2, ar_0_2_3, ar_2_7_3, ar_2_8_3, ar_2_9_3] at f16
  have fe_0_5_1 : w_fi ws (n_v vs 0) 5 = w_fi w1 (n_v vs 0) 5 := congrArg v_iv (s1.2 _ _)
  have fe_0_6_1 : w_fi ws (n_v vs 0) 6 = w_fi w1 (n_v vs 0) 6 := congrArg v_iv (s1.2 _ _)
  have fe_0_7_1 : w_fi ws (n_v vs 0) 7 = w_fi w1 (n_v vs 0) 7 := congrArg v_iv (s1.2 _ _)
  have fe_2_5_1 : w_fi ws (n_v vs 2) 5 = w_fi w1 (n_v vs 2) 5 := congrArg v_iv (s1.2 _ _)
  have fe_2_6_1 : w_fi ws (n_v vs 2) 6 = w_fi w1 (n_v vs 2) 6 := congrArg v_iv (s1.2 _ _)
  have fe_0_5_2 : w_fi w1 (n_v vs 0) 5 = w_fi w2 (n_v vs 0) 5 := congrArg v_iv (s2.2 _ _)
  have fe_0_6_2 : w_fi w1 (n_v vs 0) 6 = w_fi w2 (n_v vs 0) 6 := congrArg v_iv (s2.2 _ _)
  have fe_0_7_2 : w_fi w1 (n_v vs 0) 7 = w_fi w2 (n_v vs 0) 7 := congrArg v_iv (s2.2 _ _)
  have fe_2_5_2 : w_fi w1 (n_v vs 2) 5 = w_fi w2 (n_v vs 2) 5 := congrArg v_iv (s2.2 _ _)
  have fe_2_6_2 : w_fi w1 (n_v vs 2) 6 = w_fi w2 (n_v vs 2) 6 := congrArg v_iv (s2.2 _ _)
  have fe_0_5_3 : w_fi w2 (n_v vs 0) 5 = w_fi w3 (n_v vs 0) 5 := by show v_iv (w_fd _ _ _) = v_iv (w_fd _ _ _); rw [s3.2, if_neg (fun e => absurd e.2 (by decide))]
  have fe_2_5_3 : w_fi w2 (n_v vs 2) 5 = w_fi w3 (n_v vs 2) 5 := by show v_iv (w_fd _ _ _) = v_iv (w_fd _ _ _); rw [s3.2, if_neg (fun e => absurd e.2 (by decide))]
  have fe_2_6_3 : w_fi w2 (n_v vs 2) 6 = w_fi w3 (n_v vs 2) 6 := by show v_iv (w_fd _ _ _) = v_iv (w_fd _ _ _); rw [s3.2, if_neg (fun e => absurd e.2 (by decide))]
  have hE_0_2_1 : ∀ j : Int, w_ei ws (w_ar ws (n_v vs 0) 2) j = w_ei w1 (w_ar ws (n_v vs 0) 2) j := el_kp s1.1 r12 cr_0_2 (by decide)
  have hE_0_2_2 : ∀ j : Int, w_ei w1 (w_ar ws (n_v vs 0) 2) j = w_ei w2 (w_ar ws (n_v vs 0) 2) j := el_kp s2.1 r12 cr_0_2 (by decide)
  have hE_0_2_3 : ∀ j : Int, w_ei w2 (w_ar ws (n_v vs 0) 2) j = w_ei w3 (w_ar ws (n_v vs 0) 2) j := fun j => s3.1 _ _
  have hE_0_8_1 : ∀ j : Int, w_ei ws (w_ar ws (n_v vs 0) 8) j = w_ei w1 (w_ar ws (n_v vs 0) 8) j := el_kp s1.1 r12 cr_0_8 (by decide)
  have hE_0_8_2 : ∀ j : Int, w_ei w1 (w_ar ws (n_v vs 0) 8) j = w_ei w2 (w_ar ws (n_v vs 0) 8) j := el_kp s2.1 r12 cr_0_8 (by decide)
  have hE_0_8_3 : ∀ j : Int, w_ei w2 (w_ar ws (n_v vs 0) 8) j = w_ei w3 (w_ar ws (n_v vs 0) 8) j := fun j => s3.1 _ _
  have hE_0_9_1 : ∀ j : Int, w_ei ws (w_ar ws (n_v vs 0) 9) j = w_ei w1 (w_ar ws (n_v vs 0) 9) j := el_kp s1.1 r12 cr_0_9 (by decide)
  have hE_0_9_2 : ∀ j : Int, w_ei w1 (w_ar ws (n_v vs 0) 9) j = w_ei w2 (w_ar ws (n_v vs 0) 9) j := el_kp s2.1 r12 cr_0_9 (by decide)
  have hE_0_9_3 : ∀ j : Int, w_ei w2 (w_ar ws (n_v vs 0) 9) j = w_ei w3 (w_ar ws (n_v vs 0) 9) j := fun j => s3.1 _ _
  have hE_0_12_3 : ∀ j : Int, w_ei w2 (w_ar ws (n_v vs 0) 12) j = w_ei w3 (w_ar ws (n_v vs 0) 12) j := fun j => s3.1 _ _
  have hE_2_7_1 : ∀ j : Int, w_ei ws (w_ar ws (n_v vs 2) 7) j = w_ei w1 (w_ar ws (n_v vs 2) 7) j := el_kp s1.1 r12 cr_2_7 (by decide)
  have hE_2_7_2 : ∀ j : Int, w_ei w1 (w_ar ws (n_v vs 2) 7) j = w_ei w2 (w_ar ws (n_v vs 2) 7) j := el_kp s2.1 r12 cr_2_7 (by decide)
  have hE_2_7_3 : ∀ j : Int, w_ei w2 (w_ar ws (n_v vs 2) 7) j = w_ei w3 (w_ar ws (n_v vs 2) 7) j := fun j => s3.1 _ _
  have hE_2_8_1 : ∀ j : Int, w_ei ws (w_ar ws (n_v vs 2) 8) j = w_ei w1 (w_ar ws (n_v vs 2) 8) j := el_kp s1.1 r12 cr_2_8 (by decide)
  have hE_2_8_2 : ∀ j : Int, w_ei w1 (w_ar ws (n_v vs 2) 8) j = w_ei w2 (w_ar ws (n_v vs 2) 8) j := el_kp s2.1 r12 cr_2_8 (by decide)
  have hE_2_8_3 : ∀ j : Int, w_ei w2 (w_ar ws (n_v vs 2) 8) j = w_ei w3 (w_ar ws (n_v vs 2) 8) j := fun j => s3.1 _ _
  have hE_2_9_1 : ∀ j : Int, w_ei ws (w_ar ws (n_v vs 2) 9) j = w_ei w1 (w_ar ws (n_v vs 2) 9) j := el_kp s1.1 r12 cr_2_9 (by decide)
  have hE_2_9_2 : ∀ j : Int, w_ei w1 (w_ar ws (n_v vs 2) 9) j = w_ei w2 (w_ar ws (n_v vs 2) 9) j := el_kp s2.1 r12 cr_2_9 (by decide)
  have hE_2_9_3 : ∀ j : Int, w_ei w2 (w_ar ws (n_v vs 2) 9) j = w_ei w3 (w_ar ws (n_v vs 2) 9) j := fun j => s3.1 _ _
  have kz_0_5 := fdq_283 hD hth r0
  have kz_0_6 := fdq_53 hD hth r0
  have kz_0_7 := fdq_49 hD hth r0
  have kz_2_5 := fdq_82 hD hth r2
  have kz_2_6 := fdq_59 hD hth r2
  have nf0 : fc_1 PRD (20, [0, 2, 1], [60, 3, 3, 600, 5, 1005, 1006, 2, 1007, 1008]) ws (vs) := ⟨nf_in hl rfl, sgq_1338 (vc_Em_beginBlock_at_gn_7_0 (v_iv (n_v vs 1)) (v_iv (n_v vs 5)) (v_iv (n_v vs 7)) (w_fi ws (n_v vs 0) 7) (w_fi ws (n_v vs 0) 5) (w_ei ws (w_ar ws (n_v vs 0) 2)) (w_ei ws (w_ar ws (n_v vs 2) 7)) (w_ei ws (w_ar ws (n_v vs 2) 8)) (w_fi ws (n_v vs 2) 5) (w_fi ws (n_v vs 2) 6) (w_ei ws (w_ar ws (n_v vs 2) 9)) (w_ei w1 (w_ar ws (n_v vs 0) 2)) (w_ei w1 (w_ar ws (n_v vs 2) 7)) (w_ei w1 (w_ar ws (n_v vs 2) 8)) (w_fi w1 (n_v vs 0) 5) (w_fi w1 (n_v vs 2) 5) (w_fi w1 (n_v vs 2) 6) (w_ei w1 (w_ar ws (n_v vs 2) 9)) (w_ei w2 (w_ar ws (n_v vs 0) 2)) (w_ei w2 (w_ar ws (n_v vs 2) 7)) (w_ei w2 (w_ar ws (n_v vs 2) 8)) (w_fi w2 (n_v vs 0) 5) (w_fi w2 (n_v vs 2) 5) (w_fi w2 (n_v vs 2) 6) (w_ei w2 (w_ar ws (n_v vs 2) 9)) (w_ei w3 (w_ar ws (n_v vs 0) 2)) (w_ei w3 (w_ar ws (n_v vs 2) 7)) (w_ei w3 (w_ar ws (n_v vs 2) 8)) (w_fi w3 (n_v vs 0) 5) (w_fi w3 (n_v vs 2) 5) (w_fi w3 (n_v vs 2) 6) (w_ei w3 (w_ar ws (n_v vs 2) 9)) (w_fi ws (n_v vs 0) 6) (w_fi w1 (n_v vs 0) 6) (w_fi w1 (n_v vs 0) 7) (w_fi w2 (n_v vs 0) 6) (w_fi w2 (n_v vs 0) 7) (w_ei ws (w_ar ws (n_v vs 0) 8)) (w_ei w1 (w_ar ws (n_v vs 0) 8)) (w_ei w2 (w_ar ws (n_v vs 0) 8)) (w_ei w3 (w_ar ws (n_v vs 0) 8)) (w_ei ws (w_ar ws (n_v vs 0) 9)) (w_ei w1 (w_ar ws (n_v vs 0) 9)) (w_ei w2 (w_ar ws (n_v vs 0) 9)) (w_ei w3 (w_ar ws (n_v vs 0) 9)) (w_ei w2 (w_ar ws (n_v vs 0) 12)) (w_ei w3 (w_ar ws (n_v vs 0) 12)) k1 k5 k7 (shm_39 f15) f16 fe_0_5_1 fe_0_6_1 fe_0_7_1 fe_2_5_1 fe_2_6_1 fe_0_5_2 fe_0_6_2 fe_0_7_2 fe_2_5_2 fe_2_6_2 fe_0_5_3 fe_2_5_3 fe_2_6_3 hE_0_2_1 hE_0_2_2 hE_0_2_3 hE_0_8_1 hE_0_8_2 hE_0_8_3 hE_0_9_1 hE_0_9_2 hE_0_9_3 hE_0_12_3 hE_2_7_1 hE_2_7_2 hE_2_7_3 hE_2_8_1 hE_2_8_2 hE_2_8_3 hE_2_9_1 hE_2_9_2 hE_2_9_3 kz_0_5 kz_0_6 kz_0_7 kz_2_5 kz_2_6)⟩
  have nf1 : fc_1 PRD (20, [0], [60, 2, 2, 603, 7, 6, 8, 9]) ws (vs) := ⟨nf_in hl rfl, sgq_351 (vc_Em_beginBlock_at_gn_7_1 (v_iv (n_v vs 10)) (w_fi ws (n_v vs 0) 7) (w_fi ws (n_v vs 0) 5) (w_ei ws (w_ar ws (n_v vs 0) 2)) (w_ei ws (w_ar ws (n_v vs 2) 7)) (w_ei ws (w_ar ws (n_v vs 2) 8)) (w_fi ws (n_v vs 2) 5) (w_fi ws (n_v vs 2) 6) (w_ei ws (w_ar ws (n_v vs 2) 9)) (w_ei w1 (w_ar ws (n_v vs 0) 2)) (w_ei w1 (w_ar ws (n_v vs 2) 7)) (w_ei w1 (w_ar ws (n_v vs 2) 8)) (w_fi w1 (n_v vs 0) 5) (w_fi w1 (n_v vs 2) 5) (w_fi w1 (n_v vs 2) 6) (w_ei w1 (w_ar ws (n_v vs 2) 9)) (w_ei w2 (w_ar ws (n_v vs 0) 2)) (w_ei w2 (w_ar ws (n_v vs 2) 7)) (w_ei w2 (w_ar ws (n_v vs 2) 8)) (w_fi w2 (n_v vs 0) 5) (w_fi w2 (n_v vs 2) 5) (w_fi w2 (n_v vs 2) 6) (w_ei w2 (w_ar ws (n_v vs 2) 9)) (w_ei w3 (w_ar ws (n_v vs 0) 2)) (w_ei w3 (w_ar ws (n_v vs 2) 7)) (w_ei w3 (w_ar ws (n_v vs 2) 8)) (w_fi w3 (n_v vs 0) 5) (w_fi w3 (n_v vs 2) 5) (w_fi w3 (n_v vs 2) 6) (w_ei w3 (w_ar ws (n_v vs 2) 9)) (w_fi ws (n_v vs 0) 6) (w_fi w1 (n_v vs 0) 6) (w_fi w1 (n_v vs 0) 7) (w_fi w2 (n_v vs 0) 6) (w_fi w2 (n_v vs 0) 7) (w_ei ws (w_ar ws (n_v vs 0) 8)) (w_ei w1 (w_ar ws (n_v vs 0) 8)) (w_ei w2 (w_ar ws (n_v vs 0) 8)) (w_ei w3 (w_ar ws (n_v vs 0) 8)) (w_ei ws (w_ar ws (n_v vs 0) 9)) (w_ei w1 (w_ar ws (n_v vs 0) 9)) (w_ei w2 (w_ar ws (n_v vs 0) 9)) (w_ei w3 (w_ar ws (n_v vs 0) 9)) (w_ei w2 (w_ar ws (n_v vs 0) 12)) (w_ei w3 (w_ar ws (n_v vs 0) 12)) k10 g1 fe_0_5_1 fe_0_6_1 fe_0_7_1 fe_2_5_1 fe_2_6_1 fe_0_5_2 fe_0_6_2 fe_0_7_2 fe_2_5_2 fe_2_6_2 fe_0_5_3 fe_2_5_3 fe_2_6_3 hE_0_2_1 hE_0_2_2 hE_0_2_3 hE_0_8_1 hE_0_8_2 hE_0_8_3 hE_0_9_1 hE_0_9_2 hE_0_9_3 hE_0_12_3 hE_2_7_1 hE_2_7_2 hE_2_7_3 hE_2_8_1 hE_2_8_2 hE_2_8_3 hE_2_9_1 hE_2_9_2 hE_2_9_3 kz_0_5 kz_0_6 kz_0_7 kz_2_5 kz_2_6)⟩
  have nf2 : fc_1 PRD (20, [19, 0], [50, 1, 0, 1007, 3, 6, 0, 2, 1, 0, 0, 0, 0, 2, 0, 1, 2, 1, 7]) ws (vs) := ⟨nf_in hl rfl, sgq_1684 (vc_Em_beginBlock_at_gn_7_2 (v_iv (n_v vs 19)) (w_fi ws (n_v vs 0) 7) (w_fi ws (n_v vs 0) 5) (w_ei ws (w_ar ws (n_v vs 0) 2)) (w_ei ws (w_ar ws (n_v vs 2) 7)) (w_ei ws (w_ar ws (n_v vs 2) 8)) (w_fi ws (n_v vs 2) 5) (w_fi ws (n_v vs 2) 6) (w_ei ws (w_ar ws (n_v vs 2) 9)) (w_ei w1 (w_ar ws (n_v vs 0) 2)) (w_ei w1 (w_ar ws (n_v vs 2) 7)) (w_ei w1 (w_ar ws (n_v vs 2) 8)) (w_fi w1 (n_v vs 0) 5) (w_fi w1 (n_v vs 2) 5) (w_fi w1 (n_v vs 2) 6) (w_ei w1 (w_ar ws (n_v vs 2) 9)) (w_ei w2 (w_ar ws (n_v vs 0) 2)) (w_ei w2 (w_ar ws (n_v vs 2) 7)) (w_ei w2 (w_ar ws (n_v vs 2) 8)) (w_fi w2 (n_v vs 0) 5) (w_fi w2 (n_v vs 2) 5) (w_fi w2 (n_v vs 2) 6) (w_ei w2 (w_ar ws (n_v vs 2) 9)) (w_ei w3 (w_ar ws (n_v vs 0) 2)) (w_ei w3 (w_ar ws (n_v vs 2) 7)) (w_ei w3 (w_ar ws (n_v vs 2) 8)) (w_fi w3 (n_v vs 0) 5) (w_fi w3 (n_v vs 2) 5) (w_fi w3 (n_v vs 2) 6) (w_ei w3 (w_ar ws (n_v vs 2) 9)) (w_fi ws (n_v vs 0) 6) (w_fi w1 (n_v vs 0) 6) (w_fi w1 (n_v vs 0) 7) (w_fi w2 (n_v vs 0) 6) (w_fi w2 (n_v vs 0) 7) (w_ei ws (w_ar ws (n_v vs 0) 8)) (w_ei w1 (w_ar ws (n_v vs 0) 8)) (w_ei w2 (w_ar ws (n_v vs 0) 8)) (w_ei w3 (w_ar ws (n_v vs 0) 8)) (w_ei ws (w_ar ws (n_v vs 0) 9)) (w_ei w1 (w_ar ws (n_v vs 0) 9)) (w_ei w2 (w_ar ws (n_v vs 0) 9)) (w_ei w3 (w_ar ws (n_v vs 0) 9)) (w_ei w2 (w_ar ws (n_v vs 0) 12)) (w_ei w3 (w_ar ws (n_v vs 0) 12)) k19 fe_0_5_1 fe_0_6_1 fe_0_7_1 fe_2_5_1 fe_2_6_1 fe_0_5_2 fe_0_6_2 fe_0_7_2 fe_2_5_2 fe_2_6_2 fe_0_5_3 fe_2_5_3 fe_2_6_3 hE_0_2_1 hE_0_2_2 hE_0_2_3 hE_0_8_1 hE_0_8_2 hE_0_8_3 hE_0_9_1 hE_0_9_2 hE_0_9_3 hE_0_12_3 hE_2_7_1 hE_2_7_2 hE_2_7_3 hE_2_8_1 hE_2_8_2 hE_2_8_3 hE_2_9_1 hE_2_9_2 hE_2_9_3 kz_0_5 kz_0_6 kz_0_7 kz_2_5 kz_2_6)⟩
  have nf3 : fc_1 PRD (20, [0, 19], [60, 2, 0, 607, 6, 5]) ws (vs) := ⟨nf_in hl rfl, sgq_1685 (vc_Em_beginBlock_at_gn_7_3 (v_iv (n_v vs 19)) (w_fi ws (n_v vs 0) 7) (w_fi ws (n_v vs 0) 5) (w_ei ws (w_ar ws (n_v vs 0) 2)) (w_ei ws (w_ar ws (n_v vs 2) 7)) (w_ei ws (w_ar ws (n_v vs 2) 8)) (w_fi ws (n_v vs 2) 5) (w_fi ws (n_v vs 2) 6) (w_ei ws (w_ar ws (n_v vs 2) 9)) (w_ei w1 (w_ar ws (n_v vs 0) 2)) (w_ei w1 (w_ar ws (n_v vs 2) 7)) (w_ei w1 (w_ar ws (n_v vs 2) 8)) (w_fi w1 (n_v vs 0) 5) (w_fi w1 (n_v vs 2) 5) (w_fi w1 (n_v vs 2) 6) (w_ei w1 (w_ar ws (n_v vs 2) 9)) (w_ei w2 (w_ar ws (n_v vs 0) 2)) (w_ei w2 (w_ar ws (n_v vs 2) 7)) (w_ei w2 (w_ar ws (n_v vs 2) 8)) (w_fi w2 (n_v vs 0) 5) (w_fi w2 (n_v vs 2) 5) (w_fi w2 (n_v vs 2) 6) (w_ei w2 (w_ar ws (n_v vs 2) 9)) (w_ei w3 (w_ar ws (n_v vs 0) 2)) (w_ei w3 (w_ar ws (n_v vs 2) 7)) (w_ei w3 (w_ar ws (n_v vs 2) 8)) (w_fi w3 (n_v vs 0) 5) (w_fi w3 (n_v vs 2) 5) (w_fi w3 (n_v vs 2) 6) (w_ei w3 (w_ar ws (n_v vs 2) 9)) (w_fi ws (n_v vs 0) 6) (w_fi w1 (n_v vs 0) 6) (w_fi w1 (n_v vs 0) 7) (w_fi w2 (n_v vs 0) 6) (w_fi w2 (n_v vs 0) 7) (w_ei ws (w_ar ws (n_v vs 0) 8)) (w_ei w1 (w_ar ws (n_v vs 0) 8)) (w_ei w2 (w_ar ws (n_v vs 0) 8)) (w_ei w3 (w_ar ws (n_v vs 0) 8)) (w_ei ws (w_ar ws (n_v vs 0) 9)) (w_ei w1 (w_ar ws (n_v vs 0) 9)) (w_ei w2 (w_ar ws (n_v vs 0) 9)) (w_ei w3 (w_ar ws (n_v vs 0) 9)) (w_ei w2 (w_ar ws (n_v vs 0) 12)) (w_ei w3 (w_ar ws (n_v vs 0) 12)) k19 fe_0_5_1 fe_0_6_1 fe_0_7_1 fe_2_5_1 fe_2_6_1 fe_0_5_2 fe_0_6_2 fe_0_7_2 fe_2_5_2 fe_2_6_2 fe_0_5_3 fe_2_5_3 fe_2_6_3 hE_0_2_1 hE_0_2_2 hE_0_2_3 hE_0_8_1 hE_0_8_2 hE_0_8_3 hE_0_9_1 hE_0_9_2 hE_0_9_3 hE_0_12_3 hE_2_7_1 hE_2_7_2 hE_2_7_3 hE_2_8_1 hE_2_8_2 hE_2_8_3 hE_2_9_1 hE_2_9_2 hE_2_9_3 kz_0_5 kz_0_6 kz_0_7 kz_2_5 kz_2_6)⟩
  refine ⟨(fun _ h => (by cases h)), [], trivial, ?_, (fun _ h => (by cases h))⟩
  rw [List.append_nil]
  exact List.forall_mem_cons.mpr ⟨⟨show (20 : Nat) < 100 from by decide, nf0⟩, List.forall_mem_cons.mpr ⟨⟨show (20 : Nat) < 100 from by decide, nf1⟩, List.forall_mem_cons.mpr ⟨⟨show (20 : Nat) < 100 from by decide, nf2⟩, List.forall_mem_cons.mpr ⟨⟨show (20 : Nat) < 100 from by decide, nf3⟩, (fun _ h => (by cases h))⟩⟩⟩⟩
set_option maxHeartbeats 4000000 in
theorem vc_Em_beginBlock_at_gn_8_0 (x1 : Int) (x5 : Int) (x7 : Int) (x8 : Int) (x11 : Int) (x12 : Int) (blockNodes_0 : Int) (block_0 : Int → Int) (tail_0o2 : Int → Int) (head_0o2 : Int → Int) (nodes_0o2 : Int) (edges_0o2 : Int) (k1 : 0 ≤ x1 ∧ x1 ≤ 71) (k5 : (-1) ≤ x5 ∧ x5 ≤ 71) (k7 : 0 ≤ x7 ∧ x7 ≤ 71) (k11 : (-1) ≤ x11 ∧ x11 ≤ 71) (k12 : (-1) ≤ x12 ∧ x12 ≤ 70) (d0 : x7 + (-1) ≤ x12 ∧ x12 ≤ x7 + (-1)) (f2 : x11 ≠ x1) (h3 : x11 = block_0 (x7)) (f5 : 0 ≤ x7) (f6 : BBI (blockNodes_0) (nodes_0o2) (edges_0o2) (block_0) (tail_0o2) (head_0o2) (x1) (x5) (x7)) (kz_0_5 : 0 ≤ blockNodes_0 ∧ blockNodes_0 ≤ 33554431) (kz_2_5 : 0 ≤ nodes_0o2 ∧ nodes_0o2 ≤ 24) (kz_2_6 : 0 ≤ edges_0o2 ∧ edges_0o2 ≤ 72) : BBI (blockNodes_0) (nodes_0o2) (edges_0o2) (block_0) (tail_0o2) (head_0o2) (x1) (x5) (x12) := by
  first
    | exact bbi_skip ‹BBI _ _ _ _ _ _ _ _ _› (by omega) (by assumption) (by omega) (by omega)
def o_Em_beginBlock_at_gn_8 : or_T := (20, 13, [(0, (2, 0, 0, [1])), (1, (0, 0, 71, [])), (2, (2, 0, 0, [5])), (5, (0, -1, 71, [])), (7, (0, 0, 71, [])), (11, (0, -1, 71, [])), (12, (0, -1, 70, []))], [(7, [11, 4], [1]), (10, [11, 10, 7], []), (9, [10, 3], [2]), (8, [7], [3]), (20, [3, 9, 4, 5, 7], [60, 3, 3, 601, 5, 1005, 1006, 2, 1007, 1008]), (24, [2, 9], []), (24, [0, 3], []), (24, [1, 4], [])], [], [], [(20, [3, 9, 4, 5, 12], [60, 3, 3, 601, 5, 1005, 1006, 2, 1007, 1008])], [], [(12, 7, -1, -1)])
theorem oo_Em_beginBlock_at_gn_8 {kA : Nat → ClassId} : or_ok PRD kA GG o_Em_beginBlock_at_gn_8 := by
  refine or_mk fun A ta ws vs hD hth hl => ?_
  intro t0 r0 t1 k1 t2 r2 t5 k5 t7 k7 t11 k11 t12 k12 d0 f2 f3 f4 f5 f6 f8 f9 f10
  replace f2 := shm_40 f2
  replace f3 := shm_107 f3
  replace f4 := shm_120 f4
  replace f5 := shm_32 f5
  replace f6 := shm_1681 f6
  replace f8 := shm_5 f8
  replace f9 := shm_5 f9
  replace f10 := shm_5 f10
  have q9 : n_v vs 9 = n_v vs 2 := f8.symm
  have q3 : n_v vs 3 = n_v vs 0 := f9.symm
  have q4 : n_v vs 4 = n_v vs 1 := f10.symm
  simp only [q3, q4, q9] at f2 f4 f6
  have ad_10 : v_ad (n_v vs 10) = w_ar ws (n_v vs 0) 2 := congrArg v_ad f4
  simp only [ad_10] at f3
  have h3 : v_iv (n_v vs 11) = w_ei ws (w_ar ws (n_v vs 0) 2) (v_iv (n_v vs 7)) := f3
  have kz_0_5 := fdq_283 hD hth r0
  have kz_2_5 := fdq_82 hD hth r2
  have kz_2_6 := fdq_59 hD hth r2
  have nf0 : fc_1 PRD (20, [3, 9, 4, 5, 12], [60, 3, 3, 601, 5, 1005, 1006, 2, 1007, 1008]) ws (vs) := by
    refine ⟨nf_in hl rfl, sgq_1681 ?_⟩
    · show BBI (w_fi ws (n_v vs 3) 5) (w_fi ws (n_v vs 9) 5) (w_fi ws (n_v vs 9) 6) (w_ei ws (w_ar ws (n_v vs 3) 2)) (w_ei ws (w_ar ws (n_v vs 9) 7)) (w_ei ws (w_ar ws (n_v vs 9) 8)) (v_iv (n_v vs 4)) (v_iv (n_v vs 5)) (v_iv (n_v vs 12))
      simp only [q9, q3, q4]
      exact vc_Em_beginBlock_at_gn_8_0 (v_iv (n_v vs 1)) (v_iv (n_v vs 5)) (v_iv (n_v vs 7)) (v_iv (n_v vs 8)) (v_iv (n_v vs 11)) (v_iv (n_v vs 12)) (w_fi ws (n_v vs 0) 5) (w_ei ws (w_ar ws (n_v vs 0) 2)) (w_ei ws (w_ar ws (n_v vs 2) 7)) (w_ei ws (w_ar ws (n_v vs 2) 8)) (w_fi ws (n_v vs 2) 5) (w_fi ws (n_v vs 2) 6) k1 k5 k7 k11 k12 d0 f2 h3 f5 f6 kz_0_5 kz_2_5 kz_2_6
  refine ⟨(fun _ h => (by cases h)), [], trivial, ?_, (fun _ h => (by cases h))⟩
  rw [List.append_nil]
  exact List.forall_mem_cons.mpr ⟨⟨show (20 : Nat) < 100 from by decide, nf0⟩, (fun _ h => (by cases h))⟩
set_option maxHeartbeats 4000000 in
theorem vc_Em_beginBlock_at_gn_9_0 (x1 : Int) (x5 : Int) (x7 : Int) (x8 : Int) (x11 : Int) (x15 : Int) (x17 : Int) (x18 : Int) (x19 : Int) (x21 : Int) (x22 : Int) (x23 : Int) (x24 : Int) (x25 : Int) (blockNodes_0 : Int) (tail_0o2 : Int → Int) (head_0o2 : Int → Int) (near_0o2 : Int → Int) (nodes_0o2 : Int) (edges_0o2 : Int) (head_1o2 : Int → Int) (tail_1o2 : Int → Int) (blockNodes_1 : Int) (block_1 : Int → Int) (nodes_1o2 : Int) (edges_1o2 : Int) (near_1o2 : Int → Int) (block_2 : Int → Int) (tail_2o2 : Int → Int) (head_2o2 : Int → Int) (blockNodes_2 : Int) (nodes_2o2 : Int) (edges_2o2 : Int) (near_2o2 : Int → Int) (block_0 : Int → Int) (drawn_0 : Int → Int) (drawn_1 : Int → Int) (k1 : 0 ≤ x1 ∧ x1 ≤ 71) (k5 : (-1) ≤ x5 ∧ x5 ≤ 71) (k7 : 0 ≤ x7 ∧ x7 ≤ 71) (k8 : 0 ≤ x8 ∧ x8 ≤ 16777215) (k11 : 0 ≤ x11 ∧ x11 ≤ 71) (k15 : 1 ≤ x15 ∧ x15 ≤ 1) (k17 : 0 ≤ x17 ∧ x17 ≤ 23) (k18 : 1 ≤ x18 ∧ x18 ≤ 8388608) (k19 : 1 ≤ x19 ∧ x19 ≤ 1) (k21 : 0 ≤ x21 ∧ x21 ≤ 23) (k22 : 1 ≤ x22 ∧ x22 ≤ 8388608) (k23 : 0 ≤ x23 ∧ x23 ≤ 16777215) (k24 : 0 ≤ x24 ∧ x24 ≤ 16777215) (k25 : (-1) ≤ x25 ∧ x25 ≤ 70) (d0 : x7 + (-1) ≤ x25 ∧ x25 ≤ x7 + (-1)) (f12 : bvp (x24) = bvp (x8) ||| bvp (x23)) (f14 : bvp (x23) = bvp (x18) ||| bvp (x22)) (f15 : bvp (x22) = bvp (x19) <<< (x21).toNat) (h16 : x21 = head_1o2 (x7)) (f17 : bvp (x18) = bvp (x15) <<< (x17).toNat) (h18 : x17 = tail_1o2 (x7)) (g19 : x8 = blockNodes_1) (f23 : x11 = x1) (h24 : x11 = block_2 (x7)) (f25 : 0 ≤ x7) (f26 : BBI (blockNodes_2) (nodes_2o2) (edges_2o2) (block_2) (tail_2o2) (head_2o2) (x1) (x5) (x7)) (f27 : NOK (nodes_2o2) (edges_2o2) (tail_2o2) (head_2o2) (near_2o2)) (fe_0_5_1 : blockNodes_0 = x24) (fe_2_5_1 : nodes_0o2 = nodes_1o2) (fe_2_6_1 : edges_0o2 = edges_1o2) (fe_0_5_2 : blockNodes_1 = blockNodes_2) (fe_2_5_2 : nodes_1o2 = nodes_2o2) (fe_2_6_2 : edges_1o2 = edges_2o2) (hE_0_2_1 : ∀ j : Int, block_0 j = block_1 j) (hE_0_2_2 : ∀ j : Int, block_1 j = block_2 j) (hE_0_3_1 : ∀ j : Int, drawn_0 j = drawn_1 j) (hE_2_7_1 : ∀ j : Int, tail_0o2 j = tail_1o2 j) (hE_2_7_2 : ∀ j : Int, tail_1o2 j = tail_2o2 j) (hE_2_8_1 : ∀ j : Int, head_0o2 j = head_1o2 j) (hE_2_8_2 : ∀ j : Int, head_1o2 j = head_2o2 j) (hE_2_9_1 : ∀ j : Int, near_0o2 j = near_1o2 j) (hE_2_9_2 : ∀ j : Int, near_1o2 j = near_2o2 j) (kz_0_5 : 0 ≤ blockNodes_0 ∧ blockNodes_0 ≤ 33554431) (kz_2_5 : 0 ≤ nodes_0o2 ∧ nodes_0o2 ≤ 24) (kz_2_6 : 0 ≤ edges_0o2 ∧ edges_0o2 ≤ 72) : BBI (blockNodes_0) (nodes_0o2) (edges_0o2) (block_0) (tail_0o2) (head_0o2) (x1) (x7) (x25) := by
  subst fe_2_5_1
  subst fe_2_6_1
  subst fe_0_5_2
  subst fe_2_5_2
  subst fe_2_6_2
  have e_hE_0_2_1 := funext hE_0_2_1; subst e_hE_0_2_1
  have e_hE_0_2_2 := funext hE_0_2_2; subst e_hE_0_2_2
  have e_hE_0_3_1 := funext hE_0_3_1; subst e_hE_0_3_1
  have e_hE_2_7_1 := funext hE_2_7_1; subst e_hE_2_7_1
  have e_hE_2_7_2 := funext hE_2_7_2; subst e_hE_2_7_2
  have e_hE_2_8_1 := funext hE_2_8_1; subst e_hE_2_8_1
  have e_hE_2_8_2 := funext hE_2_8_2; subst e_hE_2_8_2
  have e_hE_2_9_1 := funext hE_2_9_1; subst e_hE_2_9_1
  have e_hE_2_9_2 := funext hE_2_9_2; subst e_hE_2_9_2
  first
    | (have o1 : x19 = 1 := by omega
       have o2 : x15 = 1 := by omega
       subst o1 o2
       rw [show blockNodes_0 = x24 by omega]
       have hb := (‹BBI _ _ _ _ _ _ _ _ _›)
       rw [← ‹x8 = blockNodes_1›] at hb
       exact bbi_step (z0 := x11) (x := x17) (y := x21) (q1 := x18) (q2 := x22) (q3 := x23) hb (by omega) (by assumption) (by omega) ‹NOK _ _ _ _ _› (by omega) (by assumption) (by assumption) (by assumption) (by assumption) (by assumption) (by assumption) rfl (by omega))
def o_Em_beginBlock_at_gn_9 : or_T := (20, 26, [(0, (2, 0, 0, [1])), (1, (0, 0, 71, [])), (2, (2, 0, 0, [5])), (5, (0, -1, 71, [])), (7, (0, 0, 71, [])), (8, (0, 0, 16777215, [])), (11, (0, 0, 71, [])), (12, (2, 0, 0, [27])), (15, (0, 1, 1, [])), (17, (0, 0, 23, [])), (18, (0, 1, 8388608, [])), (19, (0, 1, 1, [])), (21, (0, 0, 23, [])), (22, (0, 1, 8388608, [])), (23, (0, 0, 16777215, [])), (24, (0, 0, 16777215, [])), (25, (0, -1, 70, []))], [(9, [20, 9], [8]), (9, [16, 9], [7]), (9, [10, 3], [2]), (24, [2, 9], []), (24, [0, 3], []), (24, [1, 4], []), (101, [3, 24], [5]), (16, [24, 8, 23], [1]), (16, [23, 18, 22], [1]), (16, [22, 19, 21], [3]), (10, [21, 20, 7], []), (16, [18, 15, 17], [3]), (10, [17, 16, 7], []), (9, [8, 3], [5]), (100, [12, 7, 13], []), (7, [11, 4], [0]), (10, [11, 10, 7], []), (8, [7], [3]), (20, [3, 9, 4, 5, 7], [60, 3, 3, 601, 5, 1005, 1006, 2, 1007, 1008]), (20, [9], [60, 2, 3, 595, 5, 6, 7, 8, 9])], [], [], [(20, [3, 9, 4, 7, 25], [60, 3, 3, 601, 5, 1005, 1006, 2, 1007, 1008])], [], [(25, 7, -1, -1)])
theorem oo_Em_beginBlock_at_gn_9 {kA : Nat → ClassId} : or_ok PRD kA GG o_Em_beginBlock_at_gn_9 := by
  refine or_mk fun A ta ws vs hD hth hl => ?_
  intro t0 r0 t1 k1 t2 r2 t5 k5 t7 k7 t8 k8 t11 k11 t12 r12 t15 k15 t17 k17 t18 k18 t19 k19 t21 k21 t22 k22 t23 k23 t24 k24 t25 k25 d0 f1 f2 f4 f7 f8 f9 ta1 w1 le1 s1 f12 f14 f15 f16 f17 f18 f19 ta2 w2 le2 s2 f23 f24 f25 f26 f27
  replace f1 := shm_293 f1
  replace f2 := shm_198 f2
  replace f4 := shm_120 f4
  replace f7 := shm_5 f7
  replace f8 := shm_5 f8
  replace f9 := shm_5 f9
  have s1 : (∀ b j, w_el ws b j = w_el w1 b j) ∧ ∀ b j, w_fd ws b j = if b = v_ad (n_v vs 3) ∧ j = 5 then n_v vs 24 else w_fd w1 b j := s1.2
  replace f12 := shm_354 f12
  replace f14 := shm_354 f14
  replace f15 := shm_349 f15
  replace f16 := shm_107 f16
  replace f17 := shm_349 f17
  replace f18 := shm_107 f18
  replace f19 := shm_110 f19
  have s2 : (∀ b j, w_el w1 b j = if b = v_ad (n_v vs 12) ∧ j = (v_iv (n_v vs 7)).toNat then v_iv (n_v vs 13) else w_el w2 b j) ∧ ∀ b k, w_fd w1 b k = w_fd w2 b k := s2.2
  replace f23 := shm_37 f23
  replace f24 := shm_107 f24
  replace f25 := shm_32 f25
  replace f26 := shm_1681 f26
  replace f27 := shm_408 f27
  have q9 : n_v vs 9 = n_v vs 2 := f7.symm
  have q3 : n_v vs 3 = n_v vs 0 := f8.symm
  have q4 : n_v vs 4 = n_v vs 1 := f9.symm
  simp only [q3, q9] at f1 f2 f4
  rw [q3] at s1
  simp only [q3, q9, q4] at f19 f23 f26 f27
  have ar_0_2_1 : w_ar w1 (n_v vs 0) 2 = w_ar ws (n_v vs 0) 2 := by show v_ad (w_fd w1 _ _) = v_ad (w_fd ws _ _); rw [s1.2, if_neg (fun e => absurd e.2 (by decide))]
  have ar_0_2_2 : w_ar w2 (n_v vs 0) 2 = w_ar ws (n_v vs 0) 2 := by rw [← ar_0_2_1]; show v_ad (w_fd w2 _ _) = v_ad (w_fd w1 _ _); rw [s2.2]
  have cr_0_2 := fdq_56 hD hth r0
  have ar_2_7_1 : w_ar w1 (n_v vs 2) 7 = w_ar ws (n_v vs 2) 7 := by show v_ad (w_fd w1 _ _) = v_ad (w_fd ws _ _); rw [s1.2, if_neg (fun e => absurd e.2 (by decide))]
  have ar_2_7_2 : w_ar w2 (n_v vs 2) 7 = w_ar ws (n_v vs 2) 7 := by rw [← ar_2_7_1]; show v_ad (w_fd w2 _ _) = v_ad (w_fd w1 _ _); rw [s2.2]
  have cr_2_7 := fdq_57 hD hth r2
  have ar_2_8_1 : w_ar w1 (n_v vs 2) 8 = w_ar ws (n_v vs 2) 8 := by show v_ad (w_fd w1 _ _) = v_ad (w_fd ws _ _); rw [s1.2, if_neg (fun e => absurd e.2 (by decide))]
  have ar_2_8_2 : w_ar w2 (n_v vs 2) 8 = w_ar ws (n_v vs 2) 8 := by rw [← ar_2_8_1]; show v_ad (w_fd w2 _ _) = v_ad (w_fd w1 _ _); rw [s2.2]
  have cr_2_8 := fdq_58 hD hth r2
  have ar_2_9_1 : w_ar w1 (n_v vs 2) 9 = w_ar ws (n_v vs 2) 9 := by show v_ad (w_fd w1 _ _) = v_ad (w_fd ws _ _); rw [s1.2, if_neg (fun e => absurd e.2 (by decide))]
  have ar_2_9_2 : w_ar w2 (n_v vs 2) 9 = w_ar ws (n_v vs 2) 9 := by rw [← ar_2_9_1]; show v_ad (w_fd w2 _ _) = v_ad (w_fd w1 _ _); rw [s2.2]
  have cr_2_9 := fdq_80 hD hth r2
  have ad_20 : v_ad (n_v vs 20) = w_ar ws (n_v vs 2) 8 := congrArg v_ad f1
  have ad_16 : v_ad (n_v vs 16) = w_ar ws (n_v vs 2) 7 := congrArg v_ad f2
  have ad_10 : v_ad (n_v vs 10) = w_ar ws (n_v vs 0) 2 := congrArg v_ad f4
  simp only [ad_20] at f16
  have h16 : v_iv (n_v vs 21) = w_ei w1 (w_ar ws (n_v vs 2) 8) (v_iv (n_v vs 7)) := f16
  simp only [ad_16] at f18
  have h18 : v_iv (n_v vs 17) = w_ei w1 (w_ar ws (n_v vs 2) 7) (v_iv (n_v vs 7)) := f18
  have g19 : v_iv (n_v vs 8) = w_fi w1 (n_v vs 0) 5 := congrArg v_iv f19
  simp only [ar_0_2_1, ar_2_7_1, ar_2_8_1, ar_2_9_1, ad_10] at f24
  have h24 : v_iv (n_v vs 11) = w_ei w2 (w_ar ws (n_v vs 0) 2) (v_iv (n_v vs 7)) := f24
  simp only [ar_0_2_2, ar_2_7_2, ar_2_8_2, ar_2_9_2] at f26 f27
  have fe_0_5_1 : w_fi ws (n_v vs 0) 5 = v_iv (n_v vs 24) := by show v_iv (w_fd _ _ _) = _; rw [s1.2, if_pos ⟨rfl, rfl⟩]
  have fe_2_5_1 : w_fi ws (n_v vs 2) 5 = w_fi w1 (n_v vs 2) 5 := by show v_iv (w_fd _ _ _) = v_iv (w_fd _ _ _); rw [s1.2, if_neg (fun e => by have e1 := e.1; have e2 := r2; rw [e1, r0] at e2; exact absurd (Option.some.inj e2) (by decide))]
  have fe_2_6_1 : w_fi ws (n_v vs 2) 6 = w_fi w1 (n_v vs 2) 6 := by show v_iv (w_fd _ _ _) = v_iv (w_fd _ _ _); rw [s1.2, if_neg (fun e => absurd e.2 (by decide))]
  have fe_0_5_2 : w_fi w1 (n_v vs 0) 5 = w_fi w2 (n_v vs 0) 5 := congrArg v_iv (s2.2 _ _)
  have fe_2_5_2 : w_fi w1 (n_v vs 2) 5 = w_fi w2 (n_v vs 2) 5 := congrArg v_iv (s2.2 _ _)
  have fe_2_6_2 : w_fi w1 (n_v vs 2) 6 = w_fi w2 (n_v vs 2) 6 := congrArg v_iv (s2.2 _ _)
  have hE_0_2_1 : ∀ j : Int, w_ei ws (w_ar ws (n_v vs 0) 2) j = w_ei w1 (w_ar ws (n_v vs 0) 2) j := fun j => s1.1 _ _
  have hE_0_2_2 : ∀ j : Int, w_ei w1 (w_ar ws (n_v vs 0) 2) j = w_ei w2 (w_ar ws (n_v vs 0) 2) j := el_kp s2.1 r12 cr_0_2 (by decide)
  have hE_0_3_1 : ∀ j : Int, w_ei ws (w_ar ws (n_v vs 0) 3) j = w_ei w1 (w_ar ws (n_v vs 0) 3) j := fun j => s1.1 _ _
  have hE_2_7_1 : ∀ j : Int, w_ei ws (w_ar ws (n_v vs 2) 7) j = w_ei w1 (w_ar ws (n_v vs 2) 7) j := fun j => s1.1 _ _
  have hE_2_7_2 : ∀ j : Int, w_ei w1 (w_ar ws (n_v vs 2) 7) j = w_ei w2 (w_ar ws (n_v vs 2) 7) j := el_kp s2.1 r12 cr_2_7 (by decide)
  have hE_2_8_1 : ∀ j : Int, w_ei ws (w_ar ws (n_v vs 2) 8) j = w_ei w1 (w_ar ws (n_v vs 2) 8) j := fun j => s1.1 _ _
  have hE_2_8_2 : ∀ j : Int, w_ei w1 (w_ar ws (n_v vs 2) 8) j = w_ei w2 (w_ar ws (n_v vs 2) 8) j := el_kp s2.1 r12 cr_2_8 (by decide)
  have hE_2_9_1 : ∀ j : Int, w_ei ws (w_ar ws (n_v vs 2) 9) j = w_ei w1 (w_ar ws (n_v vs 2) 9) j := fun j => s1.1 _ _
  have hE_2_9_2 : ∀ j : Int, w_ei w1 (w_ar ws (n_v vs 2) 9) j = w_ei w2 (w_ar ws (n_v vs 2) 9) j := el_kp s2.1 r12 cr_2_9 (by decide)
  have kz_0_5 := fdq_283 hD hth r0
  have kz_2_5 := fdq_82 hD hth r2
  have kz_2_6 := fdq_59 hD hth r2
  have nf0 : fc_1 PRD (20, [3, 9, 4, 7, 25], [60, 3, 3, 601, 5, 1005, 1006, 2, 1007, 1008]) ws (vs) := by
    refine ⟨nf_in hl rfl, sgq_1681 ?_⟩
    · show BBI (w_fi ws (n_v vs 3) 5) (w_fi ws (n_v vs 9) 5) (w_fi ws (n_v vs 9) 6) (w_ei ws (w_ar ws (n_v vs 3) 2)) (w_ei ws (w_ar ws (n_v vs 9) 7)) (w_ei ws (w_ar ws (n_v vs 9) 8)) (v_iv (n_v vs 4)) (v_iv (n_v vs 7)) (v_iv (n_v vs 25))
      simp only [q9, q3, q4]
      exact vc_Em_beginBlock_at_gn_9_0 (v_iv (n_v vs 1)) (v_iv (n_v vs 5)) (v_iv (n_v vs 7)) (v_iv (n_v vs 8)) (v_iv (n_v vs 11)) (v_iv (n_v vs 15)) (v_iv (n_v vs 17)) (v_iv (n_v vs 18)) (v_iv (n_v vs 19)) (v_iv (n_v vs 21)) (v_iv (n_v vs 22)) (v_iv (n_v vs 23)) (v_iv (n_v vs 24)) (v_iv (n_v vs 25)) (w_fi ws (n_v vs 0) 5) (w_ei ws (w_ar ws (n_v vs 2) 7)) (w_ei ws (w_ar ws (n_v vs 2) 8)) (w_ei ws (w_ar ws (n_v vs 2) 9)) (w_fi ws (n_v vs 2) 5) (w_fi ws (n_v vs 2) 6) (w_ei w1 (w_ar ws (n_v vs 2) 8)) (w_ei w1 (w_ar ws (n_v vs 2) 7)) (w_fi w1 (n_v vs 0) 5) (w_ei w1 (w_ar ws (n_v vs 0) 2)) (w_fi w1 (n_v vs 2) 5) (w_fi w1 (n_v vs 2) 6) (w_ei w1 (w_ar ws (n_v vs 2) 9)) (w_ei w2 (w_ar ws (n_v vs 0) 2)) (w_ei w2 (w_ar ws (n_v vs 2) 7)) (w_ei w2 (w_ar ws (n_v vs 2) 8)) (w_fi w2 (n_v vs 0) 5) (w_fi w2 (n_v vs 2) 5) (w_fi w2 (n_v vs 2) 6) (w_ei w2 (w_ar ws (n_v vs 2) 9)) (w_ei ws (w_ar ws (n_v vs 0) 2)) (w_ei ws (w_ar ws (n_v vs 0) 3)) (w_ei w1 (w_ar ws (n_v vs 0) 3)) k1 k5 k7 k8 k11 k15 k17 k18 k19 k21 k22 k23 k24 k25 d0 f12 f14 f15 h16 f17 h18 g19 f23 h24 f25 f26 f27 fe_0_5_1 fe_2_5_1 fe_2_6_1 fe_0_5_2 fe_2_5_2 fe_2_6_2 hE_0_2_1 hE_0_2_2 hE_0_3_1 hE_2_7_1 hE_2_7_2 hE_2_8_1 hE_2_8_2 hE_2_9_1 hE_2_9_2 kz_0_5 kz_2_5 kz_2_6
  refine ⟨(fun _ h => (by cases h)), [], trivial, ?_, (fun _ h => (by cases h))⟩
  rw [List.append_nil]
  exact List.forall_mem_cons.mpr ⟨⟨show (20 : Nat) < 100 from by decide, nf0⟩, (fun _ h => (by cases h))⟩
def n_Em_beginBlock_at_gn_an : List an_T := [(20, [(0, (2, 0, 0, [1])), (1, (0, 0, 71, [])), (2, (0, (Int.negSucc 0), 71, [])), (3, (0, (Int.negSucc 2147483647), 2147483647, [])), (4, (0, (Int.negSucc 0), 71, []))], [], (0, 0), [(0, 0, 99980), (2, 7, (Int.negSucc 0)), (0, 0, 100000)], [(1, 4, (Int.negSucc 999999999999), 0), (4, 1, (Int.negSucc 999999999999), 0), (7, 6, (Int.negSucc 999999999999), 2147483718), (8, 5, (Int.negSucc 999999999999), 16777215)], [((0, 5), (0, 0, 16777215, [])), ((0, 0), (2, 0, 0, [5]))], [(2, 0, 0, [1]), (0, 0, 71, []), (2, 0, 0, [5])], 0, [], [(20, [3, 9, 4, 5, 7], [60, 3, 3, 601, 5, 1005, 1006, 2, 1007, 1008]), (20, [9], [60, 2, 3, 595, 5, 6, 7, 8, 9]), (24, [2, 9], []), (24, [0, 3], []), (24, [1, 4], [])])]
def t_Em_beginBlock_at_gn_ct : ct_L := [(1, 170, e_Em_layRing), (588, 166, e_Fa_shortestWay_at_Nenear_Emlevel_Emway), (628, 173, e_Em_drawWay_at_gn)]
set_option maxRecDepth 100000 in
theorem c_Em_beginBlock_at_gn {l : Launch} {D : va_G} {kA : Nat → ClassId} (h_Em_drawWay_at_gn : ct_ok PRD l D kA GG y_Em_drawWay_at_gn z_Em_drawWay_at_gn e_Em_drawWay_at_gn) (h_Em_layRing : ct_ok PRD l D kA GG y_Em_layRing z_Em_layRing e_Em_layRing) (h_Fa_shortestWay_at_Nenear_Emlevel_Emway : ct_ok PRD l D kA GG y_Fa_shortestWay_at_Nenear_Emlevel_Emway z_Fa_shortestWay_at_Nenear_Emlevel_Emway e_Fa_shortestWay_at_Nenear_Emlevel_Emway) : ct_ok PRD l D kA GG y_Em_beginBlock_at_gn z_Em_beginBlock_at_gn e_Em_beginBlock_at_gn := chk_all_ok (FT := [(9, 1, 0), (21, 1, 2), (25, 1, 3), (32, 1, 5), (54, 1, 12), (57, 1, 13), (60, 1, 14), (63, 1, 15), (85, 5, 5), (114, 5, 9), (133, 5, 6), (134, 5, 7), (135, 5, 8)]) (PT := [(32, 1, 5, .int), (39, 1, 7, .int), (63, 1, 15, .int)]) (CT := t_Em_beginBlock_at_gn_ct) (KT := []) (NT := []) (AN := n_Em_beginBlock_at_gn_an) (OT := [o_Em_beginBlock_at_gn_0, o_Em_beginBlock_at_gn_1, o_Em_beginBlock_at_gn_2, o_Em_beginBlock_at_gn_3, o_Em_beginBlock_at_gn_4, o_Em_beginBlock_at_gn_5, o_Em_beginBlock_at_gn_6, o_Em_beginBlock_at_gn_7, o_Em_beginBlock_at_gn_8, o_Em_beginBlock_at_gn_9]) 3 548 (List.forall_mem_cons.mpr ⟨oo_Em_beginBlock_at_gn_0, List.forall_mem_cons.mpr ⟨oo_Em_beginBlock_at_gn_1, List.forall_mem_cons.mpr ⟨oo_Em_beginBlock_at_gn_2, List.forall_mem_cons.mpr ⟨oo_Em_beginBlock_at_gn_3, List.forall_mem_cons.mpr ⟨oo_Em_beginBlock_at_gn_4, List.forall_mem_cons.mpr ⟨oo_Em_beginBlock_at_gn_5, List.forall_mem_cons.mpr ⟨oo_Em_beginBlock_at_gn_6, List.forall_mem_cons.mpr ⟨oo_Em_beginBlock_at_gn_7, List.forall_mem_cons.mpr ⟨oo_Em_beginBlock_at_gn_8, List.forall_mem_cons.mpr ⟨oo_Em_beginBlock_at_gn_9, List.forall_mem_nil _⟩⟩⟩⟩⟩⟩⟩⟩⟩⟩) (by decide +kernel) ⟨List.forall_mem_cons.mpr ⟨gf_Em_9, List.forall_mem_cons.mpr ⟨gf_Em_21, List.forall_mem_cons.mpr ⟨gf_Em_25, List.forall_mem_cons.mpr ⟨gf_Em_32, List.forall_mem_cons.mpr ⟨gf_Em_54, List.forall_mem_cons.mpr ⟨gf_Em_57, List.forall_mem_cons.mpr ⟨gf_Em_60, List.forall_mem_cons.mpr ⟨gf_Em_63, List.forall_mem_cons.mpr ⟨gf_Em_85, List.forall_mem_cons.mpr ⟨gf_Em_114, List.forall_mem_cons.mpr ⟨gf_Em_133, List.forall_mem_cons.mpr ⟨gf_Em_134, List.forall_mem_cons.mpr ⟨gf_Em_135, List.forall_mem_nil _⟩⟩⟩⟩⟩⟩⟩⟩⟩⟩⟩⟩⟩, List.forall_mem_cons.mpr ⟨pf_Em_32, List.forall_mem_cons.mpr ⟨pf_Em_39, List.forall_mem_cons.mpr ⟨pf_Em_63, List.forall_mem_nil _⟩⟩⟩, List.forall_mem_cons.mpr ⟨cl_virtual (y := y_Em_layRing) (ci := 1) rfl rfl ⟨_, _, rfl⟩ (by decide +kernel) h_Em_layRing wm_1081 wm_5 wm_1078 wm_1080 wv_3_8 ⟨by decide, by decide, by decide +kernel⟩ (by decide), List.forall_mem_cons.mpr ⟨cl_static (y := y_Fa_shortestWay_at_Nenear_Emlevel_Emway) h_Fa_shortestWay_at_Nenear_Emlevel_Emway wm_1077 wm_7 wm_1075 wm_1076 ⟨by decide, by decide, by decide +kernel⟩ (by decide), List.forall_mem_cons.mpr ⟨cl_virtual (y := y_Em_drawWay_at_gn) (ci := 1) rfl rfl ⟨_, _, rfl⟩ (by decide +kernel) h_Em_drawWay_at_gn wm_1085 wm_5 wm_1082 wm_1084 wv_3_9 ⟨by decide, by decide, by decide +kernel⟩ (by decide), List.forall_mem_nil _⟩⟩⟩, List.forall_mem_nil _, List.forall_mem_nil _, GG_pl⟩ (by decide +kernel)

set_option maxHeartbeats 4000000 in
theorem vc_Em_beginBlock_at_gp_0_0 (x1 : Int) (x3 : Int) (x5 : Int) (x6 : Int) (x8 : Int) (blockNodes_0 : Int) (edges_0o2 : Int) (tail_0o2 : Int → Int) (head_0o2 : Int → Int) (near_0o2 : Int → Int) (nodes_0o2 : Int) (block_0 : Int → Int) (tail_1o2 : Int → Int) (head_1o2 : Int → Int) (near_1o2 : Int → Int) (nodes_1o2 : Int) (edges_1o2 : Int) (block_1 : Int → Int) (k1 : 0 ≤ x1 ∧ x1 ≤ 71) (k3 : (-1) ≤ x3 ∧ x3 ≤ (-1)) (k5 : 0 ≤ x5 ∧ x5 ≤ 0) (k6 : 0 ≤ x6 ∧ x6 ≤ 72) (k8 : (-1) ≤ x8 ∧ x8 ≤ 71) (d0 : x6 + (-1) ≤ x8 ∧ x8 ≤ x6 + (-1)) (g0 : x5 = blockNodes_0) (g2 : x6 = edges_0o2) (f7 : HSB (edges_1o2) (block_1) (x1)) (fe_2_5_1 : nodes_0o2 = nodes_1o2) (fe_2_6_1 : edges_0o2 = edges_1o2) (hE_0_2_1 : ∀ j : Int, block_0 j = block_1 j) (hE_2_7_1 : ∀ j : Int, tail_0o2 j = tail_1o2 j) (hE_2_8_1 : ∀ j : Int, head_0o2 j = head_1o2 j) (hE_2_9_1 : ∀ j : Int, near_0o2 j = near_1o2 j) (kz_0_5 : 0 ≤ blockNodes_0 ∧ blockNodes_0 ≤ 33554431) (kz_2_5 : 0 ≤ nodes_0o2 ∧ nodes_0o2 ≤ 25) (kz_2_6 : 0 ≤ edges_0o2 ∧ edges_0o2 ≤ 72) : BBI (blockNodes_0) (nodes_0o2) (edges_0o2) (block_0) (tail_0o2) (head_0o2) (x1) (x3) (x8) := by
  subst fe_2_5_1
  subst fe_2_6_1
  have e_hE_0_2_1 := funext hE_0_2_1; subst e_hE_0_2_1
  have e_hE_2_7_1 := funext hE_2_7_1; subst e_hE_2_7_1
  have e_hE_2_8_1 := funext hE_2_8_1; subst e_hE_2_8_1
  have e_hE_2_9_1 := funext hE_2_9_1; subst e_hE_2_9_1
  first
    | exact bbi_start (by omega) ‹HSB _ _ _› (by omega) (by omega) (by omega)
def o_Em_beginBlock_at_gp_0 : or_T := (20, 9, [(0, (2, 0, 0, [1])), (1, (0, 0, 71, [])), (2, (2, 0, 0, [149])), (3, (0, -1, -1, [])), (5, (0, 0, 0, [])), (6, (0, 0, 72, [])), (8, (0, -1, 71, []))], [(9, [5, 0], [5]), (9, [6, 2], [6]), (101, [0, 5], [5]), (20, [0, 2, 1], [60, 1, 1, 597, 1006, 2])], [], [], [(20, [0, 2, 1, 3, 8], [60, 3, 3, 601, 5, 1005, 1006, 2, 1007, 1008]), (24, [2, 2], []), (24, [0, 0], []), (24, [1, 1], [])], [], [(8, 6, -1, -1)])
theorem oo_Em_beginBlock_at_gp_0 {kA : Nat → ClassId} : or_ok PRD kA GG o_Em_beginBlock_at_gp_0 := by
  refine or_mk fun A ta ws vs hD hth hl => ?_
  intro t0 r0 t1 k1 t2 r2 t3 k3 t5 k5 t6 k6 t8 k8 d0 f0 f2 ta1 w1 le1 s1 f7
  replace f0 := shm_110 f0
  replace f2 := shm_111 f2
  have s1 : (∀ b j, w_el ws b j = w_el w1 b j) ∧ ∀ b j, w_fd ws b j = if b = v_ad (n_v vs 0) ∧ j = 5 then n_v vs 5 else w_fd w1 b j := s1.2
  replace f7 := shm_1680 f7
  have ar_0_2_1 : w_ar w1 (n_v vs 0) 2 = w_ar ws (n_v vs 0) 2 := by show v_ad (w_fd w1 _ _) = v_ad (w_fd ws _ _); rw [s1.2, if_neg (fun e => absurd e.2 (by decide))]
  have ar_2_7_1 : w_ar w1 (n_v vs 2) 7 = w_ar ws (n_v vs 2) 7 := by show v_ad (w_fd w1 _ _) = v_ad (w_fd ws _ _); rw [s1.2, if_neg (fun e => absurd e.2 (by decide))]
  have ar_2_8_1 : w_ar w1 (n_v vs 2) 8 = w_ar ws (n_v vs 2) 8 := by show v_ad (w_fd w1 _ _) = v_ad (w_fd ws _ _); rw [s1.2, if_neg (fun e => absurd e.2 (by decide))]
  have ar_2_9_1 : w_ar w1 (n_v vs 2) 9 = w_ar ws (n_v vs 2) 9 := by show v_ad (w_fd w1 _ _) = v_ad (w_fd ws _ _); rw [s1.2, if_neg (fun e => absurd e.2 (by decide))]
  have g0 : v_iv (n_v vs 5) = w_fi ws (n_v vs 0) 5 := congrArg v_iv f0
  have g2 : v_iv (n_v vs 6) = w_fi ws (n_v vs 2) 6 := congrArg v_iv f2
  simp only [ar_2_7_1, ar_2_8_1, ar_2_9_1, ar_0_2_1] at f7
  have fe_2_5_1 : w_fi ws (n_v vs 2) 5 = w_fi w1 (n_v vs 2) 5 := by show v_iv (w_fd _ _ _) = v_iv (w_fd _ _ _); rw [s1.2, if_neg (fun e => by have e1 := e.1; have e2 := r2; rw [e1, r0] at e2; exact absurd (Option.some.inj e2) (by decide))]
  have fe_2_6_1 : w_fi ws (n_v vs 2) 6 = w_fi w1 (n_v vs 2) 6 := by show v_iv (w_fd _ _ _) = v_iv (w_fd _ _ _); rw [s1.2, if_neg (fun e => absurd e.2 (by decide))]
  have hE_0_2_1 : ∀ j : Int, w_ei ws (w_ar ws (n_v vs 0) 2) j = w_ei w1 (w_ar ws (n_v vs 0) 2) j := fun j => s1.1 _ _
  have hE_2_7_1 : ∀ j : Int, w_ei ws (w_ar ws (n_v vs 2) 7) j = w_ei w1 (w_ar ws (n_v vs 2) 7) j := fun j => s1.1 _ _
  have hE_2_8_1 : ∀ j : Int, w_ei ws (w_ar ws (n_v vs 2) 8) j = w_ei w1 (w_ar ws (n_v vs 2) 8) j := fun j => s1.1 _ _
  have hE_2_9_1 : ∀ j : Int, w_ei ws (w_ar ws (n_v vs 2) 9) j = w_ei w1 (w_ar ws (n_v vs 2) 9) j := fun j => s1.1 _ _
  have kz_0_5 := fdq_283 hD hth r0
  have kz_2_5 := fdq_85 hD hth r2
  have kz_2_6 := fdq_62 hD hth r2
  have nf0 : fc_1 PRD (20, [0, 2, 1, 3, 8], [60, 3, 3, 601, 5, 1005, 1006, 2, 1007, 1008]) ws (vs) := ⟨nf_in hl rfl, sgq_1681 (vc_Em_beginBlock_at_gp_0_0 (v_iv (n_v vs 1)) (v_iv (n_v vs 3)) (v_iv (n_v vs 5)) (v_iv (n_v vs 6)) (v_iv (n_v vs 8)) (w_fi ws (n_v vs 0) 5) (w_fi ws (n_v vs 2) 6) (w_ei ws (w_ar ws (n_v vs 2) 7)) (w_ei ws (w_ar ws (n_v vs 2) 8)) (w_ei ws (w_ar ws (n_v vs 2) 9)) (w_fi ws (n_v vs 2) 5) (w_ei ws (w_ar ws (n_v vs 0) 2)) (w_ei w1 (w_ar ws (n_v vs 2) 7)) (w_ei w1 (w_ar ws (n_v vs 2) 8)) (w_ei w1 (w_ar ws (n_v vs 2) 9)) (w_fi w1 (n_v vs 2) 5) (w_fi w1 (n_v vs 2) 6) (w_ei w1 (w_ar ws (n_v vs 0) 2)) k1 k3 k5 k6 k8 d0 g0 g2 f7 fe_2_5_1 fe_2_6_1 hE_0_2_1 hE_2_7_1 hE_2_8_1 hE_2_9_1 kz_0_5 kz_2_5 kz_2_6)⟩
  have nf1 : fc_1 PRD (24, [2, 2], []) ws (vs) := by
    refine ⟨nf_in hl rfl, sgq_1 ?_⟩
    · show n_v vs 2 = n_v vs 2
      first | rfl | simp only [true_and]
  have nf2 : fc_1 PRD (24, [0, 0], []) ws (vs) := by
    refine ⟨nf_in hl rfl, sgq_1 ?_⟩
    · show n_v vs 0 = n_v vs 0
      first | rfl | simp only [true_and]
  have nf3 : fc_1 PRD (24, [1, 1], []) ws (vs) := by
    refine ⟨nf_in hl rfl, sgq_1 ?_⟩
    · show n_v vs 1 = n_v vs 1
      first | rfl | simp only [true_and]
  refine ⟨(fun _ h => (by cases h)), [], trivial, ?_, (fun _ h => (by cases h))⟩
  rw [List.append_nil]
  exact List.forall_mem_cons.mpr ⟨⟨show (20 : Nat) < 100 from by decide, nf0⟩, List.forall_mem_cons.mpr ⟨⟨show (24 : Nat) < 100 from by decide, nf1⟩, List.forall_mem_cons.mpr ⟨⟨show (24 : Nat) < 100 from by decide, nf2⟩, List.forall_mem_cons.mpr ⟨⟨show (24 : Nat) < 100 from by decide, nf3⟩, (fun _ h => (by cases h))⟩⟩⟩⟩
set_option maxHeartbeats 4000000 in
theorem vc_Em_beginBlock_at_gp_1_r0 (x1 : Int) (x5 : Int) (x7 : Int) (blockNodes_0 : Int) (block_0 : Int → Int) (tail_0o2 : Int → Int) (head_0o2 : Int → Int) (nodes_0o2 : Int) (edges_0o2 : Int) (near_0o2 : Int → Int) (block_1 : Int → Int) (tail_1o2 : Int → Int) (head_1o2 : Int → Int) (blockNodes_1 : Int) (nodes_1o2 : Int) (edges_1o2 : Int) (near_1o2 : Int → Int) (k1 : 0 ≤ x1 ∧ x1 ≤ 71) (k5 : (-1) ≤ x5 ∧ x5 ≤ 71) (k7 : (-1) ≤ x7 ∧ x7 ≤ (-1)) (f8 : x7 < 0) (f9 : BBI (blockNodes_1) (nodes_1o2) (edges_1o2) (block_1) (tail_1o2) (head_1o2) (x1) (x5) (x7)) (fe_0_5_1 : blockNodes_0 = blockNodes_1) (fe_2_5_1 : nodes_0o2 = nodes_1o2) (fe_2_6_1 : edges_0o2 = edges_1o2) (hE_0_2_1 : ∀ j : Int, block_0 j = block_1 j) (hE_2_7_1 : ∀ j : Int, tail_0o2 j = tail_1o2 j) (hE_2_8_1 : ∀ j : Int, head_0o2 j = head_1o2 j) (hE_2_9_1 : ∀ j : Int, near_0o2 j = near_1o2 j) (kz_0_5 : 0 ≤ blockNodes_0 ∧ blockNodes_0 ≤ 33554431) (kz_2_5 : 0 ≤ nodes_0o2 ∧ nodes_0o2 ≤ 25) (kz_2_6 : 0 ≤ edges_0o2 ∧ edges_0o2 ≤ 72) : 0 ≤ x5 ∧ x5 ≤ 71 := by
  subst fe_0_5_1
  subst fe_2_5_1
  subst fe_2_6_1
  have e_hE_0_2_1 := funext hE_0_2_1; subst e_hE_0_2_1
  have e_hE_2_7_1 := funext hE_2_7_1; subst e_hE_2_7_1
  have e_hE_2_8_1 := funext hE_2_8_1; subst e_hE_2_8_1
  have e_hE_2_9_1 := funext hE_2_9_1; subst e_hE_2_9_1
  first
    | (have q := bbi_has ‹BBI _ _ _ _ _ _ _ _ _› (by omega); omega)
def o_Em_beginBlock_at_gp_1 : or_T := (130, 13, [(0, (2, 0, 0, [1])), (1, (0, 0, 71, [])), (2, (2, 0, 0, [149])), (3, (2, 0, 0, [1])), (4, (0, 0, 71, [])), (5, (0, -1, 71, [])), (7, (0, -1, -1, [])), (8, (0, 0, 33554431, [])), (9, (2, 0, 0, [149])), (12, (2, 0, 0, [140]))], [(9, [8, 3], [5]), (9, [12, 9], [7]), (20, [3, 9, 4, 5, 7], [60, 3, 3, 601, 5, 1005, 1006, 2, 1007, 1008]), (20, [9], [60, 2, 3, 595, 5, 6, 7, 8, 9]), (24, [2, 9], []), (24, [0, 3], []), (24, [1, 4], []), (101, [3, 10], [7]), (8, [7], [2]), (20, [3, 9, 4, 5, 7], [60, 3, 3, 601, 5, 1005, 1006, 2, 1007, 1008]), (20, [9], [60, 2, 3, 595, 5, 6, 7, 8, 9])], [(5, (0, 0, 71, []))], [], [], [], [(1, 4, -4294967296, 0), (4, 1, -4294967296, 0), (8, 5, -4294967296, 33554431)])
theorem oo_Em_beginBlock_at_gp_1 {kA : Nat → ClassId} : or_ok PRD kA GG o_Em_beginBlock_at_gp_1 := by
  refine or_mk fun A ta ws vs hD hth hl => ?_
  intro t0 r0 t1 k1 t2 r2 t3 r3 t4 k4 t5 k5 t7 k7 t8 k8 t9 r9 t12 r12 d0 d1 d2 f0 f1 f2 f3 f4 f5 f6 ta1 w1 le1 s1 f8 f9 f10
  replace f4 := shm_5 f4
  replace f5 := shm_5 f5
  replace f6 := shm_5 f6
  have s1 : (∀ b j, w_el ws b j = w_el w1 b j) ∧ ∀ b j, w_fd ws b j = if b = v_ad (n_v vs 3) ∧ j = 7 then n_v vs 10 else w_fd w1 b j := s1.2
  replace f9 := shm_1681 f9
  have q9 : n_v vs 9 = n_v vs 2 := f4.symm
  have q3 : n_v vs 3 = n_v vs 0 := f5.symm
  have q4 : n_v vs 4 = n_v vs 1 := f6.symm
  rw [q3] at s1
  simp only [q9, q3, q4] at f9
  have ar_0_2_1 : w_ar w1 (n_v vs 0) 2 = w_ar ws (n_v vs 0) 2 := by show v_ad (w_fd w1 _ _) = v_ad (w_fd ws _ _); rw [s1.2, if_neg (fun e => absurd e.2 (by decide))]
  have ar_2_7_1 : w_ar w1 (n_v vs 2) 7 = w_ar ws (n_v vs 2) 7 := by show v_ad (w_fd w1 _ _) = v_ad (w_fd ws _ _); rw [s1.2, if_neg (fun e => by have e1 := e.1; have e2 := r2; rw [e1, r0] at e2; exact absurd (Option.some.inj e2) (by decide))]
  have ar_2_8_1 : w_ar w1 (n_v vs 2) 8 = w_ar ws (n_v vs 2) 8 := by show v_ad (w_fd w1 _ _) = v_ad (w_fd ws _ _); rw [s1.2, if_neg (fun e => absurd e.2 (by decide))]
  have ar_2_9_1 : w_ar w1 (n_v vs 2) 9 = w_ar ws (n_v vs 2) 9 := by show v_ad (w_fd w1 _ _) = v_ad (w_fd ws _ _); rw [s1.2, if_neg (fun e => absurd e.2 (by decide))]
  simp only [ar_0_2_1, ar_2_7_1, ar_2_8_1, ar_2_9_1] at f9
  have fe_0_5_1 : w_fi ws (n_v vs 0) 5 = w_fi w1 (n_v vs 0) 5 := by show v_iv (w_fd _ _ _) = v_iv (w_fd _ _ _); rw [s1.2, if_neg (fun e => absurd e.2 (by decide))]
  have fe_2_5_1 : w_fi ws (n_v vs 2) 5 = w_fi w1 (n_v vs 2) 5 := by show v_iv (w_fd _ _ _) = v_iv (w_fd _ _ _); rw [s1.2, if_neg (fun e => absurd e.2 (by decide))]
  have fe_2_6_1 : w_fi ws (n_v vs 2) 6 = w_fi w1 (n_v vs 2) 6 := by show v_iv (w_fd _ _ _) = v_iv (w_fd _ _ _); rw [s1.2, if_neg (fun e => absurd e.2 (by decide))]
  have hE_0_2_1 : ∀ j : Int, w_ei ws (w_ar ws (n_v vs 0) 2) j = w_ei w1 (w_ar ws (n_v vs 0) 2) j := fun j => s1.1 _ _
  have hE_2_7_1 : ∀ j : Int, w_ei ws (w_ar ws (n_v vs 2) 7) j = w_ei w1 (w_ar ws (n_v vs 2) 7) j := fun j => s1.1 _ _
  have hE_2_8_1 : ∀ j : Int, w_ei ws (w_ar ws (n_v vs 2) 8) j = w_ei w1 (w_ar ws (n_v vs 2) 8) j := fun j => s1.1 _ _
  have hE_2_9_1 : ∀ j : Int, w_ei ws (w_ar ws (n_v vs 2) 9) j = w_ei w1 (w_ar ws (n_v vs 2) 9) j := fun j => s1.1 _ _
  have kz_0_5 := fdq_283 hD hth r0
  have kz_2_5 := fdq_85 hD hth r2
  have kz_2_6 := fdq_62 hD hth r2
  have hrf0 : 0 ≤ v_iv (n_v vs 5) ∧ v_iv (n_v vs 5) ≤ 71 := vc_Em_beginBlock_at_gp_1_r0 (v_iv (n_v vs 1)) (v_iv (n_v vs 5)) (v_iv (n_v vs 7)) (w_fi ws (n_v vs 0) 5) (w_ei ws (w_ar ws (n_v vs 0) 2)) (w_ei ws (w_ar ws (n_v vs 2) 7)) (w_ei ws (w_ar ws (n_v vs 2) 8)) (w_fi ws (n_v vs 2) 5) (w_fi ws (n_v vs 2) 6) (w_ei ws (w_ar ws (n_v vs 2) 9)) (w_ei w1 (w_ar ws (n_v vs 0) 2)) (w_ei w1 (w_ar ws (n_v vs 2) 7)) (w_ei w1 (w_ar ws (n_v vs 2) 8)) (w_fi w1 (n_v vs 0) 5) (w_fi w1 (n_v vs 2) 5) (w_fi w1 (n_v vs 2) 6) (w_ei w1 (w_ar ws (n_v vs 2) 9)) k1 k5 k7 (shm_39 f8) f9 fe_0_5_1 fe_2_5_1 fe_2_6_1 hE_0_2_1 hE_2_7_1 hE_2_8_1 hE_2_9_1 kz_0_5 kz_2_5 kz_2_6
  have rf5 : tv_ok ta (0, 0, 71, []) (n_v vs 5) := tv_in t5 (by first | omega | grind) (by first | omega | grind)
  refine ⟨List.forall_mem_cons.mpr ⟨rf5, (fun _ h => (by cases h))⟩, [], trivial, ?_, (fun _ h => (by cases h))⟩
  rw [List.append_nil]
  exact (fun _ h => (by cases h))
set_option maxHeartbeats 4000000 in
theorem vc_Em_beginBlock_at_gp_2_0 (x1 : Int) (x5 : Int) (x7 : Int) (nodes_0o2 : Int) (blockNodes_0 : Int) (head_0o2 : Int → Int) (tail_0o2 : Int → Int) (block_0 : Int → Int) (edges_0o2 : Int) (near_0o2 : Int → Int) (block_1 : Int → Int) (tail_1o2 : Int → Int) (head_1o2 : Int → Int) (blockNodes_1 : Int) (nodes_1o2 : Int) (edges_1o2 : Int) (near_1o2 : Int → Int) (k1 : 0 ≤ x1 ∧ x1 ≤ 71) (k5 : 0 ≤ x5 ∧ x5 ≤ 71) (k7 : (-1) ≤ x7 ∧ x7 ≤ (-1)) (f20 : x7 < 0) (f21 : BBI (blockNodes_1) (nodes_1o2) (edges_1o2) (block_1) (tail_1o2) (head_1o2) (x1) (x5) (x7)) (fe_0_5_1 : blockNodes_0 = blockNodes_1) (fe_2_5_1 : nodes_0o2 = nodes_1o2) (fe_2_6_1 : edges_0o2 = edges_1o2) (hE_0_2_1 : ∀ j : Int, block_0 j = block_1 j) (hE_2_7_1 : ∀ j : Int, tail_0o2 j = tail_1o2 j) (hE_2_8_1 : ∀ j : Int, head_0o2 j = head_1o2 j) (hE_2_9_1 : ∀ j : Int, near_0o2 j = near_1o2 j) (kz_0_5 : 0 ≤ blockNodes_0 ∧ blockNodes_0 ≤ 33554431) (kz_2_5 : 0 ≤ nodes_0o2 ∧ nodes_0o2 ≤ 25) (kz_2_6 : 0 ≤ edges_0o2 ∧ edges_0o2 ≤ 72) : BLN (blockNodes_0) (nodes_0o2) (edges_0o2) (block_0) (tail_0o2) (head_0o2) (x1) := by
  subst fe_0_5_1
  subst fe_2_5_1
  subst fe_2_6_1
  have e_hE_0_2_1 := funext hE_0_2_1; subst e_hE_0_2_1
  have e_hE_2_7_1 := funext hE_2_7_1; subst e_hE_2_7_1
  have e_hE_2_8_1 := funext hE_2_8_1; subst e_hE_2_8_1
  have e_hE_2_9_1 := funext hE_2_9_1; subst e_hE_2_9_1
  first
    | exact bln_of ‹BBI _ _ _ _ _ _ _ _ _› (by omega)
set_option maxHeartbeats 4000000 in
theorem vc_Em_beginBlock_at_gp_2_1 (x1 : Int) (x5 : Int) (x7 : Int) (x13 : Int) (nodes_0o2 : Int) (blockNodes_0 : Int) (head_0o2 : Int → Int) (tail_0o2 : Int → Int) (block_0 : Int → Int) (edges_0o2 : Int) (near_0o2 : Int → Int) (block_1 : Int → Int) (tail_1o2 : Int → Int) (head_1o2 : Int → Int) (blockNodes_1 : Int) (nodes_1o2 : Int) (edges_1o2 : Int) (near_1o2 : Int → Int) (k1 : 0 ≤ x1 ∧ x1 ≤ 71) (k5 : 0 ≤ x5 ∧ x5 ≤ 71) (k7 : (-1) ≤ x7 ∧ x7 ≤ (-1)) (k13 : 0 ≤ x13 ∧ x13 ≤ 24) (h12 : x13 = tail_0o2 (x5)) (f20 : x7 < 0) (f21 : BBI (blockNodes_1) (nodes_1o2) (edges_1o2) (block_1) (tail_1o2) (head_1o2) (x1) (x5) (x7)) (fe_0_5_1 : blockNodes_0 = blockNodes_1) (fe_2_5_1 : nodes_0o2 = nodes_1o2) (fe_2_6_1 : edges_0o2 = edges_1o2) (hE_0_2_1 : ∀ j : Int, block_0 j = block_1 j) (hE_2_7_1 : ∀ j : Int, tail_0o2 j = tail_1o2 j) (hE_2_8_1 : ∀ j : Int, head_0o2 j = head_1o2 j) (hE_2_9_1 : ∀ j : Int, near_0o2 j = near_1o2 j) (kz_0_5 : 0 ≤ blockNodes_0 ∧ blockNodes_0 ≤ 33554431) (kz_2_5 : 0 ≤ nodes_0o2 ∧ nodes_0o2 ≤ 25) (kz_2_6 : 0 ≤ edges_0o2 ∧ edges_0o2 ≤ 72) : BTN (blockNodes_0) (x13) := by
  subst fe_0_5_1
  subst fe_2_5_1
  subst fe_2_6_1
  have e_hE_0_2_1 := funext hE_0_2_1; subst e_hE_0_2_1
  have e_hE_2_7_1 := funext hE_2_7_1; subst e_hE_2_7_1
  have e_hE_2_8_1 := funext hE_2_8_1; subst e_hE_2_8_1
  have e_hE_2_9_1 := funext hE_2_9_1; subst e_hE_2_9_1
  first
    | (have he := bbi_has ‹BBI _ _ _ _ _ _ _ _ _› (by omega); have hb := bln_of ‹BBI _ _ _ _ _ _ _ _ _› (by omega); rw [show x13 = tail_0o2 x5 by omega]; exact (hb.1 x5 he.1 he.2.1 he.2.2).1)
  
set_option maxHeartbeats 4000000 in
theorem vc_Em_beginBlock_at_gp_2_2 (x1 : Int) (x5 : Int) (x7 : Int) (x8 : Int) (x13 : Int) (x15 : Int) (x16 : Int) (x17 : Int) (x18 : Int) (x19 : Int) (x20 : Int) (x21 : Int) (x22 : Int) (x23 : Int) (x24 : Int) (x25 : Int) (x27 : Int) (x28 : Int) (x29 : Int) (nodes_0o2 : Int) (blockNodes_0 : Int) (head_0o2 : Int → Int) (tail_0o2 : Int → Int) (block_0 : Int → Int) (edges_0o2 : Int) (near_0o2 : Int → Int) (block_1 : Int → Int) (tail_1o2 : Int → Int) (head_1o2 : Int → Int) (blockNodes_1 : Int) (nodes_1o2 : Int) (edges_1o2 : Int) (near_1o2 : Int → Int) (k1 : 0 ≤ x1 ∧ x1 ≤ 71) (k5 : 0 ≤ x5 ∧ x5 ≤ 71) (k7 : (-1) ≤ x7 ∧ x7 ≤ (-1)) (k8 : 0 ≤ x8 ∧ x8 ≤ 33554431) (k13 : 0 ≤ x13 ∧ x13 ≤ 24) (k15 : 0 ≤ x15 ∧ x15 ≤ 24) (k16 : 1 ≤ x16 ∧ x16 ≤ 1) (k17 : 1 ≤ x17 ∧ x17 ≤ 16777216) (k18 : (-1) ≤ x18 ∧ x18 ≤ (-1)) (k19 : (-2147483648) ≤ x19 ∧ x19 ≤ 2147483647) (k20 : 0 ≤ x20 ∧ x20 ≤ 33554431) (k21 : 1 ≤ x21 ∧ x21 ≤ 1) (k22 : 1 ≤ x22 ∧ x22 ≤ 16777216) (k23 : (-1) ≤ x23 ∧ x23 ≤ (-1)) (k24 : (-2147483648) ≤ x24 ∧ x24 ≤ 2147483647) (k25 : 0 ≤ x25 ∧ x25 ≤ 33554431) (k27 : 0 ≤ x27 ∧ x27 ≤ 25) (k28 : 1 ≤ x28 ∧ x28 ≤ 1) (k29 : 1 ≤ x29 ∧ x29 ≤ 16777216) (f0 : bvp (x29) = bvp (x28) <<< (x13).toNat) (g1 : x27 = nodes_0o2) (f3 : bvp (x25) = bvp (x20) &&& bvp (x24)) (f4 : bvp (x24) = bvp (x22) ^^^ bvp (x23)) (f5 : bvp (x22) = bvp (x21) <<< (x15).toNat) (f6 : bvp (x20) = bvp (x8) &&& bvp (x19)) (f7 : bvp (x19) = bvp (x17) ^^^ bvp (x18)) (f8 : bvp (x17) = bvp (x16) <<< (x13).toNat) (g9 : x8 = blockNodes_0) (h10 : x15 = head_0o2 (x5)) (h12 : x13 = tail_0o2 (x5)) (f20 : x7 < 0) (f21 : BBI (blockNodes_1) (nodes_1o2) (edges_1o2) (block_1) (tail_1o2) (head_1o2) (x1) (x5) (x7)) (f22 : NOK (nodes_1o2) (edges_1o2) (tail_1o2) (head_1o2) (near_1o2)) (fe_0_5_1 : blockNodes_0 = blockNodes_1) (fe_2_5_1 : nodes_0o2 = nodes_1o2) (fe_2_6_1 : edges_0o2 = edges_1o2) (hE_0_2_1 : ∀ j : Int, block_0 j = block_1 j) (hE_2_7_1 : ∀ j : Int, tail_0o2 j = tail_1o2 j) (hE_2_8_1 : ∀ j : Int, head_0o2 j = head_1o2 j) (hE_2_9_1 : ∀ j : Int, near_0o2 j = near_1o2 j) (kz_0_5 : 0 ≤ blockNodes_0 ∧ blockNodes_0 ≤ 33554431) (kz_2_5 : 0 ≤ nodes_0o2 ∧ nodes_0o2 ≤ 25) (kz_2_6 : 0 ≤ edges_0o2 ∧ edges_0o2 ≤ 72) : RFR (x13) (x15) (x25) (x29) (x27) := by
  subst fe_0_5_1
  subst fe_2_5_1
  subst fe_2_6_1
  have e_hE_0_2_1 := funext hE_0_2_1; subst e_hE_0_2_1
  have e_hE_2_7_1 := funext hE_2_7_1; subst e_hE_2_7_1
  have e_hE_2_8_1 := funext hE_2_8_1; subst e_hE_2_8_1
  have e_hE_2_9_1 := funext hE_2_9_1; subst e_hE_2_9_1
  first
    | (have o1 : x16 = 1 := by omega
       have o2 : x21 = 1 := by omega
       have o3 : x28 = 1 := by omega
       subst o1 o2 o3
       rw [‹x27 = nodes_0o2›]
       have hb := bln_of ‹BBI _ _ _ _ _ _ _ _ _› (by omega)
       rw [← ‹x8 = blockNodes_0›] at hb
       have he := bbi_has ‹BBI _ _ _ _ _ _ _ _ _› (by omega)
       have hn := (‹NOK _ _ _ _ _›).1 x5 he.1 he.2.1
       have q := bln_free (t := x13) (h := x15) (q1 := x17) (q2 := x22) (r1 := x19) (r2 := x24) (f1 := x20) (f2 := x25) (m1 := x18) (m2 := x23) hb (by omega) (by omega) (by assumption) (by assumption) (by omega) (by assumption) (by assumption) (by assumption) (by omega) (by assumption)
       exact ⟨q.1, q.2, by omega, by omega, by omega, by omega, by omega, by assumption, by omega⟩)
  
set_option maxHeartbeats 4000000 in
theorem vc_Em_beginBlock_at_gp_2_3 (x27 : Int) (nodes_0o2 : Int) (blockNodes_0 : Int) (head_0o2 : Int → Int) (tail_0o2 : Int → Int) (block_0 : Int → Int) (edges_0o2 : Int) (near_0o2 : Int → Int) (block_1 : Int → Int) (tail_1o2 : Int → Int) (head_1o2 : Int → Int) (blockNodes_1 : Int) (nodes_1o2 : Int) (edges_1o2 : Int) (near_1o2 : Int → Int) (k27 : 0 ≤ x27 ∧ x27 ≤ 25) (g1 : x27 = nodes_0o2) (f22 : NOK (nodes_1o2) (edges_1o2) (tail_1o2) (head_1o2) (near_1o2)) (fe_0_5_1 : blockNodes_0 = blockNodes_1) (fe_2_5_1 : nodes_0o2 = nodes_1o2) (fe_2_6_1 : edges_0o2 = edges_1o2) (hE_0_2_1 : ∀ j : Int, block_0 j = block_1 j) (hE_2_7_1 : ∀ j : Int, tail_0o2 j = tail_1o2 j) (hE_2_8_1 : ∀ j : Int, head_0o2 j = head_1o2 j) (hE_2_9_1 : ∀ j : Int, near_0o2 j = near_1o2 j) (kz_0_5 : 0 ≤ blockNodes_0 ∧ blockNodes_0 ≤ 33554431) (kz_2_5 : 0 ≤ nodes_0o2 ∧ nodes_0o2 ≤ 25) (kz_2_6 : 0 ≤ edges_0o2 ∧ edges_0o2 ≤ 72) : SYMN (near_0o2) (x27) := by
  subst fe_0_5_1
  subst fe_2_5_1
  subst fe_2_6_1
  have e_hE_0_2_1 := funext hE_0_2_1; subst e_hE_0_2_1
  have e_hE_2_7_1 := funext hE_2_7_1; subst e_hE_2_7_1
  have e_hE_2_8_1 := funext hE_2_8_1; subst e_hE_2_8_1
  have e_hE_2_9_1 := funext hE_2_9_1; subst e_hE_2_9_1
  first
    | (rw [‹x27 = nodes_0o2›]; exact nok_symn ‹NOK _ _ _ _ _› (by omega))
  
set_option maxHeartbeats 4000000 in
theorem vc_Em_beginBlock_at_gp_2_4 (x1 : Int) (x5 : Int) (x7 : Int) (x8 : Int) (x13 : Int) (x15 : Int) (x16 : Int) (x17 : Int) (x18 : Int) (x19 : Int) (x20 : Int) (x21 : Int) (x22 : Int) (x23 : Int) (x24 : Int) (x25 : Int) (x27 : Int) (nodes_0o2 : Int) (blockNodes_0 : Int) (head_0o2 : Int → Int) (tail_0o2 : Int → Int) (block_0 : Int → Int) (edges_0o2 : Int) (near_0o2 : Int → Int) (block_1 : Int → Int) (tail_1o2 : Int → Int) (head_1o2 : Int → Int) (blockNodes_1 : Int) (nodes_1o2 : Int) (edges_1o2 : Int) (near_1o2 : Int → Int) (k1 : 0 ≤ x1 ∧ x1 ≤ 71) (k5 : 0 ≤ x5 ∧ x5 ≤ 71) (k7 : (-1) ≤ x7 ∧ x7 ≤ (-1)) (k8 : 0 ≤ x8 ∧ x8 ≤ 33554431) (k13 : 0 ≤ x13 ∧ x13 ≤ 24) (k15 : 0 ≤ x15 ∧ x15 ≤ 24) (k16 : 1 ≤ x16 ∧ x16 ≤ 1) (k17 : 1 ≤ x17 ∧ x17 ≤ 16777216) (k18 : (-1) ≤ x18 ∧ x18 ≤ (-1)) (k19 : (-2147483648) ≤ x19 ∧ x19 ≤ 2147483647) (k20 : 0 ≤ x20 ∧ x20 ≤ 33554431) (k21 : 1 ≤ x21 ∧ x21 ≤ 1) (k22 : 1 ≤ x22 ∧ x22 ≤ 16777216) (k23 : (-1) ≤ x23 ∧ x23 ≤ (-1)) (k24 : (-2147483648) ≤ x24 ∧ x24 ≤ 2147483647) (k25 : 0 ≤ x25 ∧ x25 ≤ 33554431) (k27 : 0 ≤ x27 ∧ x27 ≤ 25) (g1 : x27 = nodes_0o2) (f3 : bvp (x25) = bvp (x20) &&& bvp (x24)) (f4 : bvp (x24) = bvp (x22) ^^^ bvp (x23)) (f5 : bvp (x22) = bvp (x21) <<< (x15).toNat) (f6 : bvp (x20) = bvp (x8) &&& bvp (x19)) (f7 : bvp (x19) = bvp (x17) ^^^ bvp (x18)) (f8 : bvp (x17) = bvp (x16) <<< (x13).toNat) (g9 : x8 = blockNodes_0) (h10 : x15 = head_0o2 (x5)) (h12 : x13 = tail_0o2 (x5)) (f20 : x7 < 0) (f21 : BBI (blockNodes_1) (nodes_1o2) (edges_1o2) (block_1) (tail_1o2) (head_1o2) (x1) (x5) (x7)) (f22 : NOK (nodes_1o2) (edges_1o2) (tail_1o2) (head_1o2) (near_1o2)) (fe_0_5_1 : blockNodes_0 = blockNodes_1) (fe_2_5_1 : nodes_0o2 = nodes_1o2) (fe_2_6_1 : edges_0o2 = edges_1o2) (hE_0_2_1 : ∀ j : Int, block_0 j = block_1 j) (hE_2_7_1 : ∀ j : Int, tail_0o2 j = tail_1o2 j) (hE_2_8_1 : ∀ j : Int, head_0o2 j = head_1o2 j) (hE_2_9_1 : ∀ j : Int, near_0o2 j = near_1o2 j) (kz_0_5 : 0 ≤ blockNodes_0 ∧ blockNodes_0 ≤ 33554431) (kz_2_5 : 0 ≤ nodes_0o2 ∧ nodes_0o2 ≤ 25) (kz_2_6 : 0 ≤ edges_0o2 ∧ edges_0o2 ≤ 72) : FRN (x27) (x25) := by
  subst fe_0_5_1
  subst fe_2_5_1
  subst fe_2_6_1
  have e_hE_0_2_1 := funext hE_0_2_1; subst e_hE_0_2_1
  have e_hE_2_7_1 := funext hE_2_7_1; subst e_hE_2_7_1
  have e_hE_2_8_1 := funext hE_2_8_1; subst e_hE_2_8_1
  have e_hE_2_9_1 := funext hE_2_9_1; subst e_hE_2_9_1
  first
    | (have o1 : x16 = 1 := by omega
       have o2 : x21 = 1 := by omega
       subst o1 o2
       rw [‹x27 = nodes_0o2›]
       have hb := bln_of ‹BBI _ _ _ _ _ _ _ _ _› (by omega)
       rw [← ‹x8 = blockNodes_0›] at hb
       have he := bbi_has ‹BBI _ _ _ _ _ _ _ _ _› (by omega)
       have hn := (‹NOK _ _ _ _ _›).1 x5 he.1 he.2.1
       exact (bln_free (t := x13) (h := x15) (q1 := x17) (q2 := x22) (r1 := x19) (r2 := x24) (f1 := x20) (f2 := x25) (m1 := x18) (m2 := x23) hb (by omega) (by omega) (by assumption) (by assumption) (by omega) (by assumption) (by assumption) (by assumption) (by omega) (by assumption)).1)
  
def o_Em_beginBlock_at_gp_2 : or_T := (195, 32, [(0, (2, 0, 0, [1])), (1, (0, 0, 71, [])), (2, (2, 0, 0, [149])), (5, (0, 0, 71, [])), (7, (0, -1, -1, [])), (8, (0, 0, 33554431, [])), (13, (0, 0, 24, [])), (15, (0, 0, 24, [])), (16, (0, 1, 1, [])), (17, (0, 1, 16777216, [])), (18, (0, -1, -1, [])), (19, (0, -2147483648, 2147483647, [])), (20, (0, 0, 33554431, [])), (21, (0, 1, 1, [])), (22, (0, 1, 16777216, [])), (23, (0, -1, -1, [])), (24, (0, -2147483648, 2147483647, [])), (25, (0, 0, 33554431, [])), (27, (0, 0, 25, [])), (28, (0, 1, 1, [])), (29, (0, 1, 16777216, []))], [(16, [29, 28, 13], [3]), (9, [27, 9], [5]), (9, [26, 9], [9]), (16, [25, 20, 24], [0]), (16, [24, 22, 23], [2]), (16, [22, 21, 15], [3]), (16, [20, 8, 19], [0]), (16, [19, 17, 18], [2]), (16, [17, 16, 13], [3]), (9, [8, 3], [5]), (10, [15, 14, 5], []), (9, [14, 9], [8]), (10, [13, 12, 5], []), (9, [12, 9], [7]), (24, [2, 9], []), (24, [0, 3], []), (24, [1, 4], []), (101, [3, 10], [7]), (8, [7], [2]), (20, [3, 9, 4, 5, 7], [60, 3, 3, 601, 5, 1005, 1006, 2, 1007, 1008]), (20, [9], [60, 2, 3, 595, 5, 6, 7, 8, 9])], [], [], [(20, [3, 9, 4], [60, 3, 3, 600, 5, 1005, 1006, 2, 1007, 1008]), (20, [3, 13], [60, 1, 0, 608, 5]), (20, [13, 15, 25, 29, 27], [61, 0, 609]), (20, [26, 27], [61, 1, 560]), (20, [27, 25], [61, 0, 561])], [], [])
theorem oo_Em_beginBlock_at_gp_2 {kA : Nat → ClassId} : or_ok PRD kA GG o_Em_beginBlock_at_gp_2 := by
  refine or_mk fun A ta ws vs hD hth hl => ?_
  intro t0 r0 t1 k1 t2 r2 t5 k5 t7 k7 t8 k8 t13 k13 t15 k15 t16 k16 t17 k17 t18 k18 t19 k19 t20 k20 t21 k21 t22 k22 t23 k23 t24 k24 t25 k25 t27 k27 t28 k28 t29 k29 f0 f1 f2 f3 f4 f5 f6 f7 f8 f9 f10 f11 f12 f13 f16 f17 f18 ta1 w1 le1 s1 f20 f21 f22
  replace f0 := shm_349 f0
  replace f1 := shm_110 f1
  replace f2 := shm_119 f2
  replace f3 := shm_11 f3
  replace f4 := shm_33 f4
  replace f5 := shm_349 f5
  replace f6 := shm_11 f6
  replace f7 := shm_33 f7
  replace f8 := shm_349 f8
  replace f9 := shm_110 f9
  replace f10 := shm_107 f10
  replace f11 := shm_293 f11
  replace f12 := shm_107 f12
  replace f13 := shm_198 f13
  replace f16 := shm_5 f16
  replace f17 := shm_5 f17
  replace f18 := shm_5 f18
  have s1 : (∀ b j, w_el ws b j = w_el w1 b j) ∧ ∀ b j, w_fd ws b j = if b = v_ad (n_v vs 3) ∧ j = 7 then n_v vs 10 else w_fd w1 b j := s1.2
  replace f20 := shm_39 f20
  replace f21 := shm_1681 f21
  replace f22 := shm_408 f22
  have q9 : n_v vs 9 = n_v vs 2 := f16.symm
  have q3 : n_v vs 3 = n_v vs 0 := f17.symm
  have q4 : n_v vs 4 = n_v vs 1 := f18.symm
  simp only [q9, q3] at f1 f2 f9 f11 f13
  rw [q3] at s1
  simp only [q9, q3, q4] at f21 f22
  have ar_0_2_1 : w_ar w1 (n_v vs 0) 2 = w_ar ws (n_v vs 0) 2 := by show v_ad (w_fd w1 _ _) = v_ad (w_fd ws _ _); rw [s1.2, if_neg (fun e => absurd e.2 (by decide))]
  have ar_2_7_1 : w_ar w1 (n_v vs 2) 7 = w_ar ws (n_v vs 2) 7 := by show v_ad (w_fd w1 _ _) = v_ad (w_fd ws _ _); rw [s1.2, if_neg (fun e => by have e1 := e.1; have e2 := r2; rw [e1, r0] at e2; exact absurd (Option.some.inj e2) (by decide))]
  have ar_2_8_1 : w_ar w1 (n_v vs 2) 8 = w_ar ws (n_v vs 2) 8 := by show v_ad (w_fd w1 _ _) = v_ad (w_fd ws _ _); rw [s1.2, if_neg (fun e => absurd e.2 (by decide))]
  have ar_2_9_1 : w_ar w1 (n_v vs 2) 9 = w_ar ws (n_v vs 2) 9 := by show v_ad (w_fd w1 _ _) = v_ad (w_fd ws _ _); rw [s1.2, if_neg (fun e => absurd e.2 (by decide))]
  have ad_26 : v_ad (n_v vs 26) = w_ar ws (n_v vs 2) 9 := congrArg v_ad f2
  have ad_14 : v_ad (n_v vs 14) = w_ar ws (n_v vs 2) 8 := congrArg v_ad f11
  have ad_12 : v_ad (n_v vs 12) = w_ar ws (n_v vs 2) 7 := congrArg v_ad f13
  have g1 : v_iv (n_v vs 27) = w_fi ws (n_v vs 2) 5 := congrArg v_iv f1
  have g9 : v_iv (n_v vs 8) = w_fi ws (n_v vs 0) 5 := congrArg v_iv f9
  simp only [ad_14] at f10
  have h10 : v_iv (n_v vs 15) = w_ei ws (w_ar ws (n_v vs 2) 8) (v_iv (n_v vs 5)) := f10
  simp only [ad_12] at f12
  have h12 : v_iv (n_v vs 13) = w_ei ws (w_ar ws (n_v vs 2) 7) (v_iv (n_v vs 5)) := f12
  simp only [ar_0_2_1, ar_2_7_1, ar_2_8_1, ar_2_9_1] at f21 f22
  have fe_0_5_1 : w_fi ws (n_v vs 0) 5 = w_fi w1 (n_v vs 0) 5 := by show v_iv (w_fd _ _ _) = v_iv (w_fd _ _ _); rw [s1.2, if_neg (fun e => absurd e.2 (by decide))]
  have fe_2_5_1 : w_fi ws (n_v vs 2) 5 = w_fi w1 (n_v vs 2) 5 := by show v_iv (w_fd _ _ _) = v_iv (w_fd _ _ _); rw [s1.2, if_neg (fun e => absurd e.2 (by decide))]
  have fe_2_6_1 : w_fi ws (n_v vs 2) 6 = w_fi w1 (n_v vs 2) 6 := by show v_iv (w_fd _ _ _) = v_iv (w_fd _ _ _); rw [s1.2, if_neg (fun e => absurd e.2 (by decide))]
  have hE_0_2_1 : ∀ j : Int, w_ei ws (w_ar ws (n_v vs 0) 2) j = w_ei w1 (w_ar ws (n_v vs 0) 2) j := fun j => s1.1 _ _
  have hE_2_7_1 : ∀ j : Int, w_ei ws (w_ar ws (n_v vs 2) 7) j = w_ei w1 (w_ar ws (n_v vs 2) 7) j := fun j => s1.1 _ _
  have hE_2_8_1 : ∀ j : Int, w_ei ws (w_ar ws (n_v vs 2) 8) j = w_ei w1 (w_ar ws (n_v vs 2) 8) j := fun j => s1.1 _ _
  have hE_2_9_1 : ∀ j : Int, w_ei ws (w_ar ws (n_v vs 2) 9) j = w_ei w1 (w_ar ws (n_v vs 2) 9) j := fun j => s1.1 _ _
  have kz_0_5 := fdq_283 hD hth r0
  have kz_2_5 := fdq_85 hD hth r2
  have kz_2_6 := fdq_62 hD hth r2
  have nf0 : fc_1 PRD (20, [3, 9, 4], [60, 3, 3, 600, 5, 1005, 1006, 2, 1007, 1008]) ws (vs) := by
    refine ⟨nf_in hl rfl, sgq_1338 ?_⟩
    · show BLN (w_fi ws (n_v vs 3) 5) (w_fi ws (n_v vs 9) 5) (w_fi ws (n_v vs 9) 6) (w_ei ws (w_ar ws (n_v vs 3) 2)) (w_ei ws (w_ar ws (n_v vs 9) 7)) (w_ei ws (w_ar ws (n_v vs 9) 8)) (v_iv (n_v vs 4))
      simp only [q9, q3, q4]
      exact vc_Em_beginBlock_at_gp_2_0 (v_iv (n_v vs 1)) (v_iv (n_v vs 5)) (v_iv (n_v vs 7)) (w_fi ws (n_v vs 2) 5) (w_fi ws (n_v vs 0) 5) (w_ei ws (w_ar ws (n_v vs 2) 8)) (w_ei ws (w_ar ws (n_v vs 2) 7)) (w_ei ws (w_ar ws (n_v vs 0) 2)) (w_fi ws (n_v vs 2) 6) (w_ei ws (w_ar ws (n_v vs 2) 9)) (w_ei w1 (w_ar ws (n_v vs 0) 2)) (w_ei w1 (w_ar ws (n_v vs 2) 7)) (w_ei w1 (w_ar ws (n_v vs 2) 8)) (w_fi w1 (n_v vs 0) 5) (w_fi w1 (n_v vs 2) 5) (w_fi w1 (n_v vs 2) 6) (w_ei w1 (w_ar ws (n_v vs 2) 9)) k1 k5 k7 f20 f21 fe_0_5_1 fe_2_5_1 fe_2_6_1 hE_0_2_1 hE_2_7_1 hE_2_8_1 hE_2_9_1 kz_0_5 kz_2_5 kz_2_6
  have nf1 : fc_1 PRD (20, [3, 13], [60, 1, 0, 608, 5]) ws (vs) := by
    refine ⟨nf_in hl rfl, sgq_1682 ?_⟩
    · show BTN (w_fi ws (n_v vs 3) 5) (v_iv (n_v vs 13))
      rw [q3]
      exact vc_Em_beginBlock_at_gp_2_1 (v_iv (n_v vs 1)) (v_iv (n_v vs 5)) (v_iv (n_v vs 7)) (v_iv (n_v vs 13)) (w_fi ws (n_v vs 2) 5) (w_fi ws (n_v vs 0) 5) (w_ei ws (w_ar ws (n_v vs 2) 8)) (w_ei ws (w_ar ws (n_v vs 2) 7)) (w_ei ws (w_ar ws (n_v vs 0) 2)) (w_fi ws (n_v vs 2) 6) (w_ei ws (w_ar ws (n_v vs 2) 9)) (w_ei w1 (w_ar ws (n_v vs 0) 2)) (w_ei w1 (w_ar ws (n_v vs 2) 7)) (w_ei w1 (w_ar ws (n_v vs 2) 8)) (w_fi w1 (n_v vs 0) 5) (w_fi w1 (n_v vs 2) 5) (w_fi w1 (n_v vs 2) 6) (w_ei w1 (w_ar ws (n_v vs 2) 9)) k1 k5 k7 k13 h12 f20 f21 fe_0_5_1 fe_2_5_1 fe_2_6_1 hE_0_2_1 hE_2_7_1 hE_2_8_1 hE_2_9_1 kz_0_5 kz_2_5 kz_2_6
  have nf2 : fc_1 PRD (20, [13, 15, 25, 29, 27], [61, 0, 609]) ws (vs) := ⟨nf_in hl rfl, sgq_1683 (vc_Em_beginBlock_at_gp_2_2 (v_iv (n_v vs 1)) (v_iv (n_v vs 5)) (v_iv (n_v vs 7)) (v_iv (n_v vs 8)) (v_iv (n_v vs 13)) (v_iv (n_v vs 15)) (v_iv (n_v vs 16)) (v_iv (n_v vs 17)) (v_iv (n_v vs 18)) (v_iv (n_v vs 19)) (v_iv (n_v vs 20)) (v_iv (n_v vs 21)) (v_iv (n_v vs 22)) (v_iv (n_v vs 23)) (v_iv (n_v vs 24)) (v_iv (n_v vs 25)) (v_iv (n_v vs 27)) (v_iv (n_v vs 28)) (v_iv (n_v vs 29)) (w_fi ws (n_v vs 2) 5) (w_fi ws (n_v vs 0) 5) (w_ei ws (w_ar ws (n_v vs 2) 8)) (w_ei ws (w_ar ws (n_v vs 2) 7)) (w_ei ws (w_ar ws (n_v vs 0) 2)) (w_fi ws (n_v vs 2) 6) (w_ei ws (w_ar ws (n_v vs 2) 9)) (w_ei w1 (w_ar ws (n_v vs 0) 2)) (w_ei w1 (w_ar ws (n_v vs 2) 7)) (w_ei w1 (w_ar ws (n_v vs 2) 8)) (w_fi w1 (n_v vs 0) 5) (w_fi w1 (n_v vs 2) 5) (w_fi w1 (n_v vs 2) 6) (w_ei w1 (w_ar ws (n_v vs 2) 9)) k1 k5 k7 k8 k13 k15 k16 k17 k18 k19 k20 k21 k22 k23 k24 k25 k27 k28 k29 f0 g1 f3 f4 f5 f6 f7 f8 g9 h10 h12 f20 f21 f22 fe_0_5_1 fe_2_5_1 fe_2_6_1 hE_0_2_1 hE_2_7_1 hE_2_8_1 hE_2_9_1 kz_0_5 kz_2_5 kz_2_6)⟩
  have nf3 : fc_1 PRD (20, [26, 27], [61, 1, 560]) ws (vs) := by
    refine ⟨nf_in hl rfl, sgq_1180 ?_⟩
    · show SYMN (w_ei ws (v_ad (n_v vs 26))) (v_iv (n_v vs 27))
      rw [ad_26]
      exact vc_Em_beginBlock_at_gp_2_3 (v_iv (n_v vs 27)) (w_fi ws (n_v vs 2) 5) (w_fi ws (n_v vs 0) 5) (w_ei ws (w_ar ws (n_v vs 2) 8)) (w_ei ws (w_ar ws (n_v vs 2) 7)) (w_ei ws (w_ar ws (n_v vs 0) 2)) (w_fi ws (n_v vs 2) 6) (w_ei ws (w_ar ws (n_v vs 2) 9)) (w_ei w1 (w_ar ws (n_v vs 0) 2)) (w_ei w1 (w_ar ws (n_v vs 2) 7)) (w_ei w1 (w_ar ws (n_v vs 2) 8)) (w_fi w1 (n_v vs 0) 5) (w_fi w1 (n_v vs 2) 5) (w_fi w1 (n_v vs 2) 6) (w_ei w1 (w_ar ws (n_v vs 2) 9)) k27 g1 f22 fe_0_5_1 fe_2_5_1 fe_2_6_1 hE_0_2_1 hE_2_7_1 hE_2_8_1 hE_2_9_1 kz_0_5 kz_2_5 kz_2_6
  have nf4 : fc_1 PRD (20, [27, 25], [61, 0, 561]) ws (vs) := ⟨nf_in hl rfl, sgq_1181 (vc_Em_beginBlock_at_gp_2_4 (v_iv (n_v vs 1)) (v_iv (n_v vs 5)) (v_iv (n_v vs 7)) (v_iv (n_v vs 8)) (v_iv (n_v vs 13)) (v_iv (n_v vs 15)) (v_iv (n_v vs 16)) (v_iv (n_v vs 17)) (v_iv (n_v vs 18)) (v_iv (n_v vs 19)) (v_iv (n_v vs 20)) (v_iv (n_v vs 21)) (v_iv (n_v vs 22)) (v_iv (n_v vs 23)) (v_iv (n_v vs 24)) (v_iv (n_v vs 25)) (v_iv (n_v vs 27)) (w_fi ws (n_v vs 2) 5) (w_fi ws (n_v vs 0) 5) (w_ei ws (w_ar ws (n_v vs 2) 8)) (w_ei ws (w_ar ws (n_v vs 2) 7)) (w_ei ws (w_ar ws (n_v vs 0) 2)) (w_fi ws (n_v vs 2) 6) (w_ei ws (w_ar ws (n_v vs 2) 9)) (w_ei w1 (w_ar ws (n_v vs 0) 2)) (w_ei w1 (w_ar ws (n_v vs 2) 7)) (w_ei w1 (w_ar ws (n_v vs 2) 8)) (w_fi w1 (n_v vs 0) 5) (w_fi w1 (n_v vs 2) 5) (w_fi w1 (n_v vs 2) 6) (w_ei w1 (w_ar ws (n_v vs 2) 9)) k1 k5 k7 k8 k13 k15 k16 k17 k18 k19 k20 k21 k22 k23 k24 k25 k27 g1 f3 f4 f5 f6 f7 f8 g9 h10 h12 f20 f21 f22 fe_0_5_1 fe_2_5_1 fe_2_6_1 hE_0_2_1 hE_2_7_1 hE_2_8_1 hE_2_9_1 kz_0_5 kz_2_5 kz_2_6)⟩
  refine ⟨(fun _ h => (by cases h)), [], trivial, ?_, (fun _ h => (by cases h))⟩
  rw [List.append_nil]
  exact List.forall_mem_cons.mpr ⟨⟨show (20 : Nat) < 100 from by decide, nf0⟩, List.forall_mem_cons.mpr ⟨⟨show (20 : Nat) < 100 from by decide, nf1⟩, List.forall_mem_cons.mpr ⟨⟨show (20 : Nat) < 100 from by decide, nf2⟩, List.forall_mem_cons.mpr ⟨⟨show (20 : Nat) < 100 from by decide, nf3⟩, List.forall_mem_cons.mpr ⟨⟨show (20 : Nat) < 100 from by decide, nf4⟩, (fun _ h => (by cases h))⟩⟩⟩⟩⟩
set_option maxHeartbeats 4000000 in
theorem vc_Em_beginBlock_at_gp_3_0 (x13 : Int) (x15 : Int) (x25 : Int) (x27 : Int) (x29 : Int) (x32 : Int) (wayLength_0 : Int) (nodes_0o2 : Int) (blockNodes_0 : Int) (block_0 : Int → Int) (tail_0o2 : Int → Int) (head_0o2 : Int → Int) (edges_0o2 : Int) (near_0o2 : Int → Int) (way_0 : Int → Int) (block_1 : Int → Int) (tail_1o2 : Int → Int) (head_1o2 : Int → Int) (blockNodes_1 : Int) (nodes_1o2 : Int) (edges_1o2 : Int) (near_1o2 : Int → Int) (way_1 : Int → Int) (k13 : 0 ≤ x13 ∧ x13 ≤ 24) (k15 : 0 ≤ x15 ∧ x15 ≤ 24) (k25 : 0 ≤ x25 ∧ x25 ≤ 33554431) (k27 : 0 ≤ x27 ∧ x27 ≤ 25) (k29 : 1 ≤ x29 ∧ x29 ≤ 16777216) (k32 : 0 ≤ x32 ∧ x32 ≤ 26) (f22 : RFR (x13) (x15) (x25) (x29) (x27)) (f27 : SHW (way_1) (x15) (x29) (x25) (x32)) (fe_0_5_1 : blockNodes_0 = blockNodes_1) (fe_0_15_1 : wayLength_0 = x32) (fe_2_5_1 : nodes_0o2 = nodes_1o2) (fe_2_6_1 : edges_0o2 = edges_1o2) (hE_0_2_1 : ∀ j : Int, block_0 j = block_1 j) (hE_0_14_1 : ∀ j : Int, way_0 j = way_1 j) (hE_2_7_1 : ∀ j : Int, tail_0o2 j = tail_1o2 j) (hE_2_8_1 : ∀ j : Int, head_0o2 j = head_1o2 j) (hE_2_9_1 : ∀ j : Int, near_0o2 j = near_1o2 j) (kz_0_5 : 0 ≤ blockNodes_0 ∧ blockNodes_0 ≤ 33554431) (kz_0_15 : 0 ≤ wayLength_0 ∧ wayLength_0 ≤ 27) (kz_2_5 : 0 ≤ nodes_0o2 ∧ nodes_0o2 ≤ 25) (kz_2_6 : 0 ≤ edges_0o2 ∧ edges_0o2 ≤ 72) : RNP (wayLength_0) (way_0) (x13) := by
  subst fe_0_5_1
  subst fe_2_5_1
  subst fe_2_6_1
  have e_hE_0_2_1 := funext hE_0_2_1; subst e_hE_0_2_1
  have e_hE_0_14_1 := funext hE_0_14_1; subst e_hE_0_14_1
  have e_hE_2_7_1 := funext hE_2_7_1; subst e_hE_2_7_1
  have e_hE_2_8_1 := funext hE_2_8_1; subst e_hE_2_8_1
  have e_hE_2_9_1 := funext hE_2_9_1; subst e_hE_2_9_1
  first
    | exact rnp_rfr ‹RFR _ _ _ _ _› ‹SHW _ _ _ _ _› (by omega)
  
def o_Em_beginBlock_at_gp_3 : or_T := (204, 33, [(0, (2, 0, 0, [1])), (2, (2, 0, 0, [149])), (13, (0, 0, 24, [])), (15, (0, 0, 24, [])), (25, (0, 0, 33554431, [])), (27, (0, 0, 25, [])), (29, (0, 1, 16777216, [])), (32, (0, 0, 26, []))], [(9, [31, 3], [14]), (9, [26, 9], [9]), (24, [2, 9], []), (24, [0, 3], []), (101, [3, 32], [15]), (20, [13, 15, 25, 29, 27], [61, 0, 609]), (20, [31, 15, 29, 25, 32], [61, 1, 564])], [], [], [(20, [3, 13], [60, 1, 1, 604, 15, 14])], [], [])
theorem oo_Em_beginBlock_at_gp_3 {kA : Nat → ClassId} : or_ok PRD kA GG o_Em_beginBlock_at_gp_3 := by
  refine or_mk fun A ta ws vs hD hth hl => ?_
  intro t0 r0 t2 r2 t13 k13 t15 k15 t25 k25 t27 k27 t29 k29 t32 k32 f1 f3 f14 f15 ta1 w1 le1 s1 f22 f27
  replace f1 := shm_115 f1
  replace f3 := shm_119 f3
  replace f14 := shm_5 f14
  replace f15 := shm_5 f15
  have s1 : (∀ b j, w_el ws b j = w_el w1 b j) ∧ ∀ b j, w_fd ws b j = if b = v_ad (n_v vs 3) ∧ j = 15 then n_v vs 32 else w_fd w1 b j := s1.2
  replace f22 := shm_1683 f22
  replace f27 := shm_1187 f27
  have q9 : n_v vs 9 = n_v vs 2 := f14.symm
  have q3 : n_v vs 3 = n_v vs 0 := f15.symm
  simp only [q3, q9] at f1 f3
  rw [q3] at s1
  have ar_0_2_1 : w_ar w1 (n_v vs 0) 2 = w_ar ws (n_v vs 0) 2 := by show v_ad (w_fd w1 _ _) = v_ad (w_fd ws _ _); rw [s1.2, if_neg (fun e => absurd e.2 (by decide))]
  have ar_2_7_1 : w_ar w1 (n_v vs 2) 7 = w_ar ws (n_v vs 2) 7 := by show v_ad (w_fd w1 _ _) = v_ad (w_fd ws _ _); rw [s1.2, if_neg (fun e => absurd e.2 (by decide))]
  have ar_2_8_1 : w_ar w1 (n_v vs 2) 8 = w_ar ws (n_v vs 2) 8 := by show v_ad (w_fd w1 _ _) = v_ad (w_fd ws _ _); rw [s1.2, if_neg (fun e => absurd e.2 (by decide))]
  have ar_2_9_1 : w_ar w1 (n_v vs 2) 9 = w_ar ws (n_v vs 2) 9 := by show v_ad (w_fd w1 _ _) = v_ad (w_fd ws _ _); rw [s1.2, if_neg (fun e => absurd e.2 (by decide))]
  have ad_31 : v_ad (n_v vs 31) = w_ar ws (n_v vs 0) 14 := congrArg v_ad f1
  have ad_26 : v_ad (n_v vs 26) = w_ar ws (n_v vs 2) 9 := congrArg v_ad f3
  simp only [ad_26, ad_31, ar_0_2_1, ar_2_7_1, ar_2_8_1, ar_2_9_1] at f27
  have fe_0_5_1 : w_fi ws (n_v vs 0) 5 = w_fi w1 (n_v vs 0) 5 := by show v_iv (w_fd _ _ _) = v_iv (w_fd _ _ _); rw [s1.2, if_neg (fun e => absurd e.2 (by decide))]
  have fe_0_15_1 : w_fi ws (n_v vs 0) 15 = v_iv (n_v vs 32) := by show v_iv (w_fd _ _ _) = _; rw [s1.2, if_pos ⟨rfl, rfl⟩]
  have fe_2_5_1 : w_fi ws (n_v vs 2) 5 = w_fi w1 (n_v vs 2) 5 := by show v_iv (w_fd _ _ _) = v_iv (w_fd _ _ _); rw [s1.2, if_neg (fun e => absurd e.2 (by decide))]
  have fe_2_6_1 : w_fi ws (n_v vs 2) 6 = w_fi w1 (n_v vs 2) 6 := by show v_iv (w_fd _ _ _) = v_iv (w_fd _ _ _); rw [s1.2, if_neg (fun e => absurd e.2 (by decide))]
  have hE_0_2_1 : ∀ j : Int, w_ei ws (w_ar ws (n_v vs 0) 2) j = w_ei w1 (w_ar ws (n_v vs 0) 2) j := fun j => s1.1 _ _
  have hE_0_14_1 : ∀ j : Int, w_ei ws (w_ar ws (n_v vs 0) 14) j = w_ei w1 (w_ar ws (n_v vs 0) 14) j := fun j => s1.1 _ _
  have hE_2_7_1 : ∀ j : Int, w_ei ws (w_ar ws (n_v vs 2) 7) j = w_ei w1 (w_ar ws (n_v vs 2) 7) j := fun j => s1.1 _ _
  have hE_2_8_1 : ∀ j : Int, w_ei ws (w_ar ws (n_v vs 2) 8) j = w_ei w1 (w_ar ws (n_v vs 2) 8) j := fun j => s1.1 _ _
  have hE_2_9_1 : ∀ j : Int, w_ei ws (w_ar ws (n_v vs 2) 9) j = w_ei w1 (w_ar ws (n_v vs 2) 9) j := fun j => s1.1 _ _
  have kz_0_5 := fdq_283 hD hth r0
  have kz_0_15 := fdq_54 hD hth r0
  have kz_2_5 := fdq_85 hD hth r2
  have kz_2_6 := fdq_62 hD hth r2
  have nf0 : fc_1 PRD (20, [3, 13], [60, 1, 1, 604, 15, 14]) ws (vs) := by
    refine ⟨nf_in hl rfl, sgq_348 ?_⟩
    · show RNP (w_fi ws (n_v vs 3) 15) (w_ei ws (w_ar ws (n_v vs 3) 14)) (v_iv (n_v vs 13))
      rw [q3]
      exact vc_Em_beginBlock_at_gp_3_0 (v_iv (n_v vs 13)) (v_iv (n_v vs 15)) (v_iv (n_v vs 25)) (v_iv (n_v vs 27)) (v_iv (n_v vs 29)) (v_iv (n_v vs 32)) (w_fi ws (n_v vs 0) 15) (w_fi ws (n_v vs 2) 5) (w_fi ws (n_v vs 0) 5) (w_ei ws (w_ar ws (n_v vs 0) 2)) (w_ei ws (w_ar ws (n_v vs 2) 7)) (w_ei ws (w_ar ws (n_v vs 2) 8)) (w_fi ws (n_v vs 2) 6) (w_ei ws (w_ar ws (n_v vs 2) 9)) (w_ei ws (w_ar ws (n_v vs 0) 14)) (w_ei w1 (w_ar ws (n_v vs 0) 2)) (w_ei w1 (w_ar ws (n_v vs 2) 7)) (w_ei w1 (w_ar ws (n_v vs 2) 8)) (w_fi w1 (n_v vs 0) 5) (w_fi w1 (n_v vs 2) 5) (w_fi w1 (n_v vs 2) 6) (w_ei w1 (w_ar ws (n_v vs 2) 9)) (w_ei w1 (w_ar ws (n_v vs 0) 14)) k13 k15 k25 k27 k29 k32 f22 f27 fe_0_5_1 fe_0_15_1 fe_2_5_1 fe_2_6_1 hE_0_2_1 hE_0_14_1 hE_2_7_1 hE_2_8_1 hE_2_9_1 kz_0_5 kz_0_15 kz_2_5 kz_2_6
  refine ⟨(fun _ h => (by cases h)), [], trivial, ?_, (fun _ h => (by cases h))⟩
  rw [List.append_nil]
  exact List.forall_mem_cons.mpr ⟨⟨show (20 : Nat) < 100 from by decide, nf0⟩, (fun _ h => (by cases h))⟩
set_option maxHeartbeats 4000000 in
theorem vc_Em_beginBlock_at_gp_4_0 (x1 : Int) (nodes_0o2 : Int) (blockNodes_0 : Int) (wayLength_0 : Int) (way_0 : Int → Int) (block_0 : Int → Int) (tail_0o2 : Int → Int) (head_0o2 : Int → Int) (edges_0o2 : Int) (near_0o2 : Int → Int) (cycle_0 : Int → Int) (cycleLength_0 : Int → Int) (cycles_0 : Int) (drawnNodes_0 : Int) (way_1 : Int → Int) (wayLength_1 : Int) (block_1 : Int → Int) (tail_1o2 : Int → Int) (head_1o2 : Int → Int) (blockNodes_1 : Int) (nodes_1o2 : Int) (edges_1o2 : Int) (near_1o2 : Int → Int) (cycle_1 : Int → Int) (cycleLength_1 : Int → Int) (cycles_1 : Int) (drawnNodes_1 : Int) (k1 : 0 ≤ x1 ∧ x1 ≤ 71) (f26 : BLN (blockNodes_1) (nodes_1o2) (edges_1o2) (block_1) (tail_1o2) (head_1o2) (x1)) (fe_0_5_1 : blockNodes_0 = blockNodes_1) (fe_0_6_1 : drawnNodes_0 = drawnNodes_1) (fe_0_7_1 : cycles_0 = cycles_1) (fe_0_15_1 : wayLength_0 = wayLength_1) (fe_2_5_1 : nodes_0o2 = nodes_1o2) (fe_2_6_1 : edges_0o2 = edges_1o2) (hE_0_2_1 : ∀ j : Int, block_0 j = block_1 j) (hE_0_8_1 : ∀ j : Int, cycle_0 j = cycle_1 j) (hE_0_9_1 : ∀ j : Int, cycleLength_0 j = cycleLength_1 j) (hE_0_14_1 : ∀ j : Int, way_0 j = way_1 j) (hE_2_7_1 : ∀ j : Int, tail_0o2 j = tail_1o2 j) (hE_2_8_1 : ∀ j : Int, head_0o2 j = head_1o2 j) (hE_2_9_1 : ∀ j : Int, near_0o2 j = near_1o2 j) (kz_0_5 : 0 ≤ blockNodes_0 ∧ blockNodes_0 ≤ 33554431) (kz_0_6 : 0 ≤ drawnNodes_0 ∧ drawnNodes_0 ≤ 33554431) (kz_0_7 : 0 ≤ cycles_0 ∧ cycles_0 ≤ 50) (kz_0_15 : 0 ≤ wayLength_0 ∧ wayLength_0 ≤ 27) (kz_2_5 : 0 ≤ nodes_0o2 ∧ nodes_0o2 ≤ 25) (kz_2_6 : 0 ≤ edges_0o2 ∧ edges_0o2 ≤ 72) : BLN (blockNodes_0) (nodes_0o2) (edges_0o2) (block_0) (tail_0o2) (head_0o2) (x1) := by
  subst fe_0_5_1
  subst fe_0_6_1
  subst fe_0_7_1
  subst fe_0_15_1
  subst fe_2_5_1
  subst fe_2_6_1
  have e_hE_0_2_1 := funext hE_0_2_1; subst e_hE_0_2_1
  have e_hE_0_8_1 := funext hE_0_8_1; subst e_hE_0_8_1
  have e_hE_0_9_1 := funext hE_0_9_1; subst e_hE_0_9_1
  have e_hE_0_14_1 := funext hE_0_14_1; subst e_hE_0_14_1
  have e_hE_2_7_1 := funext hE_2_7_1; subst e_hE_2_7_1
  have e_hE_2_8_1 := funext hE_2_8_1; subst e_hE_2_8_1
  have e_hE_2_9_1 := funext hE_2_9_1; subst e_hE_2_9_1
  first
    | assumption
set_option maxHeartbeats 4000000 in
theorem vc_Em_beginBlock_at_gp_4_1 (nodes_0o2 : Int) (blockNodes_0 : Int) (wayLength_0 : Int) (way_0 : Int → Int) (block_0 : Int → Int) (tail_0o2 : Int → Int) (head_0o2 : Int → Int) (edges_0o2 : Int) (near_0o2 : Int → Int) (cycle_0 : Int → Int) (cycleLength_0 : Int → Int) (cycles_0 : Int) (drawnNodes_0 : Int) (way_1 : Int → Int) (wayLength_1 : Int) (block_1 : Int → Int) (tail_1o2 : Int → Int) (head_1o2 : Int → Int) (blockNodes_1 : Int) (nodes_1o2 : Int) (edges_1o2 : Int) (near_1o2 : Int → Int) (cycle_1 : Int → Int) (cycleLength_1 : Int → Int) (cycles_1 : Int) (drawnNodes_1 : Int) (f35 : CYR (cycles_1) (drawnNodes_1) (cycle_1) (cycleLength_1)) (fe_0_5_1 : blockNodes_0 = blockNodes_1) (fe_0_6_1 : drawnNodes_0 = drawnNodes_1) (fe_0_7_1 : cycles_0 = cycles_1) (fe_0_15_1 : wayLength_0 = wayLength_1) (fe_2_5_1 : nodes_0o2 = nodes_1o2) (fe_2_6_1 : edges_0o2 = edges_1o2) (hE_0_2_1 : ∀ j : Int, block_0 j = block_1 j) (hE_0_8_1 : ∀ j : Int, cycle_0 j = cycle_1 j) (hE_0_9_1 : ∀ j : Int, cycleLength_0 j = cycleLength_1 j) (hE_0_14_1 : ∀ j : Int, way_0 j = way_1 j) (hE_2_7_1 : ∀ j : Int, tail_0o2 j = tail_1o2 j) (hE_2_8_1 : ∀ j : Int, head_0o2 j = head_1o2 j) (hE_2_9_1 : ∀ j : Int, near_0o2 j = near_1o2 j) (kz_0_5 : 0 ≤ blockNodes_0 ∧ blockNodes_0 ≤ 33554431) (kz_0_6 : 0 ≤ drawnNodes_0 ∧ drawnNodes_0 ≤ 33554431) (kz_0_7 : 0 ≤ cycles_0 ∧ cycles_0 ≤ 50) (kz_0_15 : 0 ≤ wayLength_0 ∧ wayLength_0 ≤ 27) (kz_2_5 : 0 ≤ nodes_0o2 ∧ nodes_0o2 ≤ 25) (kz_2_6 : 0 ≤ edges_0o2 ∧ edges_0o2 ≤ 72) : CYR (cycles_0) (drawnNodes_0) (cycle_0) (cycleLength_0) := by
  subst fe_0_5_1
  subst fe_0_6_1
  subst fe_0_7_1
  subst fe_0_15_1
  subst fe_2_5_1
  subst fe_2_6_1
  have e_hE_0_2_1 := funext hE_0_2_1; subst e_hE_0_2_1
  have e_hE_0_8_1 := funext hE_0_8_1; subst e_hE_0_8_1
  have e_hE_0_9_1 := funext hE_0_9_1; subst e_hE_0_9_1
  have e_hE_0_14_1 := funext hE_0_14_1; subst e_hE_0_14_1
  have e_hE_2_7_1 := funext hE_2_7_1; subst e_hE_2_7_1
  have e_hE_2_8_1 := funext hE_2_8_1; subst e_hE_2_8_1
  have e_hE_2_9_1 := funext hE_2_9_1; subst e_hE_2_9_1
  first
    | assumption
    | (intro c c0 c1; omega)
set_option maxHeartbeats 4000000 in
theorem vc_Em_beginBlock_at_gp_4_2 (x35 : Int) (nodes_0o2 : Int) (blockNodes_0 : Int) (wayLength_0 : Int) (way_0 : Int → Int) (block_0 : Int → Int) (tail_0o2 : Int → Int) (head_0o2 : Int → Int) (edges_0o2 : Int) (near_0o2 : Int → Int) (cycle_0 : Int → Int) (cycleLength_0 : Int → Int) (cycles_0 : Int) (drawnNodes_0 : Int) (way_1 : Int → Int) (wayLength_1 : Int) (block_1 : Int → Int) (tail_1o2 : Int → Int) (head_1o2 : Int → Int) (blockNodes_1 : Int) (nodes_1o2 : Int) (edges_1o2 : Int) (near_1o2 : Int → Int) (cycle_1 : Int → Int) (cycleLength_1 : Int → Int) (cycles_1 : Int) (drawnNodes_1 : Int) (k35 : (-2147483648) ≤ x35 ∧ x35 ≤ 2147483647) (f22 : 2 ≤ cycles_0) (fe_0_5_1 : blockNodes_0 = blockNodes_1) (fe_0_6_1 : drawnNodes_0 = drawnNodes_1) (fe_0_7_1 : cycles_0 = cycles_1) (fe_0_15_1 : wayLength_0 = wayLength_1) (fe_2_5_1 : nodes_0o2 = nodes_1o2) (fe_2_6_1 : edges_0o2 = edges_1o2) (hE_0_2_1 : ∀ j : Int, block_0 j = block_1 j) (hE_0_8_1 : ∀ j : Int, cycle_0 j = cycle_1 j) (hE_0_9_1 : ∀ j : Int, cycleLength_0 j = cycleLength_1 j) (hE_0_14_1 : ∀ j : Int, way_0 j = way_1 j) (hE_2_7_1 : ∀ j : Int, tail_0o2 j = tail_1o2 j) (hE_2_8_1 : ∀ j : Int, head_0o2 j = head_1o2 j) (hE_2_9_1 : ∀ j : Int, near_0o2 j = near_1o2 j) (kz_0_5 : 0 ≤ blockNodes_0 ∧ blockNodes_0 ≤ 33554431) (kz_0_6 : 0 ≤ drawnNodes_0 ∧ drawnNodes_0 ≤ 33554431) (kz_0_7 : 0 ≤ cycles_0 ∧ cycles_0 ≤ 50) (kz_0_15 : 0 ≤ wayLength_0 ∧ wayLength_0 ≤ 27) (kz_2_5 : 0 ≤ nodes_0o2 ∧ nodes_0o2 ≤ 25) (kz_2_6 : 0 ≤ edges_0o2 ∧ edges_0o2 ≤ 72) : (x35 ≤ 0) ∨ (1 ≤ cycles_0) := by
  subst fe_0_5_1
  subst fe_0_6_1
  subst fe_0_7_1
  subst fe_0_15_1
  subst fe_2_5_1
  subst fe_2_6_1
  have e_hE_0_2_1 := funext hE_0_2_1; subst e_hE_0_2_1
  have e_hE_0_8_1 := funext hE_0_8_1; subst e_hE_0_8_1
  have e_hE_0_9_1 := funext hE_0_9_1; subst e_hE_0_9_1
  have e_hE_0_14_1 := funext hE_0_14_1; subst e_hE_0_14_1
  have e_hE_2_7_1 := funext hE_2_7_1; subst e_hE_2_7_1
  have e_hE_2_8_1 := funext hE_2_8_1; subst e_hE_2_8_1
  have e_hE_2_9_1 := funext hE_2_9_1; subst e_hE_2_9_1
  first
    | omega
set_option maxHeartbeats 4000000 in
theorem vc_Em_beginBlock_at_gp_4_3 (x13 : Int) (x35 : Int) (nodes_0o2 : Int) (blockNodes_0 : Int) (wayLength_0 : Int) (way_0 : Int → Int) (block_0 : Int → Int) (tail_0o2 : Int → Int) (head_0o2 : Int → Int) (edges_0o2 : Int) (near_0o2 : Int → Int) (cycle_0 : Int → Int) (cycleLength_0 : Int → Int) (cycles_0 : Int) (drawnNodes_0 : Int) (way_1 : Int → Int) (wayLength_1 : Int) (block_1 : Int → Int) (tail_1o2 : Int → Int) (head_1o2 : Int → Int) (blockNodes_1 : Int) (nodes_1o2 : Int) (edges_1o2 : Int) (near_1o2 : Int → Int) (cycle_1 : Int → Int) (cycleLength_1 : Int → Int) (cycles_1 : Int) (drawnNodes_1 : Int) (k13 : 0 ≤ x13 ∧ x13 ≤ 24) (k35 : (-2147483648) ≤ x35 ∧ x35 ≤ 2147483647) (f27 : BTN (blockNodes_1) (x13)) (f37 : BTD (drawnNodes_1) (x13)) (fe_0_5_1 : blockNodes_0 = blockNodes_1) (fe_0_6_1 : drawnNodes_0 = drawnNodes_1) (fe_0_7_1 : cycles_0 = cycles_1) (fe_0_15_1 : wayLength_0 = wayLength_1) (fe_2_5_1 : nodes_0o2 = nodes_1o2) (fe_2_6_1 : edges_0o2 = edges_1o2) (hE_0_2_1 : ∀ j : Int, block_0 j = block_1 j) (hE_0_8_1 : ∀ j : Int, cycle_0 j = cycle_1 j) (hE_0_9_1 : ∀ j : Int, cycleLength_0 j = cycleLength_1 j) (hE_0_14_1 : ∀ j : Int, way_0 j = way_1 j) (hE_2_7_1 : ∀ j : Int, tail_0o2 j = tail_1o2 j) (hE_2_8_1 : ∀ j : Int, head_0o2 j = head_1o2 j) (hE_2_9_1 : ∀ j : Int, near_0o2 j = near_1o2 j) (kz_0_5 : 0 ≤ blockNodes_0 ∧ blockNodes_0 ≤ 33554431) (kz_0_6 : 0 ≤ drawnNodes_0 ∧ drawnNodes_0 ≤ 33554431) (kz_0_7 : 0 ≤ cycles_0 ∧ cycles_0 ≤ 50) (kz_0_15 : 0 ≤ wayLength_0 ∧ wayLength_0 ≤ 27) (kz_2_5 : 0 ≤ nodes_0o2 ∧ nodes_0o2 ≤ 25) (kz_2_6 : 0 ≤ edges_0o2 ∧ edges_0o2 ≤ 72) : DBA (drawnNodes_0) (blockNodes_0) (x35) := by
  subst fe_0_5_1
  subst fe_0_6_1
  subst fe_0_7_1
  subst fe_0_15_1
  subst fe_2_5_1
  subst fe_2_6_1
  have e_hE_0_2_1 := funext hE_0_2_1; subst e_hE_0_2_1
  have e_hE_0_8_1 := funext hE_0_8_1; subst e_hE_0_8_1
  have e_hE_0_9_1 := funext hE_0_9_1; subst e_hE_0_9_1
  have e_hE_0_14_1 := funext hE_0_14_1; subst e_hE_0_14_1
  have e_hE_2_7_1 := funext hE_2_7_1; subst e_hE_2_7_1
  have e_hE_2_8_1 := funext hE_2_8_1; subst e_hE_2_8_1
  have e_hE_2_9_1 := funext hE_2_9_1; subst e_hE_2_9_1
  first
    | exact Or.inl (by omega)
    | exact Or.inr ⟨x13, by omega, by omega, ‹BTD _ _›, ‹BTN _ _›⟩
def o_Em_beginBlock_at_gp_4 : or_T := (224, 36, [(0, (2, 0, 0, [1])), (1, (0, 0, 71, [])), (2, (2, 0, 0, [149])), (13, (0, 0, 24, [])), (33, (2, 0, 0, [27])), (35, (0, -2147483648, 2147483647, []))], [(9, [31, 3], [14]), (9, [26, 9], [9]), (24, [2, 9], []), (24, [0, 3], []), (24, [1, 4], []), (20, [3], [50, 1, 0, 7, 0, 2, 0, 2, 2, 0, 7]), (100, [33, 5, 34], []), (20, [3, 9, 4], [60, 3, 3, 600, 5, 1005, 1006, 2, 1007, 1008]), (20, [3, 13], [60, 1, 0, 608, 5]), (20, [3], [60, 2, 2, 603, 7, 6, 8, 9]), (20, [3, 13], [60, 1, 0, 606, 6])], [], [], [(20, [0, 2, 1], [60, 3, 3, 600, 5, 1005, 1006, 2, 1007, 1008]), (20, [0], [60, 2, 2, 603, 7, 6, 8, 9]), (20, [35, 0], [50, 1, 0, 1007, 3, 6, 0, 2, 1, 0, 0, 0, 0, 2, 0, 1, 2, 1, 7]), (20, [0, 35], [60, 2, 0, 607, 6, 5])], [], [])
theorem oo_Em_beginBlock_at_gp_4 {kA : Nat → ClassId} : or_ok PRD kA GG o_Em_beginBlock_at_gp_4 := by
  refine or_mk fun A ta ws vs hD hth hl => ?_
  intro t0 r0 t1 k1 t2 r2 t13 k13 t33 r33 t35 k35 f1 f3 f16 f17 f18 f22 ta1 w1 le1 s1 f26 f27 f35 f37
  replace f1 := shm_115 f1
  replace f3 := shm_119 f3
  replace f16 := shm_5 f16
  replace f17 := shm_5 f17
  replace f18 := shm_5 f18
  replace f22 := shm_352 f22
  have s1 : (∀ b j, w_el ws b j = if b = v_ad (n_v vs 33) ∧ j = (v_iv (n_v vs 5)).toNat then v_iv (n_v vs 34) else w_el w1 b j) ∧ ∀ b k, w_fd ws b k = w_fd w1 b k := s1.2
  replace f26 := shm_1338 f26
  replace f27 := shm_1682 f27
  replace f35 := shm_351 f35
  replace f37 := shm_353 f37
  have q9 : n_v vs 9 = n_v vs 2 := f16.symm
  have q3 : n_v vs 3 = n_v vs 0 := f17.symm
  have q4 : n_v vs 4 = n_v vs 1 := f18.symm
  simp only [q3, q9, q4] at f1 f3 f22 f26 f27 f35 f37
  have ar_0_2_1 : w_ar w1 (n_v vs 0) 2 = w_ar ws (n_v vs 0) 2 := congrArg v_ad (s1.2 _ _).symm
  have cr_0_2 := fdq_56 hD hth r0
  have ar_0_8_1 : w_ar w1 (n_v vs 0) 8 = w_ar ws (n_v vs 0) 8 := congrArg v_ad (s1.2 _ _).symm
  have cr_0_8 := fdq_51 hD hth r0
  have ar_0_9_1 : w_ar w1 (n_v vs 0) 9 = w_ar ws (n_v vs 0) 9 := congrArg v_ad (s1.2 _ _).symm
  have cr_0_9 := fdq_50 hD hth r0
  have ar_0_14_1 : w_ar w1 (n_v vs 0) 14 = w_ar ws (n_v vs 0) 14 := congrArg v_ad (s1.2 _ _).symm
  have cr_0_14 := fdq_52 hD hth r0
  have ar_2_7_1 : w_ar w1 (n_v vs 2) 7 = w_ar ws (n_v vs 2) 7 := congrArg v_ad (s1.2 _ _).symm
  have cr_2_7 := fdq_60 hD hth r2
  have ar_2_8_1 : w_ar w1 (n_v vs 2) 8 = w_ar ws (n_v vs 2) 8 := congrArg v_ad (s1.2 _ _).symm
  have cr_2_8 := fdq_61 hD hth r2
  have ar_2_9_1 : w_ar w1 (n_v vs 2) 9 = w_ar ws (n_v vs 2) 9 := congrArg v_ad (s1.2 _ _).symm
  have cr_2_9 := fdq_83 hD hth r2
  have ad_31 : v_ad (n_v vs 31) = w_ar ws (n_v vs 0) 14 := congrArg v_ad f1
  have ad_26 : v_ad (n_v vs 26) = w_ar ws (n_v vs 2) 9 := congrArg v_ad f3
  simp only [ad_26, ad_31, ar_0_14_1, ar_0_2_1, ar_2_7_1, ar_2_8_1, ar_2_9_1, ar_0_8_1, ar_0_9_1] at f26 f35
  have fe_0_5_1 : w_fi ws (n_v vs 0) 5 = w_fi w1 (n_v vs 0) 5 := congrArg v_iv (s1.2 _ _)
  have fe_0_6_1 : w_fi ws (n_v vs 0) 6 = w_fi w1 (n_v vs 0) 6 := congrArg v_iv (s1.2 _ _)
  have fe_0_7_1 : w_fi ws (n_v vs 0) 7 = w_fi w1 (n_v vs 0) 7 := congrArg v_iv (s1.2 _ _)
  have fe_0_15_1 : w_fi ws (n_v vs 0) 15 = w_fi w1 (n_v vs 0) 15 := congrArg v_iv (s1.2 _ _)
  have fe_2_5_1 : w_fi ws (n_v vs 2) 5 = w_fi w1 (n_v vs 2) 5 := congrArg v_iv (s1.2 _ _)
  have fe_2_6_1 : w_fi ws (n_v vs 2) 6 = w_fi w1 (n_v vs 2) 6 := congrArg v_iv (s1.2 _ _)
  have hE_0_2_1 : ∀ j : Int, w_ei ws (w_ar ws (n_v vs 0) 2) j = w_ei w1 (w_ar ws (n_v vs 0) 2) j := el_kp s1.1 r33 cr_0_2 (by decide)
  have hE_0_8_1 : ∀ j : Int, w_ei ws (w_ar ws (n_v vs 0) 8) j = w_ei w1 (w_ar ws (n_v vs 0) 8) j := el_kp s1.1 r33 cr_0_8 (by decide)
  have hE_0_9_1 : ∀ j : Int, w_ei ws (w_ar ws (n_v vs 0) 9) j = w_ei w1 (w_ar ws (n_v vs 0) 9) j := el_kp s1.1 r33 cr_0_9 (by decide)
  have hE_0_14_1 : ∀ j : Int, w_ei ws (w_ar ws (n_v vs 0) 14) j = w_ei w1 (w_ar ws (n_v vs 0) 14) j := el_kp s1.1 r33 cr_0_14 (by decide)
  have hE_2_7_1 : ∀ j : Int, w_ei ws (w_ar ws (n_v vs 2) 7) j = w_ei w1 (w_ar ws (n_v vs 2) 7) j := el_kp s1.1 r33 cr_2_7 (by decide)
  have hE_2_8_1 : ∀ j : Int, w_ei ws (w_ar ws (n_v vs 2) 8) j = w_ei w1 (w_ar ws (n_v vs 2) 8) j := el_kp s1.1 r33 cr_2_8 (by decide)
  have hE_2_9_1 : ∀ j : Int, w_ei ws (w_ar ws (n_v vs 2) 9) j = w_ei w1 (w_ar ws (n_v vs 2) 9) j := el_kp s1.1 r33 cr_2_9 (by decide)
  have kz_0_5 := fdq_283 hD hth r0
  have kz_0_6 := fdq_53 hD hth r0
  have kz_0_7 := fdq_49 hD hth r0
  have kz_0_15 := fdq_54 hD hth r0
  have kz_2_5 := fdq_85 hD hth r2
  have kz_2_6 := fdq_62 hD hth r2
  have nf0 : fc_1 PRD (20, [0, 2, 1], [60, 3, 3, 600, 5, 1005, 1006, 2, 1007, 1008]) ws (vs) := ⟨nf_in hl rfl, sgq_1338 (vc_Em_beginBlock_at_gp_4_0 (v_iv (n_v vs 1)) (w_fi ws (n_v vs 2) 5) (w_fi ws (n_v vs 0) 5) (w_fi ws (n_v vs 0) 15) (w_ei ws (w_ar ws (n_v vs 0) 14)) (w_ei ws (w_ar ws (n_v vs 0) 2)) (w_ei ws (w_ar ws (n_v vs 2) 7)) (w_ei ws (w_ar ws (n_v vs 2) 8)) (w_fi ws (n_v vs 2) 6) (w_ei ws (w_ar ws (n_v vs 2) 9)) (w_ei ws (w_ar ws (n_v vs 0) 8)) (w_ei ws (w_ar ws (n_v vs 0) 9)) (w_fi ws (n_v vs 0) 7) (w_fi ws (n_v vs 0) 6) (w_ei w1 (w_ar ws (n_v vs 0) 14)) (w_fi w1 (n_v vs 0) 15) (w_ei w1 (w_ar ws (n_v vs 0) 2)) (w_ei w1 (w_ar ws (n_v vs 2) 7)) (w_ei w1 (w_ar ws (n_v vs 2) 8)) (w_fi w1 (n_v vs 0) 5) (w_fi w1 (n_v vs 2) 5) (w_fi w1 (n_v vs 2) 6) (w_ei w1 (w_ar ws (n_v vs 2) 9)) (w_ei w1 (w_ar ws (n_v vs 0) 8)) (w_ei w1 (w_ar ws (n_v vs 0) 9)) (w_fi w1 (n_v vs 0) 7) (w_fi w1 (n_v vs 0) 6) k1 f26 fe_0_5_1 fe_0_6_1 fe_0_7_1 fe_0_15_1 fe_2_5_1 fe_2_6_1 hE_0_2_1 hE_0_8_1 hE_0_9_1 hE_0_14_1 hE_2_7_1 hE_2_8_1 hE_2_9_1 kz_0_5 kz_0_6 kz_0_7 kz_0_15 kz_2_5 kz_2_6)⟩
  have nf1 : fc_1 PRD (20, [0], [60, 2, 2, 603, 7, 6, 8, 9]) ws (vs) := ⟨nf_in hl rfl, sgq_351 (vc_Em_beginBlock_at_gp_4_1 (w_fi ws (n_v vs 2) 5) (w_fi ws (n_v vs 0) 5) (w_fi ws (n_v vs 0) 15) (w_ei ws (w_ar ws (n_v vs 0) 14)) (w_ei ws (w_ar ws (n_v vs 0) 2)) (w_ei ws (w_ar ws (n_v vs 2) 7)) (w_ei ws (w_ar ws (n_v vs 2) 8)) (w_fi ws (n_v vs 2) 6) (w_ei ws (w_ar ws (n_v vs 2) 9)) (w_ei ws (w_ar ws (n_v vs 0) 8)) (w_ei ws (w_ar ws (n_v vs 0) 9)) (w_fi ws (n_v vs 0) 7) (w_fi ws (n_v vs 0) 6) (w_ei w1 (w_ar ws (n_v vs 0) 14)) (w_fi w1 (n_v vs 0) 15) (w_ei w1 (w_ar ws (n_v vs 0) 2)) (w_ei w1 (w_ar ws (n_v vs 2) 7)) (w_ei w1 (w_ar ws (n_v vs 2) 8)) (w_fi w1 (n_v vs 0) 5) (w_fi w1 (n_v vs 2) 5) (w_fi w1 (n_v vs 2) 6) (w_ei w1 (w_ar ws (n_v vs 2) 9)) (w_ei w1 (w_ar ws (n_v vs 0) 8)) (w_ei w1 (w_ar ws (n_v vs 0) 9)) (w_fi w1 (n_v vs 0) 7) (w_fi w1 (n_v vs 0) 6) f35 fe_0_5_1 fe_0_6_1 fe_0_7_1 fe_0_15_1 fe_2_5_1 fe_2_6_1 hE_0_2_1 hE_0_8_1 hE_0_9_1 hE_0_14_1 hE_2_7_1 hE_2_8_1 hE_2_9_1 kz_0_5 kz_0_6 kz_0_7 kz_0_15 kz_2_5 kz_2_6)⟩
  have nf2 : fc_1 PRD (20, [35, 0], [50, 1, 0, 1007, 3, 6, 0, 2, 1, 0, 0, 0, 0, 2, 0, 1, 2, 1, 7]) ws (vs) := ⟨nf_in hl rfl, sgq_1684 (vc_Em_beginBlock_at_gp_4_2 (v_iv (n_v vs 35)) (w_fi ws (n_v vs 2) 5) (w_fi ws (n_v vs 0) 5) (w_fi ws (n_v vs 0) 15) (w_ei ws (w_ar ws (n_v vs 0) 14)) (w_ei ws (w_ar ws (n_v vs 0) 2)) (w_ei ws (w_ar ws (n_v vs 2) 7)) (w_ei ws (w_ar ws (n_v vs 2) 8)) (w_fi ws (n_v vs 2) 6) (w_ei ws (w_ar ws (n_v vs 2) 9)) (w_ei ws (w_ar ws (n_v vs 0) 8)) (w_ei ws (w_ar ws (n_v vs 0) 9)) (w_fi ws (n_v vs 0) 7) (w_fi ws (n_v vs 0) 6) (w_ei w1 (w_ar ws (n_v vs 0) 14)) (w_fi w1 (n_v vs 0) 15) (w_ei w1 (w_ar ws (n_v vs 0) 2)) (w_ei w1 (w_ar ws (n_v vs 2) 7)) (w_ei w1 (w_ar ws (n_v vs 2) 8)) (w_fi w1 (n_v vs 0) 5) (w_fi w1 (n_v vs 2) 5) (w_fi w1 (n_v vs 2) 6) (w_ei w1 (w_ar ws (n_v vs 2) 9)) (w_ei w1 (w_ar ws (n_v vs 0) 8)) (w_ei w1 (w_ar ws (n_v vs 0) 9)) (w_fi w1 (n_v vs 0) 7) (w_fi w1 (n_v vs 0) 6) k35 f22 fe_0_5_1 fe_0_6_1 fe_0_7_1 fe_0_15_1 fe_2_5_1 fe_2_6_1 hE_0_2_1 hE_0_8_1 hE_0_9_1 hE_0_14_1 hE_2_7_1 hE_2_8_1 hE_2_9_1 kz_0_5 kz_0_6 kz_0_7 kz_0_15 kz_2_5 kz_2_6)⟩
  have nf3 : fc_1 PRD (20, [0, 35], [60, 2, 0, 607, 6, 5]) ws (vs) := ⟨nf_in hl rfl, sgq_1685 (vc_Em_beginBlock_at_gp_4_3 (v_iv (n_v vs 13)) (v_iv (n_v vs 35)) (w_fi ws (n_v vs 2) 5) (w_fi ws (n_v vs 0) 5) (w_fi ws (n_v vs 0) 15) (w_ei ws (w_ar ws (n_v vs 0) 14)) (w_ei ws (w_ar ws (n_v vs 0) 2)) (w_ei ws (w_ar ws (n_v vs 2) 7)) (w_ei ws (w_ar ws (n_v vs 2) 8)) (w_fi ws (n_v vs 2) 6) (w_ei ws (w_ar ws (n_v vs 2) 9)) (w_ei ws (w_ar ws (n_v vs 0) 8)) (w_ei ws (w_ar ws (n_v vs 0) 9)) (w_fi ws (n_v vs 0) 7) (w_fi ws (n_v vs 0) 6) (w_ei w1 (w_ar ws (n_v vs 0) 14)) (w_fi w1 (n_v vs 0) 15) (w_ei w1 (w_ar ws (n_v vs 0) 2)) (w_ei w1 (w_ar ws (n_v vs 2) 7)) (w_ei w1 (w_ar ws (n_v vs 2) 8)) (w_fi w1 (n_v vs 0) 5) (w_fi w1 (n_v vs 2) 5) (w_fi w1 (n_v vs 2) 6) (w_ei w1 (w_ar ws (n_v vs 2) 9)) (w_ei w1 (w_ar ws (n_v vs 0) 8)) (w_ei w1 (w_ar ws (n_v vs 0) 9)) (w_fi w1 (n_v vs 0) 7) (w_fi w1 (n_v vs 0) 6) k13 k35 f27 f37 fe_0_5_1 fe_0_6_1 fe_0_7_1 fe_0_15_1 fe_2_5_1 fe_2_6_1 hE_0_2_1 hE_0_8_1 hE_0_9_1 hE_0_14_1 hE_2_7_1 hE_2_8_1 hE_2_9_1 kz_0_5 kz_0_6 kz_0_7 kz_0_15 kz_2_5 kz_2_6)⟩
  refine ⟨(fun _ h => (by cases h)), [], trivial, ?_, (fun _ h => (by cases h))⟩
  rw [List.append_nil]
  exact List.forall_mem_cons.mpr ⟨⟨show (20 : Nat) < 100 from by decide, nf0⟩, List.forall_mem_cons.mpr ⟨⟨show (20 : Nat) < 100 from by decide, nf1⟩, List.forall_mem_cons.mpr ⟨⟨show (20 : Nat) < 100 from by decide, nf2⟩, List.forall_mem_cons.mpr ⟨⟨show (20 : Nat) < 100 from by decide, nf3⟩, (fun _ h => (by cases h))⟩⟩⟩⟩
set_option maxHeartbeats 4000000 in
theorem vc_Em_beginBlock_at_gp_5_r0 (x1 : Int) (x5 : Int) (x7 : Int) (x14 : Int) (blockNodes_0 : Int) (block_0 : Int → Int) (tail_0o2 : Int → Int) (head_0o2 : Int → Int) (nodes_0o2 : Int) (edges_0o2 : Int) (near_0o2 : Int → Int) (block_1 : Int → Int) (tail_1o2 : Int → Int) (head_1o2 : Int → Int) (blockNodes_1 : Int) (nodes_1o2 : Int) (edges_1o2 : Int) (near_1o2 : Int → Int) (k1 : 0 ≤ x1 ∧ x1 ≤ 71) (k5 : (-1) ≤ x5 ∧ x5 ≤ 71) (k7 : (-1) ≤ x7 ∧ x7 ≤ (-1)) (k14 : (-2) ≤ x14 ∧ x14 ≤ 142) (f1 : x14 = 2 * x5) (f8 : x7 < 0) (f9 : BBI (blockNodes_1) (nodes_1o2) (edges_1o2) (block_1) (tail_1o2) (head_1o2) (x1) (x5) (x7)) (fe_0_5_1 : blockNodes_0 = blockNodes_1) (fe_2_5_1 : nodes_0o2 = nodes_1o2) (fe_2_6_1 : edges_0o2 = edges_1o2) (hE_0_2_1 : ∀ j : Int, block_0 j = block_1 j) (hE_2_7_1 : ∀ j : Int, tail_0o2 j = tail_1o2 j) (hE_2_8_1 : ∀ j : Int, head_0o2 j = head_1o2 j) (hE_2_9_1 : ∀ j : Int, near_0o2 j = near_1o2 j) (kz_0_5 : 0 ≤ blockNodes_0 ∧ blockNodes_0 ≤ 33554431) (kz_2_5 : 0 ≤ nodes_0o2 ∧ nodes_0o2 ≤ 25) (kz_2_6 : 0 ≤ edges_0o2 ∧ edges_0o2 ≤ 72) : 0 ≤ x14 ∧ x14 ≤ 142 := by
  subst fe_0_5_1
  subst fe_2_5_1
  subst fe_2_6_1
  have e_hE_0_2_1 := funext hE_0_2_1; subst e_hE_0_2_1
  have e_hE_2_7_1 := funext hE_2_7_1; subst e_hE_2_7_1
  have e_hE_2_8_1 := funext hE_2_8_1; subst e_hE_2_8_1
  have e_hE_2_9_1 := funext hE_2_9_1; subst e_hE_2_9_1
  first
    | (have q := bbi_has ‹BBI _ _ _ _ _ _ _ _ _› (by omega); omega)
def o_Em_beginBlock_at_gp_5 : or_T := (108, 15, [(0, (2, 0, 0, [1])), (1, (0, 0, 71, [])), (2, (2, 0, 0, [149])), (3, (2, 0, 0, [1])), (4, (0, 0, 71, [])), (5, (0, -1, 71, [])), (7, (0, -1, -1, [])), (8, (0, 0, 33554431, [])), (9, (2, 0, 0, [149])), (13, (0, 2, 2, [])), (14, (0, -2, 142, []))], [(9, [8, 3], [5]), (3, [14, 13, 5], []), (20, [3, 9, 4, 5, 7], [60, 3, 3, 601, 5, 1005, 1006, 2, 1007, 1008]), (20, [9], [60, 2, 3, 595, 5, 6, 7, 8, 9]), (24, [2, 9], []), (24, [0, 3], []), (24, [1, 4], []), (101, [3, 10], [7]), (8, [7], [2]), (20, [3, 9, 4, 5, 7], [60, 3, 3, 601, 5, 1005, 1006, 2, 1007, 1008]), (20, [9], [60, 2, 3, 595, 5, 6, 7, 8, 9])], [(14, (0, 0, 142, []))], [], [], [], [(1, 4, -4294967296, 0), (4, 1, -4294967296, 0), (8, 5, -4294967296, 33554431)])
theorem oo_Em_beginBlock_at_gp_5 {kA : Nat → ClassId} : or_ok PRD kA GG o_Em_beginBlock_at_gp_5 := by
  refine or_mk fun A ta ws vs hD hth hl => ?_
  intro t0 r0 t1 k1 t2 r2 t3 r3 t4 k4 t5 k5 t7 k7 t8 k8 t9 r9 t13 k13 t14 k14 d0 d1 d2 f0 f1 f2 f3 f4 f5 f6 ta1 w1 le1 s1 f8 f9 f10
  replace f1 := shm_38 f1
  rw [show v_iv (n_v vs 13) = 2 from by omega] at f1
  replace f4 := shm_5 f4
  replace f5 := shm_5 f5
  replace f6 := shm_5 f6
  have s1 : (∀ b j, w_el ws b j = w_el w1 b j) ∧ ∀ b j, w_fd ws b j = if b = v_ad (n_v vs 3) ∧ j = 7 then n_v vs 10 else w_fd w1 b j := s1.2
  replace f9 := shm_1681 f9
  have q9 : n_v vs 9 = n_v vs 2 := f4.symm
  have q3 : n_v vs 3 = n_v vs 0 := f5.symm
  have q4 : n_v vs 4 = n_v vs 1 := f6.symm
  rw [q3] at s1
  simp only [q9, q3, q4] at f9
  have ar_0_2_1 : w_ar w1 (n_v vs 0) 2 = w_ar ws (n_v vs 0) 2 := by show v_ad (w_fd w1 _ _) = v_ad (w_fd ws _ _); rw [s1.2, if_neg (fun e => absurd e.2 (by decide))]
  have ar_2_7_1 : w_ar w1 (n_v vs 2) 7 = w_ar ws (n_v vs 2) 7 := by show v_ad (w_fd w1 _ _) = v_ad (w_fd ws _ _); rw [s1.2, if_neg (fun e => by have e1 := e.1; have e2 := r2; rw [e1, r0] at e2; exact absurd (Option.some.inj e2) (by decide))]
  have ar_2_8_1 : w_ar w1 (n_v vs 2) 8 = w_ar ws (n_v vs 2) 8 := by show v_ad (w_fd w1 _ _) = v_ad (w_fd ws _ _); rw [s1.2, if_neg (fun e => absurd e.2 (by decide))]
  have ar_2_9_1 : w_ar w1 (n_v vs 2) 9 = w_ar ws (n_v vs 2) 9 := by show v_ad (w_fd w1 _ _) = v_ad (w_fd ws _ _); rw [s1.2, if_neg (fun e => absurd e.2 (by decide))]
  simp only [ar_0_2_1, ar_2_7_1, ar_2_8_1, ar_2_9_1] at f9
  have fe_0_5_1 : w_fi ws (n_v vs 0) 5 = w_fi w1 (n_v vs 0) 5 := by show v_iv (w_fd _ _ _) = v_iv (w_fd _ _ _); rw [s1.2, if_neg (fun e => absurd e.2 (by decide))]
  have fe_2_5_1 : w_fi ws (n_v vs 2) 5 = w_fi w1 (n_v vs 2) 5 := by show v_iv (w_fd _ _ _) = v_iv (w_fd _ _ _); rw [s1.2, if_neg (fun e => absurd e.2 (by decide))]
  have fe_2_6_1 : w_fi ws (n_v vs 2) 6 = w_fi w1 (n_v vs 2) 6 := by show v_iv (w_fd _ _ _) = v_iv (w_fd _ _ _); rw [s1.2, if_neg (fun e => absurd e.2 (by decide))]
  have hE_0_2_1 : ∀ j : Int, w_ei ws (w_ar ws (n_v vs 0) 2) j = w_ei w1 (w_ar ws (n_v vs 0) 2) j := fun j => s1.1 _ _
  have hE_2_7_1 : ∀ j : Int, w_ei ws (w_ar ws (n_v vs 2) 7) j = w_ei w1 (w_ar ws (n_v vs 2) 7) j := fun j => s1.1 _ _
  have hE_2_8_1 : ∀ j : Int, w_ei ws (w_ar ws (n_v vs 2) 8) j = w_ei w1 (w_ar ws (n_v vs 2) 8) j := fun j => s1.1 _ _
  have hE_2_9_1 : ∀ j : Int, w_ei ws (w_ar ws (n_v vs 2) 9) j = w_ei w1 (w_ar ws (n_v vs 2) 9) j := fun j => s1.1 _ _
  have kz_0_5 := fdq_283 hD hth r0
  have kz_2_5 := fdq_85 hD hth r2
  have kz_2_6 := fdq_62 hD hth r2
  have hrf0 : 0 ≤ v_iv (n_v vs 14) ∧ v_iv (n_v vs 14) ≤ 142 := vc_Em_beginBlock_at_gp_5_r0 (v_iv (n_v vs 1)) (v_iv (n_v vs 5)) (v_iv (n_v vs 7)) (v_iv (n_v vs 14)) (w_fi ws (n_v vs 0) 5) (w_ei ws (w_ar ws (n_v vs 0) 2)) (w_ei ws (w_ar ws (n_v vs 2) 7)) (w_ei ws (w_ar ws (n_v vs 2) 8)) (w_fi ws (n_v vs 2) 5) (w_fi ws (n_v vs 2) 6) (w_ei ws (w_ar ws (n_v vs 2) 9)) (w_ei w1 (w_ar ws (n_v vs 0) 2)) (w_ei w1 (w_ar ws (n_v vs 2) 7)) (w_ei w1 (w_ar ws (n_v vs 2) 8)) (w_fi w1 (n_v vs 0) 5) (w_fi w1 (n_v vs 2) 5) (w_fi w1 (n_v vs 2) 6) (w_ei w1 (w_ar ws (n_v vs 2) 9)) k1 k5 k7 k14 f1 (shm_39 f8) f9 fe_0_5_1 fe_2_5_1 fe_2_6_1 hE_0_2_1 hE_2_7_1 hE_2_8_1 hE_2_9_1 kz_0_5 kz_2_5 kz_2_6
  have rf14 : tv_ok ta (0, 0, 142, []) (n_v vs 14) := tv_in t14 (by first | omega | grind) (by first | omega | grind)
  refine ⟨List.forall_mem_cons.mpr ⟨rf14, (fun _ h => (by cases h))⟩, [], trivial, ?_, (fun _ h => (by cases h))⟩
  rw [List.append_nil]
  exact (fun _ h => (by cases h))
set_option maxHeartbeats 4000000 in
theorem vc_Em_beginBlock_at_gp_6_r0 (x1 : Int) (x5 : Int) (x7 : Int) (x16 : Int) (x18 : Int) (blockNodes_0 : Int) (block_0 : Int → Int) (tail_0o2 : Int → Int) (head_0o2 : Int → Int) (nodes_0o2 : Int) (edges_0o2 : Int) (near_0o2 : Int → Int) (block_1 : Int → Int) (tail_1o2 : Int → Int) (head_1o2 : Int → Int) (blockNodes_1 : Int) (nodes_1o2 : Int) (edges_1o2 : Int) (near_1o2 : Int → Int) (block_2 : Int → Int) (tail_2o2 : Int → Int) (head_2o2 : Int → Int) (blockNodes_2 : Int) (nodes_2o2 : Int) (edges_2o2 : Int) (near_2o2 : Int → Int) (after_1 : Int → Int) (after_2 : Int → Int) (k1 : 0 ≤ x1 ∧ x1 ≤ 71) (k5 : (-1) ≤ x5 ∧ x5 ≤ 71) (k7 : (-1) ≤ x7 ∧ x7 ≤ (-1)) (k16 : (-2) ≤ x16 ∧ x16 ≤ 142) (k18 : (-1) ≤ x18 ∧ x18 ≤ 143) (d0 : x16 + 1 ≤ x18 ∧ x18 ≤ x16 + 1) (f2 : x16 = 2 * x5) (f13 : x7 < 0) (f14 : BBI (blockNodes_2) (nodes_2o2) (edges_2o2) (block_2) (tail_2o2) (head_2o2) (x1) (x5) (x7)) (fe_0_5_1 : blockNodes_0 = blockNodes_1) (fe_2_5_1 : nodes_0o2 = nodes_1o2) (fe_2_6_1 : edges_0o2 = edges_1o2) (fe_0_5_2 : blockNodes_1 = blockNodes_2) (fe_2_5_2 : nodes_1o2 = nodes_2o2) (fe_2_6_2 : edges_1o2 = edges_2o2) (hE_0_2_1 : ∀ j : Int, block_0 j = block_1 j) (hE_0_2_2 : ∀ j : Int, block_1 j = block_2 j) (hE_0_12_2 : ∀ j : Int, after_1 j = after_2 j) (hE_2_7_1 : ∀ j : Int, tail_0o2 j = tail_1o2 j) (hE_2_7_2 : ∀ j : Int, tail_1o2 j = tail_2o2 j) (hE_2_8_1 : ∀ j : Int, head_0o2 j = head_1o2 j) (hE_2_8_2 : ∀ j : Int, head_1o2 j = head_2o2 j) (hE_2_9_1 : ∀ j : Int, near_0o2 j = near_1o2 j) (hE_2_9_2 : ∀ j : Int, near_1o2 j = near_2o2 j) (kz_0_5 : 0 ≤ blockNodes_0 ∧ blockNodes_0 ≤ 33554431) (kz_2_5 : 0 ≤ nodes_0o2 ∧ nodes_0o2 ≤ 25) (kz_2_6 : 0 ≤ edges_0o2 ∧ edges_0o2 ≤ 72) : 0 ≤ x18 ∧ x18 ≤ 143 := by
  subst fe_0_5_1
  subst fe_2_5_1
  subst fe_2_6_1
  subst fe_0_5_2
  subst fe_2_5_2
  subst fe_2_6_2
  have e_hE_0_2_1 := funext hE_0_2_1; subst e_hE_0_2_1
  have e_hE_0_2_2 := funext hE_0_2_2; subst e_hE_0_2_2
  have e_hE_0_12_2 := funext hE_0_12_2; subst e_hE_0_12_2
  have e_hE_2_7_1 := funext hE_2_7_1; subst e_hE_2_7_1
  have e_hE_2_7_2 := funext hE_2_7_2; subst e_hE_2_7_2
  have e_hE_2_8_1 := funext hE_2_8_1; subst e_hE_2_8_1
  have e_hE_2_8_2 := funext hE_2_8_2; subst e_hE_2_8_2
  have e_hE_2_9_1 := funext hE_2_9_1; subst e_hE_2_9_1
  have e_hE_2_9_2 := funext hE_2_9_2; subst e_hE_2_9_2
  first
    | (have q := bbi_has ‹BBI _ _ _ _ _ _ _ _ _› (by omega); omega)
def o_Em_beginBlock_at_gp_6 : or_T := (119, 19, [(0, (2, 0, 0, [1])), (1, (0, 0, 71, [])), (2, (2, 0, 0, [149])), (3, (2, 0, 0, [1])), (4, (0, 0, 71, [])), (5, (0, -1, 71, [])), (7, (0, -1, -1, [])), (8, (0, 0, 33554431, [])), (9, (2, 0, 0, [149])), (12, (2, 0, 0, [33])), (14, (0, 0, 142, [])), (15, (0, 2, 2, [])), (16, (0, -2, 142, [])), (17, (0, 1, 1, [])), (18, (0, -1, 143, []))], [(9, [8, 3], [5]), (1, [18, 16, 17], []), (3, [16, 15, 5], []), (9, [12, 3], [12]), (20, [3, 9, 4, 5, 7], [60, 3, 3, 601, 5, 1005, 1006, 2, 1007, 1008]), (20, [9], [60, 2, 3, 595, 5, 6, 7, 8, 9]), (24, [2, 9], []), (24, [0, 3], []), (24, [1, 4], []), (100, [12, 14, 5], []), (20, [3, 9, 4, 5, 7], [60, 3, 3, 601, 5, 1005, 1006, 2, 1007, 1008]), (20, [9], [60, 2, 3, 595, 5, 6, 7, 8, 9]), (101, [3, 10], [7]), (8, [7], [2]), (20, [3, 9, 4, 5, 7], [60, 3, 3, 601, 5, 1005, 1006, 2, 1007, 1008]), (20, [9], [60, 2, 3, 595, 5, 6, 7, 8, 9])], [(18, (0, 0, 143, []))], [], [], [], [(18, 16, 1, 1), (1, 4, -4294967296, 0), (4, 1, -4294967296, 0), (8, 5, -4294967296, 33554431)])
theorem oo_Em_beginBlock_at_gp_6 {kA : Nat → ClassId} : or_ok PRD kA GG o_Em_beginBlock_at_gp_6 := by
  refine or_mk fun A ta ws vs hD hth hl => ?_
  intro t0 r0 t1 k1 t2 r2 t3 r3 t4 k4 t5 k5 t7 k7 t8 k8 t9 r9 t12 r12 t14 k14 t15 k15 t16 k16 t17 k17 t18 k18 d0 d1 d2 d3 f0 f1 f2 f3 f4 f5 f6 f7 f8 ta1 w1 le1 s1 f10 f11 ta2 w2 le2 s2 f13 f14 f15
  replace f2 := shm_38 f2
  rw [show v_iv (n_v vs 15) = 2 from by omega] at f2
  replace f6 := shm_5 f6
  replace f7 := shm_5 f7
  replace f8 := shm_5 f8
  have s1 : (∀ b j, w_el ws b j = if b = v_ad (n_v vs 12) ∧ j = (v_iv (n_v vs 14)).toNat then v_iv (n_v vs 5) else w_el w1 b j) ∧ ∀ b k, w_fd ws b k = w_fd w1 b k := s1.2
  have s2 : (∀ b j, w_el w1 b j = w_el w2 b j) ∧ ∀ b j, w_fd w1 b j = if b = v_ad (n_v vs 3) ∧ j = 7 then n_v vs 10 else w_fd w2 b j := s2.2
  replace f14 := shm_1681 f14
  have q9 : n_v vs 9 = n_v vs 2 := f6.symm
  have q3 : n_v vs 3 = n_v vs 0 := f7.symm
  have q4 : n_v vs 4 = n_v vs 1 := f8.symm
  rw [q3] at s2
  simp only [q9, q3, q4] at f14
  have ar_0_2_1 : w_ar w1 (n_v vs 0) 2 = w_ar ws (n_v vs 0) 2 := congrArg v_ad (s1.2 _ _).symm
  have ar_0_2_2 : w_ar w2 (n_v vs 0) 2 = w_ar ws (n_v vs 0) 2 := by rw [← ar_0_2_1]; show v_ad (w_fd w2 _ _) = v_ad (w_fd w1 _ _); rw [s2.2, if_neg (fun e => absurd e.2 (by decide))]
  have cr_0_2 := fdq_56 hD hth r0
  have ar_2_7_1 : w_ar w1 (n_v vs 2) 7 = w_ar ws (n_v vs 2) 7 := congrArg v_ad (s1.2 _ _).symm
  have ar_2_7_2 : w_ar w2 (n_v vs 2) 7 = w_ar ws (n_v vs 2) 7 := by rw [← ar_2_7_1]; show v_ad (w_fd w2 _ _) = v_ad (w_fd w1 _ _); rw [s2.2, if_neg (fun e => by have e1 := e.1; have e2 := r2; rw [e1, r0] at e2; exact absurd (Option.some.inj e2) (by decide))]
  have cr_2_7 := fdq_60 hD hth r2
  have ar_2_8_1 : w_ar w1 (n_v vs 2) 8 = w_ar ws (n_v vs 2) 8 := congrArg v_ad (s1.2 _ _).symm
  have ar_2_8_2 : w_ar w2 (n_v vs 2) 8 = w_ar ws (n_v vs 2) 8 := by rw [← ar_2_8_1]; show v_ad (w_fd w2 _ _) = v_ad (w_fd w1 _ _); rw [s2.2, if_neg (fun e => absurd e.2 (by decide))]
  have cr_2_8 := fdq_61 hD hth r2
  have ar_2_9_1 : w_ar w1 (n_v vs 2) 9 = w_ar ws (n_v vs 2) 9 := congrArg v_ad (s1.2 _ _).symm
  have ar_2_9_2 : w_ar w2 (n_v vs 2) 9 = w_ar ws (n_v vs 2) 9 := by rw [← ar_2_9_1]; show v_ad (w_fd w2 _ _) = v_ad (w_fd w1 _ _); rw [s2.2, if_neg (fun e => absurd e.2 (by decide))]
  have cr_2_9 := fdq_83 hD hth r2
  simp only [ar_0_2_1, ar_2_7_1, ar_2_8_1, ar_2_9_1, ar_0_2_2, ar_2_7_2, ar_2_8_2, ar_2_9_2] at f14
  have fe_0_5_1 : w_fi ws (n_v vs 0) 5 = w_fi w1 (n_v vs 0) 5 := congrArg v_iv (s1.2 _ _)
  have fe_2_5_1 : w_fi ws (n_v vs 2) 5 = w_fi w1 (n_v vs 2) 5 := congrArg v_iv (s1.2 _ _)
  have fe_2_6_1 : w_fi ws (n_v vs 2) 6 = w_fi w1 (n_v vs 2) 6 := congrArg v_iv (s1.2 _ _)
  have fe_0_5_2 : w_fi w1 (n_v vs 0) 5 = w_fi w2 (n_v vs 0) 5 := by show v_iv (w_fd _ _ _) = v_iv (w_fd _ _ _); rw [s2.2, if_neg (fun e => absurd e.2 (by decide))]
  have fe_2_5_2 : w_fi w1 (n_v vs 2) 5 = w_fi w2 (n_v vs 2) 5 := by show v_iv (w_fd _ _ _) = v_iv (w_fd _ _ _); rw [s2.2, if_neg (fun e => absurd e.2 (by decide))]
  have fe_2_6_2 : w_fi w1 (n_v vs 2) 6 = w_fi w2 (n_v vs 2) 6 := by show v_iv (w_fd _ _ _) = v_iv (w_fd _ _ _); rw [s2.2, if_neg (fun e => absurd e.2 (by decide))]
  have hE_0_2_1 : ∀ j : Int, w_ei ws (w_ar ws (n_v vs 0) 2) j = w_ei w1 (w_ar ws (n_v vs 0) 2) j := el_kp s1.1 r12 cr_0_2 (by decide)
  have hE_0_2_2 : ∀ j : Int, w_ei w1 (w_ar ws (n_v vs 0) 2) j = w_ei w2 (w_ar ws (n_v vs 0) 2) j := fun j => s2.1 _ _
  have hE_0_12_2 : ∀ j : Int, w_ei w1 (w_ar ws (n_v vs 0) 12) j = w_ei w2 (w_ar ws (n_v vs 0) 12) j := fun j => s2.1 _ _
  have hE_2_7_1 : ∀ j : Int, w_ei ws (w_ar ws (n_v vs 2) 7) j = w_ei w1 (w_ar ws (n_v vs 2) 7) j := el_kp s1.1 r12 cr_2_7 (by decide)
  have hE_2_7_2 : ∀ j : Int, w_ei w1 (w_ar ws (n_v vs 2) 7) j = w_ei w2 (w_ar ws (n_v vs 2) 7) j := fun j => s2.1 _ _
  have hE_2_8_1 : ∀ j : Int, w_ei ws (w_ar ws (n_v vs 2) 8) j = w_ei w1 (w_ar ws (n_v vs 2) 8) j := el_kp s1.1 r12 cr_2_8 (by decide)
  have hE_2_8_2 : ∀ j : Int, w_ei w1 (w_ar ws (n_v vs 2) 8) j = w_ei w2 (w_ar ws (n_v vs 2) 8) j := fun j => s2.1 _ _
  have hE_2_9_1 : ∀ j : Int, w_ei ws (w_ar ws (n_v vs 2) 9) j = w_ei w1 (w_ar ws (n_v vs 2) 9) j := el_kp s1.1 r12 cr_2_9 (by decide)
  have hE_2_9_2 : ∀ j : Int, w_ei w1 (w_ar ws (n_v vs 2) 9) j = w_ei w2 (w_ar ws (n_v vs 2) 9) j := fun j => s2.1 _ _
  have kz_0_5 := fdq_283 hD hth r0
  have kz_2_5 := fdq_85 hD hth r2
  have kz_2_6 := fdq_62 hD hth r2
  have hrf0 : 0 ≤ v_iv (n_v vs 18) ∧ v_iv (n_v vs 18) ≤ 143 := vc_Em_beginBlock_at_gp_6_r0 (v_iv (n_v vs 1)) (v_iv (n_v vs 5)) (v_iv (n_v vs 7)) (v_iv (n_v vs 16)) (v_iv (n_v vs 18)) (w_fi ws (n_v vs 0) 5) (w_ei ws (w_ar ws (n_v vs 0) 2)) (w_ei ws (w_ar ws (n_v vs 2) 7)) (w_ei ws (w_ar ws (n_v vs 2) 8)) (w_fi ws (n_v vs 2) 5) (w_fi ws (n_v vs 2) 6) (w_ei ws (w_ar ws (n_v vs 2) 9)) (w_ei w1 (w_ar ws (n_v vs 0) 2)) (w_ei w1 (w_ar ws (n_v vs 2) 7)) (w_ei w1 (w_ar ws (n_v vs 2) 8)) (w_fi w1 (n_v vs 0) 5) (w_fi w1 (n_v vs 2) 5) (w_fi w1 (n_v vs 2) 6) (w_ei w1 (w_ar ws (n_v vs 2) 9)) (w_ei w2 (w_ar ws (n_v vs 0) 2)) (w_ei w2 (w_ar ws (n_v vs 2) 7)) (w_ei w2 (w_ar ws (n_v vs 2) 8)) (w_fi w2 (n_v vs 0) 5) (w_fi w2 (n_v vs 2) 5) (w_fi w2 (n_v vs 2) 6) (w_ei w2 (w_ar ws (n_v vs 2) 9)) (w_ei w1 (w_ar ws (n_v vs 0) 12)) (w_ei w2 (w_ar ws (n_v vs 0) 12)) k1 k5 k7 k16 k18 d0 f2 (shm_39 f13) f14 fe_0_5_1 fe_2_5_1 fe_2_6_1 fe_0_5_2 fe_2_5_2 fe_2_6_2 hE_0_2_1 hE_0_2_2 hE_0_12_2 hE_2_7_1 hE_2_7_2 hE_2_8_1 hE_2_8_2 hE_2_9_1 hE_2_9_2 kz_0_5 kz_2_5 kz_2_6
  have rf18 : tv_ok ta (0, 0, 143, []) (n_v vs 18) := tv_in t18 (by first | omega | grind) (by first | omega | grind)
  refine ⟨List.forall_mem_cons.mpr ⟨rf18, (fun _ h => (by cases h))⟩, [], trivial, ?_, (fun _ h => (by cases h))⟩
  rw [List.append_nil]
  exact (fun _ h => (by cases h))
set_option maxHeartbeats 4000000 in
theorem vc_Em_beginBlock_at_gp_7_0 (x1 : Int) (x5 : Int) (x7 : Int) (cycles_0 : Int) (blockNodes_0 : Int) (block_0 : Int → Int) (tail_0o2 : Int → Int) (head_0o2 : Int → Int) (nodes_0o2 : Int) (edges_0o2 : Int) (near_0o2 : Int → Int) (block_1 : Int → Int) (tail_1o2 : Int → Int) (head_1o2 : Int → Int) (blockNodes_1 : Int) (nodes_1o2 : Int) (edges_1o2 : Int) (near_1o2 : Int → Int) (block_2 : Int → Int) (tail_2o2 : Int → Int) (head_2o2 : Int → Int) (blockNodes_2 : Int) (nodes_2o2 : Int) (edges_2o2 : Int) (near_2o2 : Int → Int) (block_3 : Int → Int) (tail_3o2 : Int → Int) (head_3o2 : Int → Int) (blockNodes_3 : Int) (nodes_3o2 : Int) (edges_3o2 : Int) (near_3o2 : Int → Int) (drawnNodes_0 : Int) (drawnNodes_1 : Int) (cycles_1 : Int) (drawnNodes_2 : Int) (cycles_2 : Int) (cycle_0 : Int → Int) (cycle_1 : Int → Int) (cycle_2 : Int → Int) (cycle_3 : Int → Int) (cycleLength_0 : Int → Int) (cycleLength_1 : Int → Int) (cycleLength_2 : Int → Int) (cycleLength_3 : Int → Int) (after_2 : Int → Int) (after_3 : Int → Int) (k1 : 0 ≤ x1 ∧ x1 ≤ 71) (k5 : (-1) ≤ x5 ∧ x5 ≤ 71) (k7 : (-1) ≤ x7 ∧ x7 ≤ (-1)) (f15 : x7 < 0) (f16 : BBI (blockNodes_3) (nodes_3o2) (edges_3o2) (block_3) (tail_3o2) (head_3o2) (x1) (x5) (x7)) (fe_0_5_1 : blockNodes_0 = blockNodes_1) (fe_0_6_1 : drawnNodes_0 = drawnNodes_1) (fe_0_7_1 : cycles_0 = cycles_1) (fe_2_5_1 : nodes_0o2 = nodes_1o2) (fe_2_6_1 : edges_0o2 = edges_1o2) (fe_0_5_2 : blockNodes_1 = blockNodes_2) (fe_0_6_2 : drawnNodes_1 = drawnNodes_2) (fe_0_7_2 : cycles_1 = cycles_2) (fe_2_5_2 : nodes_1o2 = nodes_2o2) (fe_2_6_2 : edges_1o2 = edges_2o2) (fe_0_5_3 : blockNodes_2 = blockNodes_3) (fe_2_5_3 : nodes_2o2 = nodes_3o2) (fe_2_6_3 : edges_2o2 = edges_3o2) (hE_0_2_1 : ∀ j : Int, block_0 j = block_1 j) (hE_0_2_2 : ∀ j : Int, block_1 j = block_2 j) (hE_0_2_3 : ∀ j : Int, block_2 j = block_3 j) (hE_0_8_1 : ∀ j : Int, cycle_0 j = cycle_1 j) (hE_0_8_2 : ∀ j : Int, cycle_1 j = cycle_2 j) (hE_0_8_3 : ∀ j : Int, cycle_2 j = cycle_3 j) (hE_0_9_1 : ∀ j : Int, cycleLength_0 j = cycleLength_1 j) (hE_0_9_2 : ∀ j : Int, cycleLength_1 j = cycleLength_2 j) (hE_0_9_3 : ∀ j : Int, cycleLength_2 j = cycleLength_3 j) (hE_0_12_3 : ∀ j : Int, after_2 j = after_3 j) (hE_2_7_1 : ∀ j : Int, tail_0o2 j = tail_1o2 j) (hE_2_7_2 : ∀ j : Int, tail_1o2 j = tail_2o2 j) (hE_2_7_3 : ∀ j : Int, tail_2o2 j = tail_3o2 j) (hE_2_8_1 : ∀ j : Int, head_0o2 j = head_1o2 j) (hE_2_8_2 : ∀ j : Int, head_1o2 j = head_2o2 j) (hE_2_8_3 : ∀ j : Int, head_2o2 j = head_3o2 j) (hE_2_9_1 : ∀ j : Int, near_0o2 j = near_1o2 j) (hE_2_9_2 : ∀ j : Int, near_1o2 j = near_2o2 j) (hE_2_9_3 : ∀ j : Int, near_2o2 j = near_3o2 j) (kz_0_5 : 0 ≤ blockNodes_0 ∧ blockNodes_0 ≤ 33554431) (kz_0_6 : 0 ≤ drawnNodes_0 ∧ drawnNodes_0 ≤ 33554431) (kz_0_7 : 0 ≤ cycles_0 ∧ cycles_0 ≤ 50) (kz_2_5 : 0 ≤ nodes_0o2 ∧ nodes_0o2 ≤ 25) (kz_2_6 : 0 ≤ edges_0o2 ∧ edges_0o2 ≤ 72) : BLN (blockNodes_0) (nodes_0o2) (edges_0o2) (block_0) (tail_0o2) (head_0o2) (x1) := by
  subst fe_0_5_1
  subst fe_0_6_1
  subst fe_0_7_1
  subst fe_2_5_1
  subst fe_2_6_1
  subst fe_0_5_2
  subst fe_0_6_2
  subst fe_0_7_2
  subst fe_2_5_2
  subst fe_2_6_2
  subst fe_0_5_3
  subst fe_2_5_3
  subst fe_2_6_3
  have e_hE_0_2_1 := funext hE_0_2_1; subst e_hE_0_2_1
  have e_hE_0_2_2 := funext hE_0_2_2; subst e_hE_0_2_2
  have e_hE_0_2_3 := funext hE_0_2_3; subst e_hE_0_2_3
  have e_hE_0_8_1 := funext hE_0_8_1; subst e_hE_0_8_1
  have e_hE_0_8_2 := funext hE_0_8_2; subst e_hE_0_8_2
  have e_hE_0_8_3 := funext hE_0_8_3; subst e_hE_0_8_3
  have e_hE_0_9_1 := funext hE_0_9_1; subst e_hE_0_9_1
  have e_hE_0_9_2 := funext hE_0_9_2; subst e_hE_0_9_2
  have e_hE_0_9_3 := funext hE_0_9_3; subst e_hE_0_9_3
  have e_hE_0_12_3 := funext hE_0_12_3; subst e_hE_0_12_3
  have e_hE_2_7_1 := funext hE_2_7_1; subst e_hE_2_7_1
  have e_hE_2_7_2 := funext hE_2_7_2; subst e_hE_2_7_2
  have e_hE_2_7_3 := funext hE_2_7_3; subst e_hE_2_7_3
  have e_hE_2_8_1 := funext hE_2_8_1; subst e_hE_2_8_1
  have e_hE_2_8_2 := funext hE_2_8_2; subst e_hE_2_8_2
  have e_hE_2_8_3 := funext hE_2_8_3; subst e_hE_2_8_3
  have e_hE_2_9_1 := funext hE_2_9_1; subst e_hE_2_9_1
  have e_hE_2_9_2 := funext hE_2_9_2; subst e_hE_2_9_2
  have e_hE_2_9_3 := funext hE_2_9_3; subst e_hE_2_9_3
  first
    | exact bln_of ‹BBI _ _ _ _ _ _ _ _ _› (by omega)
set_option maxHeartbeats 4000000 in
theorem vc_Em_beginBlock_at_gp_7_1 (x10 : Int) (cycles_0 : Int) (blockNodes_0 : Int) (block_0 : Int → Int) (tail_0o2 : Int → Int) (head_0o2 : Int → Int) (nodes_0o2 : Int) (edges_0o2 : Int) (near_0o2 : Int → Int) (block_1 : Int → Int) (tail_1o2 : Int → Int) (head_1o2 : Int → Int) (blockNodes_1 : Int) (nodes_1o2 : Int) (edges_1o2 : Int) (near_1o2 : Int → Int) (block_2 : Int → Int) (tail_2o2 : Int → Int) (head_2o2 : Int → Int) (blockNodes_2 : Int) (nodes_2o2 : Int) (edges_2o2 : Int) (near_2o2 : Int → Int) (block_3 : Int → Int) (tail_3o2 : Int → Int) (head_3o2 : Int → Int) (blockNodes_3 : Int) (nodes_3o2 : Int) (edges_3o2 : Int) (near_3o2 : Int → Int) (drawnNodes_0 : Int) (drawnNodes_1 : Int) (cycles_1 : Int) (drawnNodes_2 : Int) (cycles_2 : Int) (cycle_0 : Int → Int) (cycle_1 : Int → Int) (cycle_2 : Int → Int) (cycle_3 : Int → Int) (cycleLength_0 : Int → Int) (cycleLength_1 : Int → Int) (cycleLength_2 : Int → Int) (cycleLength_3 : Int → Int) (after_2 : Int → Int) (after_3 : Int → Int) (k10 : 0 ≤ x10 ∧ x10 ≤ 0) (g1 : x10 = cycles_0) (fe_0_5_1 : blockNodes_0 = blockNodes_1) (fe_0_6_1 : drawnNodes_0 = drawnNodes_1) (fe_0_7_1 : cycles_0 = cycles_1) (fe_2_5_1 : nodes_0o2 = nodes_1o2) (fe_2_6_1 : edges_0o2 = edges_1o2) (fe_0_5_2 : blockNodes_1 = blockNodes_2) (fe_0_6_2 : drawnNodes_1 = drawnNodes_2) (fe_0_7_2 : cycles_1 = cycles_2) (fe_2_5_2 : nodes_1o2 = nodes_2o2) (fe_2_6_2 : edges_1o2 = edges_2o2) (fe_0_5_3 : blockNodes_2 = blockNodes_3) (fe_2_5_3 : nodes_2o2 = nodes_3o2) (fe_2_6_3 : edges_2o2 = edges_3o2) (hE_0_2_1 : ∀ j : Int, block_0 j = block_1 j) (hE_0_2_2 : ∀ j : Int, block_1 j = block_2 j) (hE_0_2_3 : ∀ j : Int, block_2 j = block_3 j) (hE_0_8_1 : ∀ j : Int, cycle_0 j = cycle_1 j) (hE_0_8_2 : ∀ j : Int, cycle_1 j = cycle_2 j) (hE_0_8_3 : ∀ j : Int, cycle_2 j = cycle_3 j) (hE_0_9_1 : ∀ j : Int, cycleLength_0 j = cycleLength_1 j) (hE_0_9_2 : ∀ j : Int, cycleLength_1 j = cycleLength_2 j) (hE_0_9_3 : ∀ j : Int, cycleLength_2 j = cycleLength_3 j) (hE_0_12_3 : ∀ j : Int, after_2 j = after_3 j) (hE_2_7_1 : ∀ j : Int, tail_0o2 j = tail_1o2 j) (hE_2_7_2 : ∀ j : Int, tail_1o2 j = tail_2o2 j) (hE_2_7_3 : ∀ j : Int, tail_2o2 j = tail_3o2 j) (hE_2_8_1 : ∀ j : Int, head_0o2 j = head_1o2 j) (hE_2_8_2 : ∀ j : Int, head_1o2 j = head_2o2 j) (hE_2_8_3 : ∀ j : Int, head_2o2 j = head_3o2 j) (hE_2_9_1 : ∀ j : Int, near_0o2 j = near_1o2 j) (hE_2_9_2 : ∀ j : Int, near_1o2 j = near_2o2 j) (hE_2_9_3 : ∀ j : Int, near_2o2 j = near_3o2 j) (kz_0_5 : 0 ≤ blockNodes_0 ∧ blockNodes_0 ≤ 33554431) (kz_0_6 : 0 ≤ drawnNodes_0 ∧ drawnNodes_0 ≤ 33554431) (kz_0_7 : 0 ≤ cycles_0 ∧ cycles_0 ≤ 50) (kz_2_5 : 0 ≤ nodes_0o2 ∧ nodes_0o2 ≤ 25) (kz_2_6 : 0 ≤ edges_0o2 ∧ edges_0o2 ≤ 72) : CYR (cycles_0) (drawnNodes_0) (cycle_0) (cycleLength_0) := by
  subst fe_0_5_1
  subst fe_0_6_1
  subst fe_0_7_1
  subst fe_2_5_1
  subst fe_2_6_1
  subst fe_0_5_2
  subst fe_0_6_2
  subst fe_0_7_2
  subst fe_2_5_2
  subst fe_2_6_2
  subst fe_0_5_3
  subst fe_2_5_3
  subst fe_2_6_3
  have e_hE_0_2_1 := funext hE_0_2_1; subst e_hE_0_2_1
  have e_hE_0_2_2 := funext hE_0_2_2; subst e_hE_0_2_2
  have e_hE_0_2_3 := funext hE_0_2_3; subst e_hE_0_2_3
  have e_hE_0_8_1 := funext hE_0_8_1; subst e_hE_0_8_1
  have e_hE_0_8_2 := funext hE_0_8_2; subst e_hE_0_8_2
  have e_hE_0_8_3 := funext hE_0_8_3; subst e_hE_0_8_3
  have e_hE_0_9_1 := funext hE_0_9_1; subst e_hE_0_9_1
  have e_hE_0_9_2 := funext hE_0_9_2; subst e_hE_0_9_2
  have e_hE_0_9_3 := funext hE_0_9_3; subst e_hE_0_9_3
  have e_hE_0_12_3 := funext hE_0_12_3; subst e_hE_0_12_3
  have e_hE_2_7_1 := funext hE_2_7_1; subst e_hE_2_7_1
  have e_hE_2_7_2 := funext hE_2_7_2; subst e_hE_2_7_2
  have e_hE_2_7_3 := funext hE_2_7_3; subst e_hE_2_7_3
  have e_hE_2_8_1 := funext hE_2_8_1; subst e_hE_2_8_1
  have e_hE_2_8_2 := funext hE_2_8_2; subst e_hE_2_8_2
  have e_hE_2_8_3 := funext hE_2_8_3; subst e_hE_2_8_3
  have e_hE_2_9_1 := funext hE_2_9_1; subst e_hE_2_9_1
  have e_hE_2_9_2 := funext hE_2_9_2; subst e_hE_2_9_2
  have e_hE_2_9_3 := funext hE_2_9_3; subst e_hE_2_9_3
  first
    | assumption
    | (intro c c0 c1; omega)
set_option maxHeartbeats 4000000 in
theorem vc_Em_beginBlock_at_gp_7_2 (x19 : Int) (cycles_0 : Int) (blockNodes_0 : Int) (block_0 : Int → Int) (tail_0o2 : Int → Int) (head_0o2 : Int → Int) (nodes_0o2 : Int) (edges_0o2 : Int) (near_0o2 : Int → Int) (block_1 : Int → Int) (tail_1o2 : Int → Int) (head_1o2 : Int → Int) (blockNodes_1 : Int) (nodes_1o2 : Int) (edges_1o2 : Int) (near_1o2 : Int → Int) (block_2 : Int → Int) (tail_2o2 : Int → Int) (head_2o2 : Int → Int) (blockNodes_2 : Int) (nodes_2o2 : Int) (edges_2o2 : Int) (near_2o2 : Int → Int) (block_3 : Int → Int) (tail_3o2 : Int → Int) (head_3o2 : Int → Int) (blockNodes_3 : Int) (nodes_3o2 : Int) (edges_3o2 : Int) (near_3o2 : Int → Int) (drawnNodes_0 : Int) (drawnNodes_1 : Int) (cycles_1 : Int) (drawnNodes_2 : Int) (cycles_2 : Int) (cycle_0 : Int → Int) (cycle_1 : Int → Int) (cycle_2 : Int → Int) (cycle_3 : Int → Int) (cycleLength_0 : Int → Int) (cycleLength_1 : Int → Int) (cycleLength_2 : Int → Int) (cycleLength_3 : Int → Int) (after_2 : Int → Int) (after_3 : Int → Int) (k19 : 0 ≤ x19 ∧ x19 ≤ 0) (fe_0_5_1 : blockNodes_0 = blockNodes_1) (fe_0_6_1 : drawnNodes_0 = drawnNodes_1) (fe_0_7_1 : cycles_0 = cycles_1) (fe_2_5_1 : nodes_0o2 = nodes_1o2) (fe_2_6_1 : edges_0o2 = edges_1o2) (fe_0_5_2 : blockNodes_1 = blockNodes_2) (fe_0_6_2 : drawnNodes_1 = drawnNodes_2) (fe_0_7_2 : cycles_1 = cycles_2) (fe_2_5_2 : nodes_1o2 = nodes_2o2) (fe_2_6_2 : edges_1o2 = edges_2o2) (fe_0_5_3 : blockNodes_2 = blockNodes_3) (fe_2_5_3 : nodes_2o2 = nodes_3o2) (fe_2_6_3 : edges_2o2 = edges_3o2) (hE_0_2_1 : ∀ j : Int, block_0 j = block_1 j) (hE_0_2_2 : ∀ j : Int, block_1 j = block_2 j) (hE_0_2_3 : ∀ j : Int, block_2 j = block_3 j) (hE_0_8_1 : ∀ j : Int, cycle_0 j = cycle_1 j) (hE_0_8_2 : ∀ j : Int, cycle_1 j = cycle_2 j) (hE_0_8_3 : ∀ j : Int, cycle_2 j = cycle_3 j) (hE_0_9_1 : ∀ j : Int, cycleLength_0 j = cycleLength_1 j) (hE_0_9_2 : ∀ j : Int, cycleLength_1 j = cycleLength_2 j) (hE_0_9_3 : ∀ j : Int, cycleLength_2 j = cycleLength_3 j) (hE_0_12_3 : ∀ j : Int, after_2 j = after_3 j) (hE_2_7_1 : ∀ j : Int, tail_0o2 j = tail_1o2 j) (hE_2_7_2 : ∀ j : Int, tail_1o2 j = tail_2o2 j) (hE_2_7_3 : ∀ j : Int, tail_2o2 j = tail_3o2 j) (hE_2_8_1 : ∀ j : Int, head_0o2 j = head_1o2 j) (hE_2_8_2 : ∀ j : Int, head_1o2 j = head_2o2 j) (hE_2_8_3 : ∀ j : Int, head_2o2 j = head_3o2 j) (hE_2_9_1 : ∀ j : Int, near_0o2 j = near_1o2 j) (hE_2_9_2 : ∀ j : Int, near_1o2 j = near_2o2 j) (hE_2_9_3 : ∀ j : Int, near_2o2 j = near_3o2 j) (kz_0_5 : 0 ≤ blockNodes_0 ∧ blockNodes_0 ≤ 33554431) (kz_0_6 : 0 ≤ drawnNodes_0 ∧ drawnNodes_0 ≤ 33554431) (kz_0_7 : 0 ≤ cycles_0 ∧ cycles_0 ≤ 50) (kz_2_5 : 0 ≤ nodes_0o2 ∧ nodes_0o2 ≤ 25) (kz_2_6 : 0 ≤ edges_0o2 ∧ edges_0o2 ≤ 72) : (x19 ≤ 0) ∨ (1 ≤ cycles_0) := by
  subst fe_0_5_1
  subst fe_0_6_1
  subst fe_0_7_1
  subst fe_2_5_1
  subst fe_2_6_1
  subst fe_0_5_2
  subst fe_0_6_2
  subst fe_0_7_2
  subst fe_2_5_2
  subst fe_2_6_2
  subst fe_0_5_3
  subst fe_2_5_3
  subst fe_2_6_3
  have e_hE_0_2_1 := funext hE_0_2_1; subst e_hE_0_2_1
  have e_hE_0_2_2 := funext hE_0_2_2; subst e_hE_0_2_2
  have e_hE_0_2_3 := funext hE_0_2_3; subst e_hE_0_2_3
  have e_hE_0_8_1 := funext hE_0_8_1; subst e_hE_0_8_1
  have e_hE_0_8_2 := funext hE_0_8_2; subst e_hE_0_8_2
  have e_hE_0_8_3 := funext hE_0_8_3; subst e_hE_0_8_3
  have e_hE_0_9_1 := funext hE_0_9_1; subst e_hE_0_9_1
  have e_hE_0_9_2 := funext hE_0_9_2; subst e_hE_0_9_2
  have e_hE_0_9_3 := funext hE_0_9_3; subst e_hE_0_9_3
  have e_hE_0_12_3 := funext hE_0_12_3; subst e_hE_0_12_3
  have e_hE_2_7_1 := funext hE_2_7_1; subst e_hE_2_7_1
  have e_hE_2_7_2 := funext hE_2_7_2; subst e_hE_2_7_2
  have e_hE_2_7_3 := funext hE_2_7_3; subst e_hE_2_7_3
  have e_hE_2_8_1 := funext hE_2_8_1; subst e_hE_2_8_1
  have e_hE_2_8_2 := funext hE_2_8_2; subst e_hE_2_8_2
  have e_hE_2_8_3 := funext hE_2_8_3; subst e_hE_2_8_3
  have e_hE_2_9_1 := funext hE_2_9_1; subst e_hE_2_9_1
  have e_hE_2_9_2 := funext hE_2_9_2; subst e_hE_2_9_2
  have e_hE_2_9_3 := funext hE_2_9_3; subst e_hE_2_9_3
  first
    | omega
set_option maxHeartbeats 4000000 in
theorem vc_Em_beginBlock_at_gp_7_3 (x19 : Int) (cycles_0 : Int) (blockNodes_0 : Int) (block_0 : Int → Int) (tail_0o2 : Int → Int) (head_0o2 : Int → Int) (nodes_0o2 : Int) (edges_0o2 : Int) (near_0o2 : Int → Int) (block_1 : Int → Int) (tail_1o2 : Int → Int) (head_1o2 : Int → Int) (blockNodes_1 : Int) (nodes_1o2 : Int) (edges_1o2 : Int) (near_1o2 : Int → Int) (block_2 : Int → Int) (tail_2o2 : Int → Int) (head_2o2 : Int → Int) (blockNodes_2 : Int) (nodes_2o2 : Int) (edges_2o2 : Int) (near_2o2 : Int → Int) (block_3 : Int → Int) (tail_3o2 : Int → Int) (head_3o2 : Int → Int) (blockNodes_3 : Int) (nodes_3o2 : Int) (edges_3o2 : Int) (near_3o2 : Int → Int) (drawnNodes_0 : Int) (drawnNodes_1 : Int) (cycles_1 : Int) (drawnNodes_2 : Int) (cycles_2 : Int) (cycle_0 : Int → Int) (cycle_1 : Int → Int) (cycle_2 : Int → Int) (cycle_3 : Int → Int) (cycleLength_0 : Int → Int) (cycleLength_1 : Int → Int) (cycleLength_2 : Int → Int) (cycleLength_3 : Int → Int) (after_2 : Int → Int) (after_3 : Int → Int) (k19 : 0 ≤ x19 ∧ x19 ≤ 0) (fe_0_5_1 : blockNodes_0 = blockNodes_1) (fe_0_6_1 : drawnNodes_0 = drawnNodes_1) (fe_0_7_1 : cycles_0 = cycles_1) (fe_2_5_1 : nodes_0o2 = nodes_1o2) (fe_2_6_1 : edges_0o2 = edges_1o2) (fe_0_5_2 : blockNodes_1 = blockNodes_2) (fe_0_6_2 : drawnNodes_1 = drawnNodes_2) (fe_0_7_2 : cycles_1 = cycles_2) (fe_2_5_2 : nodes_1o2 = nodes_2o2) (fe_2_6_2 : edges_1o2 = edges_2o2) (fe_0_5_3 : blockNodes_2 = blockNodes_3) (fe_2_5_3 : nodes_2o2 = nodes_3o2) (fe_2_6_3 : edges_2o2 = edges_3o2) (hE_0_2_1 : ∀ j : Int, block_0 j = block_1 j) (hE_0_2_2 : ∀ j : Int, block_1 j = block_2 j) (hE_0_2_3 : ∀ j : Int, block_2 j = block_3 j) (hE_0_8_1 : ∀ j : Int, cycle_0 j = cycle_1 j) (hE_0_8_2 : ∀ j : Int, cycle_1 j = cycle_2 j) (hE_0_8_3 : ∀ j : Int, cycle_2 j = cycle_3 j) (hE_0_9_1 : ∀ j : Int, cycleLength_0 j = cycleLength_1 j) (hE_0_9_2 : ∀ j : Int, cycleLength_1 j = cycleLength_2 j) (hE_0_9_3 : ∀ j : Int, cycleLength_2 j = cycleLength_3 j) (hE_0_12_3 : ∀ j : Int, after_2 j = after_3 j) (hE_2_7_1 : ∀ j : Int, tail_0o2 j = tail_1o2 j) (hE_2_7_2 : ∀ j : Int, tail_1o2 j = tail_2o2 j) (hE_2_7_3 : ∀ j : Int, tail_2o2 j = tail_3o2 j) (hE_2_8_1 : ∀ j : Int, head_0o2 j = head_1o2 j) (hE_2_8_2 : ∀ j : Int, head_1o2 j = head_2o2 j) (hE_2_8_3 : ∀ j : Int, head_2o2 j = head_3o2 j) (hE_2_9_1 : ∀ j : Int, near_0o2 j = near_1o2 j) (hE_2_9_2 : ∀ j : Int, near_1o2 j = near_2o2 j) (hE_2_9_3 : ∀ j : Int, near_2o2 j = near_3o2 j) (kz_0_5 : 0 ≤ blockNodes_0 ∧ blockNodes_0 ≤ 33554431) (kz_0_6 : 0 ≤ drawnNodes_0 ∧ drawnNodes_0 ≤ 33554431) (kz_0_7 : 0 ≤ cycles_0 ∧ cycles_0 ≤ 50) (kz_2_5 : 0 ≤ nodes_0o2 ∧ nodes_0o2 ≤ 25) (kz_2_6 : 0 ≤ edges_0o2 ∧ edges_0o2 ≤ 72) : DBA (drawnNodes_0) (blockNodes_0) (x19) := by
  subst fe_0_5_1
  subst fe_0_6_1
  subst fe_0_7_1
  subst fe_2_5_1
  subst fe_2_6_1
  subst fe_0_5_2
  subst fe_0_6_2
  subst fe_0_7_2
  subst fe_2_5_2
  subst fe_2_6_2
  subst fe_0_5_3
  subst fe_2_5_3
  subst fe_2_6_3
  have e_hE_0_2_1 := funext hE_0_2_1; subst e_hE_0_2_1
  have e_hE_0_2_2 := funext hE_0_2_2; subst e_hE_0_2_2
  have e_hE_0_2_3 := funext hE_0_2_3; subst e_hE_0_2_3
  have e_hE_0_8_1 := funext hE_0_8_1; subst e_hE_0_8_1
  have e_hE_0_8_2 := funext hE_0_8_2; subst e_hE_0_8_2
  have e_hE_0_8_3 := funext hE_0_8_3; subst e_hE_0_8_3
  have e_hE_0_9_1 := funext hE_0_9_1; subst e_hE_0_9_1
  have e_hE_0_9_2 := funext hE_0_9_2; subst e_hE_0_9_2
  have e_hE_0_9_3 := funext hE_0_9_3; subst e_hE_0_9_3
  have e_hE_0_12_3 := funext hE_0_12_3; subst e_hE_0_12_3
  have e_hE_2_7_1 := funext hE_2_7_1; subst e_hE_2_7_1
  have e_hE_2_7_2 := funext hE_2_7_2; subst e_hE_2_7_2
  have e_hE_2_7_3 := funext hE_2_7_3; subst e_hE_2_7_3
  have e_hE_2_8_1 := funext hE_2_8_1; subst e_hE_2_8_1
  have e_hE_2_8_2 := funext hE_2_8_2; subst e_hE_2_8_2
  have e_hE_2_8_3 := funext hE_2_8_3; subst e_hE_2_8_3
  have e_hE_2_9_1 := funext hE_2_9_1; subst e_hE_2_9_1
  have e_hE_2_9_2 := funext hE_2_9_2; subst e_hE_2_9_2
  have e_hE_2_9_3 := funext hE_2_9_3; subst e_hE_2_9_3
  first
    | exact Or.inl (by omega)
    | exact Or.inr ⟨x13, by omega, by omega, ‹BTD _ _›, ‹BTN _ _›⟩
  
def o_Em_beginBlock_at_gp_7 : or_T := (121, 20, [(0, (2, 0, 0, [1])), (1, (0, 0, 71, [])), (2, (2, 0, 0, [149])), (5, (0, -1, 71, [])), (7, (0, -1, -1, [])), (10, (0, 0, 0, [])), (12, (2, 0, 0, [33])), (19, (0, 0, 0, []))], [(9, [10, 3], [7]), (24, [2, 9], []), (24, [0, 3], []), (24, [1, 4], []), (100, [12, 18, 5], []), (100, [12, 14, 5], []), (101, [3, 10], [7]), (8, [7], [2]), (20, [3, 9, 4, 5, 7], [60, 3, 3, 601, 5, 1005, 1006, 2, 1007, 1008])], [], [], [(20, [0, 2, 1], [60, 3, 3, 600, 5, 1005, 1006, 2, 1007, 1008]), (20, [0], [60, 2, 2, 603, 7, 6, 8, 9]), (20, [19, 0], [50, 1, 0, 1007, 3, 6, 0, 2, 1, 0, 0, 0, 0, 2, 0, 1, 2, 1, 7]), (20, [0, 19], [60, 2, 0, 607, 6, 5])], [], [])
theorem oo_Em_beginBlock_at_gp_7 {kA : Nat → ClassId} : or_ok PRD kA GG o_Em_beginBlock_at_gp_7 := by
  refine or_mk fun A ta ws vs hD hth hl => ?_
  intro t0 r0 t1 k1 t2 r2 t5 k5 t7 k7 t10 k10 t12 r12 t19 k19 f1 f5 f6 f7 ta1 w1 le1 s1 ta2 w2 le2 s2 ta3 w3 le3 s3 f15 f16
  replace f1 := shm_198 f1
  replace f5 := shm_5 f5
  replace f6 := shm_5 f6
  replace f7 := shm_5 f7
  have s1 : (∀ b j, w_el ws b j = if b = v_ad (n_v vs 12) ∧ j = (v_iv (n_v vs 18)).toNat then v_iv (n_v vs 5) else w_el w1 b j) ∧ ∀ b k, w_fd ws b k = w_fd w1 b k := s1.2
  have s2 : (∀ b j, w_el w1 b j = if b = v_ad (n_v vs 12) ∧ j = (v_iv (n_v vs 14)).toNat then v_iv (n_v vs 5) else w_el w2 b j) ∧ ∀ b k, w_fd w1 b k = w_fd w2 b k := s2.2
  have s3 : (∀ b j, w_el w2 b j = w_el w3 b j) ∧ ∀ b j, w_fd w2 b j = if b = v_ad (n_v vs 3) ∧ j = 7 then n_v vs 10 else w_fd w3 b j := s3.2
  replace f16 := shm_1681 f16
  have q9 : n_v vs 9 = n_v vs 2 := f5.symm
  have q3 : n_v vs 3 = n_v vs 0 := f6.symm
  have q4 : n_v vs 4 = n_v vs 1 := f7.symm
  simp only [q3] at f1
  rw [q3] at s3
  simp only [q9, q3, q4] at f16
  have ar_0_2_1 : w_ar w1 (n_v vs 0) 2 = w_ar ws (n_v vs 0) 2 := congrArg v_ad (s1.2 _ _).symm
  have ar_0_2_2 : w_ar w2 (n_v vs 0) 2 = w_ar ws (n_v vs 0) 2 := by rw [← ar_0_2_1]; show v_ad (w_fd w2 _ _) = v_ad (w_fd w1 _ _); rw [s2.2]
  have ar_0_2_3 : w_ar w3 (n_v vs 0) 2 = w_ar ws (n_v vs 0) 2 := by rw [← ar_0_2_2]; show v_ad (w_fd w3 _ _) = v_ad (w_fd w2 _ _); rw [s3.2, if_neg (fun e => absurd e.2 (by decide))]
  have cr_0_2 := fdq_56 hD hth r0
  have cr_0_8 := fdq_51 hD hth r0
  have cr_0_9 := fdq_50 hD hth r0
  have ar_2_7_1 : w_ar w1 (n_v vs 2) 7 = w_ar ws (n_v vs 2) 7 := congrArg v_ad (s1.2 _ _).symm
  have ar_2_7_2 : w_ar w2 (n_v vs 2) 7 = w_ar ws (n_v vs 2) 7 := by rw [← ar_2_7_1]; show v_ad (w_fd w2 _ _) = v_ad (w_fd w1 _ _); rw [s2.2]
  have ar_2_7_3 : w_ar w3 (n_v vs 2) 7 = w_ar ws (n_v vs 2) 7 := by rw [← ar_2_7_2]; show v_ad (w_fd w3 _ _) = v_ad (w_fd w2 _ _); rw [s3.2, if_neg (fun e => by have e1 := e.1; have e2 := r2; rw [e1, r0] at e2; exact absurd (Option.some.inj e2) (by decide))]
  have cr_2_7 := fdq_60 hD hth r2
  have ar_2_8_1 : w_ar w1 (n_v vs 2) 8 = w_ar ws (n_v vs 2) 8 := congrArg v_ad (s1.2 _ _).symm
  have ar_2_8_2 : w_ar w2 (n_v vs 2) 8 = w_ar ws (n_v vs 2) 8 := by rw [← ar_2_8_1]; show v_ad (w_fd w2 _ _) = v_ad (w_fd w1 _ _); rw [s2.2]
  have ar_2_8_3 : w_ar w3 (n_v vs 2) 8 = w_ar ws (n_v vs 2) 8 := by rw [← ar_2_8_2]; show v_ad (w_fd w3 _ _) = v_ad (w_fd w2 _ _); rw [s3.2, if_neg (fun e => absurd e.2 (by decide))]
  have cr_2_8 := fdq_61 hD hth r2
  have ar_2_9_1 : w_ar w1 (n_v vs 2) 9 = w_ar ws (n_v vs 2) 9 := congrArg v_ad (s1.2 _ _).symm
  have ar_2_9_2 : w_ar w2 (n_v vs 2) 9 = w_ar ws (n_v vs 2) 9 := by rw [← ar_2_9_1]; show v_ad (w_fd w2 _ _) = v_ad (w_fd w1 _ _); rw [s2.2]
  have ar_2_9_3 : w_ar w3 (n_v vs 2) 9 = w_ar ws (n_v vs 2) 9 := by rw [← ar_2_9_2]; show v_ad (w_fd w3 _ _) = v_ad (w_fd w2 _ _); rw [s3.2, if_neg (fun e => absurd e.2 (by decide))]
  have cr_2_9 := fdq_83 hD hth r2
  have g1 : v_iv (n_v vs 10) = w_fi ws (n_v vs 0) 7 := congrArg v_iv f1
  simp only [ar_0_2_1, ar_2_7_1, ar_2_8_1, ar_2_9_1, ar_0_2_2, ar_2_7_2, ar_2_8_2, ar_2_9_2, ar_0_2_3, ar_2_7_3, ar_2_8_3, ar_2_9_3] at f16
  have fe_0_5_1 : w_fi ws (n_v vs 0) 5 = w_fi w1 (n_v vs 0) 5 := congrArg v_iv (s1.2 _ _)
  have fe_0_6_1 : w_fi ws (n_v vs 0) 6 = w_fi w1 (n_v vs 0) 6 := congrArg v_iv (s1.2 _ _)
  have fe_0_7_1 : w_fi ws (n_v vs 0) 7 = w_fi w1 (n_v vs 0) 7 := congrArg v_iv (s1.2 _ _)
  have fe_2_5_1 : w_fi ws (n_v vs 2) 5 = w_fi w1 (n_v vs 2) 5 := congrArg v_iv (s1.2 _ _)
  have fe_2_6_1 : w_fi ws (n_v vs 2) 6 = w_fi w1 (n_v vs 2) 6 := congrArg v_iv (s1.2 _ _)
  have fe_0_5_2 : w_fi w1 (n_v vs 0) 5 = w_fi w2 (n_v vs 0) 5 := congrArg v_iv (s2.2 _ _)
  have fe_0_6_2 : w_fi w1 (n_v vs 0) 6 = w_fi w2 (n_v vs 0) 6 := congrArg v_iv (s2.2 _ _)
  have fe_0_7_2 : w_fi w1 (n_v vs 0) 7 = w_fi w2 (n_v vs 0) 7 := congrArg v_iv (s2.2 _ _)
  have fe_2_5_2 : w_fi w1 (n_v vs 2) 5 = w_fi w2 (n_v vs 2) 5 := congrArg v_iv (s2.2 _ _)
  have fe_2_6_2 : w_fi w1 (n_v vs 2) 6 = w_fi w2 (n_v vs 2) 6 := congrArg v_iv (s2.2 _ _)
  have fe_0_5_3 : w_fi w2 (n_v vs 0) 5 = w_fi w3 (n_v vs 0) 5 := by show v_iv (w_fd _ _ _) = v_iv (w_fd _ _ _); rw [s3.2, if_neg (fun e => absurd e.2 (by decide))]
  have fe_2_5_3 : w_fi w2 (n_v vs 2) 5 = w_fi w3 (n_v vs 2) 5 := by show v_iv (w_fd _ _ _) = v_iv (w_fd _ _ _); rw [s3.2, if_neg (fun e => absurd e.2 (by decide))]
  have fe_2_6_3 : w_fi w2 (n_v vs 2) 6 = w_fi w3 (n_v vs 2) 6 := by show v_iv (w_fd _ _ _) = v_iv (w_fd _ _ _); rw [s3.2, if_neg (fun e => absurd e.2 (by decide))]
  have hE_0_2_1 : ∀ j : Int, w_ei ws (w_ar ws (n_v vs 0) 2) j = w_ei w1 (w_ar ws (n_v vs 0) 2) j := el_kp s1.1 r12 cr_0_2 (by decide)
  have hE_0_2_2 : ∀ j : Int, w_ei w1 (w_ar ws (n_v vs 0) 2) j = w_ei w2 (w_ar ws (n_v vs 0) 2) j := el_kp s2.1 r12 cr_0_2 (by decide)
  have hE_0_2_3 : ∀ j : Int, w_ei w2 (w_ar ws (n_v vs 0) 2) j = w_ei w3 (w_ar ws (n_v vs 0) 2) j := fun j => s3.1 _ _
  have hE_0_8_1 : ∀ j : Int, w_ei ws (w_ar ws (n_v vs 0) 8) j = w_ei w1 (w_ar ws (n_v vs 0) 8) j := el_kp s1.1 r12 cr_0_8 (by decide)
  have hE_0_8_2 : ∀ j : Int, w_ei w1 (w_ar ws (n_v vs 0) 8) j = w_ei w2 (w_ar ws (n_v vs 0) 8) j := el_kp s2.1 r12 cr_0_8 (by decide)
  have hE_0_8_3 : ∀ j : Int, w_ei w2 (w_ar ws (n_v vs 0) 8) j = w_ei w3 (w_ar ws (n_v vs 0) 8) j := fun j => s3.1 _ _
  have hE_0_9_1 : ∀ j : Int, w_ei ws (w_ar ws (n_v vs 0) 9) j = w_ei w1 (w_ar ws (n_v vs 0) 9) j := el_kp s1.1 r12 cr_0_9 (by decide)
  have hE_0_9_2 : ∀ j : Int, w_ei w1 (w_ar ws (n_v vs 0) 9) j = w_ei w2 (w_ar ws (n_v vs 0) 9) j := el_kp s2.1 r12 cr_0_9 (by decide)
  have hE_0_9_3 : ∀ j : Int, w_ei w2 (w_ar ws (n_v vs 0) 9) j = w_ei w3 (w_ar ws (n_v vs 0) 9) j := fun j => s3.1 _ _
  have hE_0_12_3 : ∀ j : Int, w_ei w2 (w_ar ws (n_v vs 0) 12) j = w_ei w3 (w_ar ws (n_v vs 0) 12) j := fun j => s3.1 _ _
  have hE_2_7_1 : ∀ j : Int, w_ei ws (w_ar ws (n_v vs 2) 7) j = w_ei w1 (w_ar ws (n_v vs 2) 7) j := el_kp s1.1 r12 cr_2_7 (by decide)
  have hE_2_7_2 : ∀ j : Int, w_ei w1 (w_ar ws (n_v vs 2) 7) j = w_ei w2 (w_ar ws (n_v vs 2) 7) j := el_kp s2.1 r12 cr_2_7 (by decide)
  have hE_2_7_3 : ∀ j : Int, w_ei w2 (w_ar ws (n_v vs 2) 7) j = w_ei w3 (w_ar ws (n_v vs 2) 7) j := fun j => s3.1 _ _
  have hE_2_8_1 : ∀ j : Int, w_ei ws (w_ar ws (n_v vs 2) 8) j = w_ei w1 (w_ar ws (n_v vs 2) 8) j := el_kp s1.1 r12 cr_2_8 (by decide)
  have hE_2_8_2 : ∀ j : Int, w_ei w1 (w_ar ws (n_v vs 2) 8) j = w_ei w2 (w_ar ws (n_v vs 2) 8) j := el_kp s2.1 r12 cr_2_8 (by decide)
  have hE_2_8_3 : ∀ j : Int, w_ei w2 (w_ar ws (n_v vs 2) 8) j = w_ei w3 (w_ar ws (n_v vs 2) 8) j := fun j => s3.1 _ _
  have hE_2_9_1 : ∀ j : Int, w_ei ws (w_ar ws (n_v vs 2) 9) j = w_ei w1 (w_ar ws (n_v vs 2) 9) j := el_kp s1.1 r12 cr_2_9 (by decide)
  have hE_2_9_2 : ∀ j : Int, w_ei w1 (w_ar ws (n_v vs 2) 9) j = w_ei w2 (w_ar ws (n_v vs 2) 9) j := el_kp s2.1 r12 cr_2_9 (by decide)
  have hE_2_9_3 : ∀ j : Int, w_ei w2 (w_ar ws (n_v vs 2) 9) j = w_ei w3 (w_ar ws (n_v vs 2) 9) j := fun j => s3.1 _ _
  have kz_0_5 := fdq_283 hD hth r0
  have kz_0_6 := fdq_53 hD hth r0
  have kz_0_7 := fdq_49 hD hth r0
  have kz_2_5 := fdq_85 hD hth r2
  have kz_2_6 := fdq_62 hD hth r2
  have nf0 : fc_1 PRD (20, [0, 2, 1], [60, 3, 3, 600, 5, 1005, 1006, 2, 1007, 1008]) ws (vs) := ⟨nf_in hl rfl, sgq_1338 (vc_Em_beginBlock_at_gp_7_0 (v_iv (n_v vs 1)) (v_iv (n_v vs 5)) (v_iv (n_v vs 7)) (w_fi ws (n_v vs 0) 7) (w_fi ws (n_v vs 0) 5) (w_ei ws (w_ar ws (n_v vs 0) 2)) (w_ei ws (w_ar ws (n_v vs 2) 7)) (w_ei ws (w_ar ws (n_v vs 2) 8)) (w_fi ws (n_v vs 2) 5) (w_fi ws (n_v vs 2) 6) (w_ei ws (w_ar ws (n_v vs 2) 9)) (w_ei w1 (w_ar ws (n_v vs 0) 2)) (w_ei w1 (w_ar ws (n_v vs 2) 7)) (w_ei w1 (w_ar ws (n_v vs 2) 8)) (w_fi w1 (n_v vs 0) 5) (w_fi w1 (n_v vs 2) 5) (w_fi w1 (n_v vs 2) 6) (w_ei w1 (w_ar ws (n_v vs 2) 9)) (w_ei w2 (w_ar ws (n_v vs 0) 2)) (w_ei w2 (w_ar ws (n_v vs 2) 7)) (w_ei w2 (w_ar ws (n_v vs 2) 8)) (w_fi w2 (n_v vs 0) 5) (w_fi w2 (n_v vs 2) 5) (w_fi w2 (n_v vs 2) 6) (w_ei w2 (w_ar ws (n_v vs 2) 9)) (w_ei w3 (w_ar ws (n_v vs 0) 2)) (w_ei w3 (w_ar ws (n_v vs 2) 7)) (w_ei w3 (w_ar ws (n_v vs 2) 8)) (w_fi w3 (n_v vs 0) 5) (w_fi w3 (n_v vs 2) 5) (w_fi w3 (n_v vs 2) 6) (w_ei w3 (w_ar ws (n_v vs 2) 9)) (w_fi ws (n_v vs 0) 6) (w_fi w1 (n_v vs 0) 6) (w_fi w1 (n_v vs 0) 7) (w_fi w2 (n_v vs 0) 6) (w_fi w2 (n_v vs 0) 7) (w_ei ws (w_ar ws (n_v vs 0) 8)) (w_ei w1 (w_ar ws (n_v vs 0) 8)) (w_ei w2 (w_ar ws (n_v vs 0) 8)) (w_ei w3 (w_ar ws (n_v vs 0) 8)) (w_ei ws (w_ar ws (n_v vs 0) 9)) (w_ei w1 (w_ar ws (n_v vs 0) 9)) (w_ei w2 (w_ar ws (n_v vs 0) 9)) (w_ei w3 (w_ar ws (n_v vs 0) 9)) (w_ei w2 (w_ar ws (n_v vs 0) 12)) (w_ei w3 (w_ar ws (n_v vs 0) 12)) k1 k5 k7 (shm_39 f15) f16 fe_0_5_1 fe_0_6_1 fe_0_7_1 fe_2_5_1 fe_2_6_1 fe_0_5_2 fe_0_6_2 fe_0_7_2 fe_2_5_2 fe_2_6_2 fe_0_5_3 fe_2_5_3 fe_2_6_3 hE_0_2_1 hE_0_2_2 hE_0_2_3 hE_0_8_1 hE_0_8_2 hE_0_8_3 hE_0_9_1 hE_0_9_2 hE_0_9_3 hE_0_12_3 hE_2_7_1 hE_2_7_2 hE_2_7_3 hE_2_8_1 hE_2_8_2 hE_2_8_3 hE_2_9_1 hE_2_9_2 hE_2_9_3 kz_0_5 kz_0_6 kz_0_7 kz_2_5 kz_2_6)⟩
  have nf1 : fc_1 PRD (20, [0], [60, 2, 2, 603, 7, 6, 8, 9]) ws (vs) := ⟨nf_in hl rfl, sgq_351 (vc_Em_beginBlock_at_gp_7_1 (v_iv (n_v vs 10)) (w_fi ws (n_v vs 0) 7) (w_fi ws (n_v vs 0) 5) (w_ei ws (w_ar ws (n_v vs 0) 2)) (w_ei ws (w_ar ws (n_v vs 2) 7)) (w_ei ws (w_ar ws (n_v vs 2) 8)) (w_fi ws (n_v vs 2) 5) (w_fi ws (n_v vs 2) 6) (w_ei ws (w_ar ws (n_v vs 2) 9)) (w_ei w1 (w_ar ws (n_v vs 0) 2)) (w_ei w1 (w_ar ws (n_v vs 2) 7)) (w_ei w1 (w_ar ws (n_v vs 2) 8)) (w_fi w1 (n_v vs 0) 5) (w_fi w1 (n_v vs 2) 5) (w_fi w1 (n_v vs 2) 6) (w_ei w1 (w_ar ws (n_v vs 2) 9)) (w_ei w2 (w_ar ws (n_v vs 0) 2)) (w_ei w2 (w_ar ws (n_v vs 2) 7)) (w_ei w2 (w_ar ws (n_v vs 2) 8)) (w_fi w2 (n_v vs 0) 5) (w_fi w2 (n_v vs 2) 5) (w_fi w2 (n_v vs 2) 6) (w_ei w2 (w_ar ws (n_v vs 2) 9)) (w_ei w3 (w_ar ws (n_v vs 0) 2)) (w_ei w3 (w_ar ws (n_v vs 2) 7)) (w_ei w3 (w_ar ws (n_v vs 2) 8)) (w_fi w3 (n_v vs 0) 5) (w_fi w3 (n_v vs 2) 5) (w_fi w3 (n_v vs 2) 6) (w_ei w3 (w_ar ws (n_v vs 2) 9)) (w_fi ws (n_v vs 0) 6) (w_fi w1 (n_v vs 0) 6) (w_fi w1 (n_v vs 0) 7) (w_fi w2 (n_v vs 0) 6) (w_fi w2 (n_v vs 0) 7) (w_ei ws (w_ar ws (n_v vs 0) 8)) (w_ei w1 (w_ar ws (n_v vs 0) 8)) (w_ei w2 (w_ar ws (n_v vs 0) 8)) (w_ei w3 (w_ar ws (n_v vs 0) 8)) (w_ei ws (w_ar ws (n_v vs 0) 9)) (w_ei w1 (w_ar ws (n_v vs 0) 9)) (w_ei w2 (w_ar ws (n_v vs 0) 9)) (w_ei w3 (w_ar ws (n_v vs 0) 9)) (w_ei w2 (w_ar ws (n_v vs 0) 12)) (w_ei w3 (w_ar ws (n_v vs 0) 12)) k10 g1 fe_0_5_1 fe_0_6_1 fe_0_7_1 fe_2_5_1 fe_2_6_1 fe_0_5_2 fe_0_6_2 fe_0_7_2 fe_2_5_2 fe_2_6_2 fe_0_5_3 fe_2_5_3 fe_2_6_3 hE_0_2_1 hE_0_2_2 hE_0_2_3 hE_0_8_1 hE_0_8_2 hE_0_8_3 hE_0_9_1 hE_0_9_2 hE_0_9_3 hE_0_12_3 hE_2_7_1 hE_2_7_2 hE_2_7_3 hE_2_8_1 hE_2_8_2 hE_2_8_3 hE_2_9_1 hE_2_9_2 hE_2_9_3 kz_0_5 kz_0_6 kz_0_7 kz_2_5 kz_2_6)⟩
  have nf2 : fc_1 PRD (20, [19, 0], [50, 1, 0, 1007, 3, 6, 0, 2, 1, 0, 0, 0, 0, 2, 0, 1, 2, 1, 7]) ws (vs) := ⟨nf_in hl rfl, sgq_1684 (vc_Em_beginBlock_at_gp_7_2 (v_iv (n_v vs 19)) (w_fi ws (n_v vs 0) 7) (w_fi ws (n_v vs 0) 5) (w_ei ws (w_ar ws (n_v vs 0) 2)) (w_ei ws (w_ar ws (n_v vs 2) 7)) (w_ei ws (w_ar ws (n_v vs 2) 8)) (w_fi ws (n_v vs 2) 5) (w_fi ws (n_v vs 2) 6) (w_ei ws (w_ar ws (n_v vs 2) 9)) (w_ei w1 (w_ar ws (n_v vs 0) 2)) (w_ei w1 (w_ar ws (n_v vs 2) 7)) (w_ei w1 (w_ar ws (n_v vs 2) 8)) (w_fi w1 (n_v vs 0) 5) (w_fi w1 (n_v vs 2) 5) (w_fi w1 (n_v vs 2) 6) (w_ei w1 (w_ar ws (n_v vs 2) 9)) (w_ei w2 (w_ar ws (n_v vs 0) 2)) (w_ei w2 (w_ar ws (n_v vs 2) 7)) (w_ei w2 (w_ar ws (n_v vs 2) 8)) (w_fi w2 (n_v vs 0) 5) (w_fi w2 (n_v vs 2) 5) (w_fi w2 (n_v vs 2) 6) (w_ei w2 (w_ar ws (n_v vs 2) 9)) (w_ei w3 (w_ar ws (n_v vs 0) 2)) (w_ei w3 (w_ar ws (n_v vs 2) 7)) (w_ei w3 (w_ar ws (n_v vs 2) 8)) (w_fi w3 (n_v vs 0) 5) (w_fi w3 (n_v vs 2) 5) (w_fi w3 (n_v vs 2) 6) (w_ei w3 (w_ar ws (n_v vs 2) 9)) (w_fi ws (n_v vs 0) 6) (w_fi w1 (n_v vs 0) 6) (w_fi w1 (n_v vs 0) 7) (w_fi w2 (n_v vs 0) 6) (w_fi w2 (n_v vs 0) 7) (w_ei ws (w_ar ws (n_v vs 0) 8)) (w_ei w1 (w_ar ws (n_v vs 0) 8)) (w_ei w2 (w_ar ws (n_v vs 0) 8)) (w_ei w3 (w_ar ws (n_v vs 0) 8)) (w_ei ws (w_ar ws (n_v vs 0) 9)) (w_ei w1 (w_ar ws (n_v vs 0) 9)) (w_ei w2 (w_ar ws (n_v vs 0) 9)) (w_ei w3 (w_ar ws (n_v vs 0) 9)) (w_ei w2 (w_ar ws (n_v vs 0) 12)) (w_ei w3 (w_ar ws (n_v vs 0) 12)) k19 fe_0_5_1 fe_0_6_1 fe_0_7_1 fe_2_5_1 fe_2_6_1 fe_0_5_2 fe_0_6_2 fe_0_7_2 fe_2_5_2 fe_2_6_2 fe_0_5_3 fe_2_5_3 fe_2_6_3 hE_0_2_1 hE_0_2_2 hE_0_2_3 hE_0_8_1 hE_0_8_2 hE_0_8_3 hE_0_9_1 hE_0_9_2 hE_0_9_3 hE_0_12_3 hE_2_7_1 hE_2_7_2 hE_2_7_3 hE_2_8_1 hE_2_8_2 hE_2_8_3 hE_2_9_1 hE_2_9_2 hE_2_9_3 kz_0_5 kz_0_6 kz_0_7 kz_2_5 kz_2_6)⟩
  have nf3 : fc_1 PRD (20, [0, 19], [60, 2, 0, 607, 6, 5]) ws (vs) := ⟨nf_in hl rfl, sgq_1685 (vc_Em_beginBlock_at_gp_7_3 (v_iv (n_v vs 19)) (w_fi ws (n_v vs 0) 7) (w_fi ws (n_v vs 0) 5) (w_ei ws (w_ar ws (n_v vs 0) 2)) (w_ei ws (w_ar ws (n_v vs 2) 7)) (w_ei ws (w_ar ws (n_v vs 2) 8)) (w_fi ws (n_v vs 2) 5) (w_fi ws (n_v vs 2) 6) (w_ei ws (w_ar ws (n_v vs 2) 9)) (w_ei w1 (w_ar ws (n_v vs 0) 2)) (w_ei w1 (w_ar ws (n_v vs 2) 7)) (w_ei w1 (w_ar ws (n_v vs 2) 8)) (w_fi w1 (n_v vs 0) 5) (w_fi w1 (n_v vs 2) 5) (w_fi w1 (n_v vs 2) 6) (w_ei w1 (w_ar ws (n_v vs 2) 9)) (w_ei w2 (w_ar ws (n_v vs 0) 2)) (w_ei w2 (w_ar ws (n_v vs 2) 7)) (w_ei w2 (w_ar ws (n_v vs 2) 8)) (w_fi w2 (n_v vs 0) 5) (w_fi w2 (n_v vs 2) 5) (w_fi w2 (n_v vs 2) 6) (w_ei w2 (w_ar ws (n_v vs 2) 9)) (w_ei w3 (w_ar ws (n_v vs 0) 2)) (w_ei w3 (w_ar ws (n_v vs 2) 7)) (w_ei w3 (w_ar ws (n_v vs 2) 8)) (w_fi w3 (n_v vs 0) 5) (w_fi w3 (n_v vs 2) 5) (w_fi w3 (n_v vs 2) 6) (w_ei w3 (w_ar ws (n_v vs 2) 9)) (w_fi ws (n_v vs 0) 6) (w_fi w1 (n_v vs 0) 6) (w_fi w1 (n_v vs 0) 7) (w_fi w2 (n_v vs 0) 6) (w_fi w2 (n_v vs 0) 7) (w_ei ws (w_ar ws (n_v vs 0) 8)) (w_ei w1 (w_ar ws (n_v vs 0) 8)) (w_ei w2 (w_ar ws (n_v vs 0) 8)) (w_ei w3 (w_ar ws (n_v vs 0) 8)) (w_ei ws (w_ar ws (n_v vs 0) 9)) (w_ei w1 (w_ar ws (n_v vs 0) 9)) (w_ei w2 (w_ar ws (n_v vs 0) 9)) (w_ei w3 (w_ar ws (n_v vs 0) 9)) (w_ei w2 (w_ar ws (n_v vs 0) 12)) (w_ei w3 (w_ar ws (n_v vs 0) 12)) k19 fe_0_5_1 fe_0_6_1 fe_0_7_1 fe_2_5_1 fe_2_6_1 fe_0_5_2 fe_0_6_2 fe_0_7_2 fe_2_5_2 fe_2_6_2 fe_0_5_3 fe_2_5_3 fe_2_6_3 hE_0_2_1 hE_0_2_2 hE_0_2_3 hE_0_8_1 hE_0_8_2 hE_0_8_3 hE_0_9_1 hE_0_9_2 hE_0_9_3 hE_0_12_3 hE_2_7_1 hE_2_7_2 hE_2_7_3 hE_2_8_1 hE_2_8_2 hE_2_8_3 hE_2_9_1 hE_2_9_2 hE_2_9_3 kz_0_5 kz_0_6 kz_0_7 kz_2_5 kz_2_6)⟩
  refine ⟨(fun _ h => (by cases h)), [], trivial, ?_, (fun _ h => (by cases h))⟩
  rw [List.append_nil]
  exact List.forall_mem_cons.mpr ⟨⟨show (20 : Nat) < 100 from by decide, nf0⟩, List.forall_mem_cons.mpr ⟨⟨show (20 : Nat) < 100 from by decide, nf1⟩, List.forall_mem_cons.mpr ⟨⟨show (20 : Nat) < 100 from by decide, nf2⟩, List.forall_mem_cons.mpr ⟨⟨show (20 : Nat) < 100 from by decide, nf3⟩, (fun _ h => (by cases h))⟩⟩⟩⟩
set_option maxHeartbeats 4000000 in
theorem vc_Em_beginBlock_at_gp_8_0 (x1 : Int) (x5 : Int) (x7 : Int) (x8 : Int) (x11 : Int) (x12 : Int) (blockNodes_0 : Int) (block_0 : Int → Int) (tail_0o2 : Int → Int) (head_0o2 : Int → Int) (nodes_0o2 : Int) (edges_0o2 : Int) (k1 : 0 ≤ x1 ∧ x1 ≤ 71) (k5 : (-1) ≤ x5 ∧ x5 ≤ 71) (k7 : 0 ≤ x7 ∧ x7 ≤ 71) (k11 : (-1) ≤ x11 ∧ x11 ≤ 71) (k12 : (-1) ≤ x12 ∧ x12 ≤ 70) (d0 : x7 + (-1) ≤ x12 ∧ x12 ≤ x7 + (-1)) (f2 : x11 ≠ x1) (h3 : x11 = block_0 (x7)) (f5 : 0 ≤ x7) (f6 : BBI (blockNodes_0) (nodes_0o2) (edges_0o2) (block_0) (tail_0o2) (head_0o2) (x1) (x5) (x7)) (kz_0_5 : 0 ≤ blockNodes_0 ∧ blockNodes_0 ≤ 33554431) (kz_2_5 : 0 ≤ nodes_0o2 ∧ nodes_0o2 ≤ 25) (kz_2_6 : 0 ≤ edges_0o2 ∧ edges_0o2 ≤ 72) : BBI (blockNodes_0) (nodes_0o2) (edges_0o2) (block_0) (tail_0o2) (head_0o2) (x1) (x5) (x12) := by
  first
    | exact bbi_start (by omega) ‹HSB _ _ _› (by omega) (by omega) (by omega)
    | exact bbi_skip ‹BBI _ _ _ _ _ _ _ _ _› (by omega) (by assumption) (by omega) (by omega)
    | (have o1 : x19 = 1 := by omega
       have o2 : x15 = 1 := by omega
       subst o1 o2
       rw [show blockNodes_0 = x24 by omega]
       have hb := (‹BBI _ _ _ _ _ _ _ _ _›)
       rw [← ‹x8 = blockNodes_1›] at hb
       exact bbi_step (z0 := x11) (x := x17) (y := x21) (q1 := x18) (q2 := x22) (q3 := x23) hb (by omega) (by assumption) (by omega) ‹NOK _ _ _ _ _› (by omega) (by assumption) (by assumption) (by assumption) (by assumption) (by assumption) (by assumption) rfl (by omega))
  
def o_Em_beginBlock_at_gp_8 : or_T := (20, 13, [(0, (2, 0, 0, [1])), (1, (0, 0, 71, [])), (2, (2, 0, 0, [149])), (5, (0, -1, 71, [])), (7, (0, 0, 71, [])), (11, (0, -1, 71, [])), (12, (0, -1, 70, []))], [(7, [11, 4], [1]), (10, [11, 10, 7], []), (9, [10, 3], [2]), (8, [7], [3]), (20, [3, 9, 4, 5, 7], [60, 3, 3, 601, 5, 1005, 1006, 2, 1007, 1008]), (24, [2, 9], []), (24, [0, 3], []), (24, [1, 4], [])], [], [], [(20, [3, 9, 4, 5, 12], [60, 3, 3, 601, 5, 1005, 1006, 2, 1007, 1008])], [], [(12, 7, -1, -1)])
theorem oo_Em_beginBlock_at_gp_8 {kA : Nat → ClassId} : or_ok PRD kA GG o_Em_beginBlock_at_gp_8 := by
  refine or_mk fun A ta ws vs hD hth hl => ?_
  intro t0 r0 t1 k1 t2 r2 t5 k5 t7 k7 t11 k11 t12 k12 d0 f2 f3 f4 f5 f6 f8 f9 f10
  replace f2 := shm_40 f2
  replace f3 := shm_107 f3
  replace f4 := shm_120 f4
  replace f5 := shm_32 f5
  replace f6 := shm_1681 f6
  replace f8 := shm_5 f8
  replace f9 := shm_5 f9
  replace f10 := shm_5 f10
  have q9 : n_v vs 9 = n_v vs 2 := f8.symm
  have q3 : n_v vs 3 = n_v vs 0 := f9.symm
  have q4 : n_v vs 4 = n_v vs 1 := f10.symm
  simp only [q3, q4, q9] at f2 f4 f6
  have ad_10 : v_ad (n_v vs 10) = w_ar ws (n_v vs 0) 2 := congrArg v_ad f4
  simp only [ad_10] at f3
  have h3 : v_iv (n_v vs 11) = w_ei ws (w_ar ws (n_v vs 0) 2) (v_iv (n_v vs 7)) := f3
  have kz_0_5 := fdq_283 hD hth r0
  have kz_2_5 := fdq_85 hD hth r2
  have kz_2_6 := fdq_62 hD hth r2
  have nf0 : fc_1 PRD (20, [3, 9, 4, 5, 12], [60, 3, 3, 601, 5, 1005, 1006, 2, 1007, 1008]) ws (vs) := by
    refine ⟨nf_in hl rfl, sgq_1681 ?_⟩
    · show BBI (w_fi ws (n_v vs 3) 5) (w_fi ws (n_v vs 9) 5) (w_fi ws (n_v vs 9) 6) (w_ei ws (w_ar ws (n_v vs 3) 2)) (w_ei ws (w_ar ws (n_v vs 9) 7)) (w_ei ws (w_ar ws (n_v vs 9) 8)) (v_iv (n_v vs 4)) (v_iv (n_v vs 5)) (v_iv (n_v vs 12))
      simp only [q9, q3, q4]
      exact vc_Em_beginBlock_at_gp_8_0 (v_iv (n_v vs 1)) (v_iv (n_v vs 5)) (v_iv (n_v vs 7)) (v_iv (n_v vs 8)) (v_iv (n_v vs 11)) (v_iv (n_v vs 12)) (w_fi ws (n_v vs 0) 5) (w_ei ws (w_ar ws (n_v vs 0) 2)) (w_ei ws (w_ar ws (n_v vs 2) 7)) (w_ei ws (w_ar ws (n_v vs 2) 8)) (w_fi ws (n_v vs 2) 5) (w_fi ws (n_v vs 2) 6) k1 k5 k7 k11 k12 d0 f2 h3 f5 f6 kz_0_5 kz_2_5 kz_2_6
  refine ⟨(fun _ h => (by cases h)), [], trivial, ?_, (fun _ h => (by cases h))⟩
  rw [List.append_nil]
  exact List.forall_mem_cons.mpr ⟨⟨show (20 : Nat) < 100 from by decide, nf0⟩, (fun _ h => (by cases h))⟩
set_option maxHeartbeats 4000000 in
theorem vc_Em_beginBlock_at_gp_9_0 (x1 : Int) (x5 : Int) (x7 : Int) (x8 : Int) (x11 : Int) (x15 : Int) (x17 : Int) (x18 : Int) (x19 : Int) (x21 : Int) (x22 : Int) (x23 : Int) (x24 : Int) (x25 : Int) (blockNodes_0 : Int) (tail_0o2 : Int → Int) (head_0o2 : Int → Int) (near_0o2 : Int → Int) (nodes_0o2 : Int) (edges_0o2 : Int) (head_1o2 : Int → Int) (tail_1o2 : Int → Int) (blockNodes_1 : Int) (block_1 : Int → Int) (nodes_1o2 : Int) (edges_1o2 : Int) (near_1o2 : Int → Int) (block_2 : Int → Int) (tail_2o2 : Int → Int) (head_2o2 : Int → Int) (blockNodes_2 : Int) (nodes_2o2 : Int) (edges_2o2 : Int) (near_2o2 : Int → Int) (block_0 : Int → Int) (drawn_0 : Int → Int) (drawn_1 : Int → Int) (k1 : 0 ≤ x1 ∧ x1 ≤ 71) (k5 : (-1) ≤ x5 ∧ x5 ≤ 71) (k7 : 0 ≤ x7 ∧ x7 ≤ 71) (k8 : 0 ≤ x8 ∧ x8 ≤ 33554431) (k11 : 0 ≤ x11 ∧ x11 ≤ 71) (k15 : 1 ≤ x15 ∧ x15 ≤ 1) (k17 : 0 ≤ x17 ∧ x17 ≤ 24) (k18 : 1 ≤ x18 ∧ x18 ≤ 16777216) (k19 : 1 ≤ x19 ∧ x19 ≤ 1) (k21 : 0 ≤ x21 ∧ x21 ≤ 24) (k22 : 1 ≤ x22 ∧ x22 ≤ 16777216) (k23 : 0 ≤ x23 ∧ x23 ≤ 33554431) (k24 : 0 ≤ x24 ∧ x24 ≤ 33554431) (k25 : (-1) ≤ x25 ∧ x25 ≤ 70) (d0 : x7 + (-1) ≤ x25 ∧ x25 ≤ x7 + (-1)) (f12 : bvp (x24) = bvp (x8) ||| bvp (x23)) (f14 : bvp (x23) = bvp (x18) ||| bvp (x22)) (f15 : bvp (x22) = bvp (x19) <<< (x21).toNat) (h16 : x21 = head_1o2 (x7)) (f17 : bvp (x18) = bvp (x15) <<< (x17).toNat) (h18 : x17 = tail_1o2 (x7)) (g19 : x8 = blockNodes_1) (f23 : x11 = x1) (h24 : x11 = block_2 (x7)) (f25 : 0 ≤ x7) (f26 : BBI (blockNodes_2) (nodes_2o2) (edges_2o2) (block_2) (tail_2o2) (head_2o2) (x1) (x5) (x7)) (f27 : NOK (nodes_2o2) (edges_2o2) (tail_2o2) (head_2o2) (near_2o2)) (fe_0_5_1 : blockNodes_0 = x24) (fe_2_5_1 : nodes_0o2 = nodes_1o2) (fe_2_6_1 : edges_0o2 = edges_1o2) (fe_0_5_2 : blockNodes_1 = blockNodes_2) (fe_2_5_2 : nodes_1o2 = nodes_2o2) (fe_2_6_2 : edges_1o2 = edges_2o2) (hE_0_2_1 : ∀ j : Int, block_0 j = block_1 j) (hE_0_2_2 : ∀ j : Int, block_1 j = block_2 j) (hE_0_3_1 : ∀ j : Int, drawn_0 j = drawn_1 j) (hE_2_7_1 : ∀ j : Int, tail_0o2 j = tail_1o2 j) (hE_2_7_2 : ∀ j : Int, tail_1o2 j = tail_2o2 j) (hE_2_8_1 : ∀ j : Int, head_0o2 j = head_1o2 j) (hE_2_8_2 : ∀ j : Int, head_1o2 j = head_2o2 j) (hE_2_9_1 : ∀ j : Int, near_0o2 j = near_1o2 j) (hE_2_9_2 : ∀ j : Int, near_1o2 j = near_2o2 j) (kz_0_5 : 0 ≤ blockNodes_0 ∧ blockNodes_0 ≤ 33554431) (kz_2_5 : 0 ≤ nodes_0o2 ∧ nodes_0o2 ≤ 25) (kz_2_6 : 0 ≤ edges_0o2 ∧ edges_0o2 ≤ 72) : BBI (blockNodes_0) (nodes_0o2) (edges_0o2) (block_0) (tail_0o2) (head_0o2) (x1) (x7) (x25) := by
  subst fe_2_5_1
  subst fe_2_6_1
  subst fe_0_5_2
  subst fe_2_5_2
  subst fe_2_6_2
  have e_hE_0_2_1 := funext hE_0_2_1; subst e_hE_0_2_1
  have e_hE_0_2_2 := funext hE_0_2_2; subst e_hE_0_2_2
  have e_hE_0_3_1 := funext hE_0_3_1; subst e_hE_0_3_1
  have e_hE_2_7_1 := funext hE_2_7_1; subst e_hE_2_7_1
  have e_hE_2_7_2 := funext hE_2_7_2; subst e_hE_2_7_2
  have e_hE_2_8_1 := funext hE_2_8_1; subst e_hE_2_8_1
  have e_hE_2_8_2 := funext hE_2_8_2; subst e_hE_2_8_2
  have e_hE_2_9_1 := funext hE_2_9_1; subst e_hE_2_9_1
  have e_hE_2_9_2 := funext hE_2_9_2; subst e_hE_2_9_2
  first
    | exact bbi_start (by omega) ‹HSB _ _ _› (by omega) (by omega) (by omega)
    | exact bbi_skip ‹BBI _ _ _ _ _ _ _ _ _› (by omega) (by assumption) (by omega) (by omega)
    | (have o1 : x19 = 1 := by omega
       have o2 : x15 = 1 := by omega
       subst o1 o2
       rw [show blockNodes_0 = x24 by omega]
       have hb := (‹BBI _ _ _ _ _ _ _ _ _›)
       rw [← ‹x8 = blockNodes_1›] at hb
       exact bbi_step (z0 := x11) (x := x17) (y := x21) (q1 := x18) (q2 := x22) (q3 := x23) hb (by omega) (by assumption) (by omega) ‹NOK _ _ _ _ _› (by omega) (by assumption) (by assumption) (by assumption) (by assumption) (by assumption) (by assumption) rfl (by omega))
  
def o_Em_beginBlock_at_gp_9 : or_T := (20, 26, [(0, (2, 0, 0, [1])), (1, (0, 0, 71, [])), (2, (2, 0, 0, [149])), (5, (0, -1, 71, [])), (7, (0, 0, 71, [])), (8, (0, 0, 33554431, [])), (11, (0, 0, 71, [])), (12, (2, 0, 0, [27])), (15, (0, 1, 1, [])), (17, (0, 0, 24, [])), (18, (0, 1, 16777216, [])), (19, (0, 1, 1, [])), (21, (0, 0, 24, [])), (22, (0, 1, 16777216, [])), (23, (0, 0, 33554431, [])), (24, (0, 0, 33554431, [])), (25, (0, -1, 70, []))], [(9, [20, 9], [8]), (9, [16, 9], [7]), (9, [10, 3], [2]), (24, [2, 9], []), (24, [0, 3], []), (24, [1, 4], []), (101, [3, 24], [5]), (16, [24, 8, 23], [1]), (16, [23, 18, 22], [1]), (16, [22, 19, 21], [3]), (10, [21, 20, 7], []), (16, [18, 15, 17], [3]), (10, [17, 16, 7], []), (9, [8, 3], [5]), (100, [12, 7, 13], []), (7, [11, 4], [0]), (10, [11, 10, 7], []), (8, [7], [3]), (20, [3, 9, 4, 5, 7], [60, 3, 3, 601, 5, 1005, 1006, 2, 1007, 1008]), (20, [9], [60, 2, 3, 595, 5, 6, 7, 8, 9])], [], [], [(20, [3, 9, 4, 7, 25], [60, 3, 3, 601, 5, 1005, 1006, 2, 1007, 1008])], [], [(25, 7, -1, -1)])
theorem oo_Em_beginBlock_at_gp_9 {kA : Nat → ClassId} : or_ok PRD kA GG o_Em_beginBlock_at_gp_9 := by
  refine or_mk fun A ta ws vs hD hth hl => ?_
  intro t0 r0 t1 k1 t2 r2 t5 k5 t7 k7 t8 k8 t11 k11 t12 r12 t15 k15 t17 k17 t18 k18 t19 k19 t21 k21 t22 k22 t23 k23 t24 k24 t25 k25 d0 f1 f2 f4 f7 f8 f9 ta1 w1 le1 s1 f12 f14 f15 f16 f17 f18 f19 ta2 w2 le2 s2 f23 f24 f25 f26 f27
  replace f1 := shm_293 f1
  replace f2 := shm_198 f2
  replace f4 := shm_120 f4
  replace f7 := shm_5 f7
  replace f8 := shm_5 f8
  replace f9 := shm_5 f9
  have s1 : (∀ b j, w_el ws b j = w_el w1 b j) ∧ ∀ b j, w_fd ws b j = if b = v_ad (n_v vs 3) ∧ j = 5 then n_v vs 24 else w_fd w1 b j := s1.2
  replace f12 := shm_354 f12
  replace f14 := shm_354 f14
  replace f15 := shm_349 f15
  replace f16 := shm_107 f16
  replace f17 := shm_349 f17
  replace f18 := shm_107 f18
  replace f19 := shm_110 f19
  have s2 : (∀ b j, w_el w1 b j = if b = v_ad (n_v vs 12) ∧ j = (v_iv (n_v vs 7)).toNat then v_iv (n_v vs 13) else w_el w2 b j) ∧ ∀ b k, w_fd w1 b k = w_fd w2 b k := s2.2
  replace f23 := shm_37 f23
  replace f24 := shm_107 f24
  replace f25 := shm_32 f25
  replace f26 := shm_1681 f26
  replace f27 := shm_408 f27
  have q9 : n_v vs 9 = n_v vs 2 := f7.symm
  have q3 : n_v vs 3 = n_v vs 0 := f8.symm
  have q4 : n_v vs 4 = n_v vs 1 := f9.symm
  simp only [q3, q9] at f1 f2 f4
  rw [q3] at s1
  simp only [q3, q9, q4] at f19 f23 f26 f27
  have ar_0_2_1 : w_ar w1 (n_v vs 0) 2 = w_ar ws (n_v vs 0) 2 := by show v_ad (w_fd w1 _ _) = v_ad (w_fd ws _ _); rw [s1.2, if_neg (fun e => absurd e.2 (by decide))]
  have ar_0_2_2 : w_ar w2 (n_v vs 0) 2 = w_ar ws (n_v vs 0) 2 := by rw [← ar_0_2_1]; show v_ad (w_fd w2 _ _) = v_ad (w_fd w1 _ _); rw [s2.2]
  have cr_0_2 := fdq_56 hD hth r0
  have ar_2_7_1 : w_ar w1 (n_v vs 2) 7 = w_ar ws (n_v vs 2) 7 := by show v_ad (w_fd w1 _ _) = v_ad (w_fd ws _ _); rw [s1.2, if_neg (fun e => absurd e.2 (by decide))]
  have ar_2_7_2 : w_ar w2 (n_v vs 2) 7 = w_ar ws (n_v vs 2) 7 := by rw [← ar_2_7_1]; show v_ad (w_fd w2 _ _) = v_ad (w_fd w1 _ _); rw [s2.2]
  have cr_2_7 := fdq_60 hD hth r2
  have ar_2_8_1 : w_ar w1 (n_v vs 2) 8 = w_ar ws (n_v vs 2) 8 := by show v_ad (w_fd w1 _ _) = v_ad (w_fd ws _ _); rw [s1.2, if_neg (fun e => absurd e.2 (by decide))]
  have ar_2_8_2 : w_ar w2 (n_v vs 2) 8 = w_ar ws (n_v vs 2) 8 := by rw [← ar_2_8_1]; show v_ad (w_fd w2 _ _) = v_ad (w_fd w1 _ _); rw [s2.2]
  have cr_2_8 := fdq_61 hD hth r2
  have ar_2_9_1 : w_ar w1 (n_v vs 2) 9 = w_ar ws (n_v vs 2) 9 := by show v_ad (w_fd w1 _ _) = v_ad (w_fd ws _ _); rw [s1.2, if_neg (fun e => absurd e.2 (by decide))]
  have ar_2_9_2 : w_ar w2 (n_v vs 2) 9 = w_ar ws (n_v vs 2) 9 := by rw [← ar_2_9_1]; show v_ad (w_fd w2 _ _) = v_ad (w_fd w1 _ _); rw [s2.2]
  have cr_2_9 := fdq_83 hD hth r2
  have ad_20 : v_ad (n_v vs 20) = w_ar ws (n_v vs 2) 8 := congrArg v_ad f1
  have ad_16 : v_ad (n_v vs 16) = w_ar ws (n_v vs 2) 7 := congrArg v_ad f2
  have ad_10 : v_ad (n_v vs 10) = w_ar ws (n_v vs 0) 2 := congrArg v_ad f4
  simp only [ad_20] at f16
  have h16 : v_iv (n_v vs 21) = w_ei w1 (w_ar ws (n_v vs 2) 8) (v_iv (n_v vs 7)) := f16
  simp only [ad_16] at f18
  have h18 : v_iv (n_v vs 17) = w_ei w1 (w_ar ws (n_v vs 2) 7) (v_iv (n_v vs 7)) := f18
  have g19 : v_iv (n_v vs 8) = w_fi w1 (n_v vs 0) 5 := congrArg v_iv f19
  simp only [ar_0_2_1, ar_2_7_1, ar_2_8_1, ar_2_9_1, ad_10] at f24
  have h24 : v_iv (n_v vs 11) = w_ei w2 (w_ar ws (n_v vs 0) 2) (v_iv (n_v vs 7)) := f24
  simp only [ar_0_2_2, ar_2_7_2, ar_2_8_2, ar_2_9_2] at f26 f27
  have fe_0_5_1 : w_fi ws (n_v vs 0) 5 = v_iv (n_v vs 24) := by show v_iv (w_fd _ _ _) = _; rw [s1.2, if_pos ⟨rfl, rfl⟩]
  have fe_2_5_1 : w_fi ws (n_v vs 2) 5 = w_fi w1 (n_v vs 2) 5 := by show v_iv (w_fd _ _ _) = v_iv (w_fd _ _ _); rw [s1.2, if_neg (fun e => by have e1 := e.1; have e2 := r2; rw [e1, r0] at e2; exact absurd (Option.some.inj e2) (by decide))]
  have fe_2_6_1 : w_fi ws (n_v vs 2) 6 = w_fi w1 (n_v vs 2) 6 := by show v_iv (w_fd _ _ _) = v_iv (w_fd _ _ _); rw [s1.2, if_neg (fun e => absurd e.2 (by decide))]
  have fe_0_5_2 : w_fi w1 (n_v vs 0) 5 = w_fi w2 (n_v vs 0) 5 := congrArg v_iv (s2.2 _ _)
  have fe_2_5_2 : w_fi w1 (n_v vs 2) 5 = w_fi w2 (n_v vs 2) 5 := congrArg v_iv (s2.2 _ _)
  have fe_2_6_2 : w_fi w1 (n_v vs 2) 6 = w_fi w2 (n_v vs 2) 6 := congrArg v_iv (s2.2 _ _)
  have hE_0_2_1 : ∀ j : Int, w_ei ws (w_ar ws (n_v vs 0) 2) j = w_ei w1 (w_ar ws (n_v vs 0) 2) j := fun j => s1.1 _ _
  have hE_0_2_2 : ∀ j : Int, w_ei w1 (w_ar ws (n_v vs 0) 2) j = w_ei w2 (w_ar ws (n_v vs 0) 2) j := el_kp s2.1 r12 cr_0_2 (by decide)
  have hE_0_3_1 : ∀ j : Int, w_ei ws (w_ar ws (n_v vs 0) 3) j = w_ei w1 (w_ar ws (n_v vs 0) 3) j := fun j => s1.1 _ _
  have hE_2_7_1 : ∀ j : Int, w_ei ws (w_ar ws (n_v vs 2) 7) j = w_ei w1 (w_ar ws (n_v vs 2) 7) j := fun j => s1.1 _ _
  have hE_2_7_2 : ∀ j : Int, w_ei w1 (w_ar ws (n_v vs 2) 7) j = w_ei w2 (w_ar ws (n_v vs 2) 7) j := el_kp s2.1 r12 cr_2_7 (by decide)
  have hE_2_8_1 : ∀ j : Int, w_ei ws (w_ar ws (n_v vs 2) 8) j = w_ei w1 (w_ar ws (n_v vs 2) 8) j := fun j => s1.1 _ _
  have hE_2_8_2 : ∀ j : Int, w_ei w1 (w_ar ws (n_v vs 2) 8) j = w_ei w2 (w_ar ws (n_v vs 2) 8) j := el_kp s2.1 r12 cr_2_8 (by decide)
  have hE_2_9_1 : ∀ j : Int, w_ei ws (w_ar ws (n_v vs 2) 9) j = w_ei w1 (w_ar ws (n_v vs 2) 9) j := fun j => s1.1 _ _
  have hE_2_9_2 : ∀ j : Int, w_ei w1 (w_ar ws (n_v vs 2) 9) j = w_ei w2 (w_ar ws (n_v vs 2) 9) j := el_kp s2.1 r12 cr_2_9 (by decide)
  have kz_0_5 := fdq_283 hD hth r0
  have kz_2_5 := fdq_85 hD hth r2
  have kz_2_6 := fdq_62 hD hth r2
  have nf0 : fc_1 PRD (20, [3, 9, 4, 7, 25], [60, 3, 3, 601, 5, 1005, 1006, 2, 1007, 1008]) ws (vs) := by
    refine ⟨nf_in hl rfl, sgq_1681 ?_⟩
    · show BBI (w_fi ws (n_v vs 3) 5) (w_fi ws (n_v vs 9) 5) (w_fi ws (n_v vs 9) 6) (w_ei ws (w_ar ws (n_v vs 3) 2)) (w_ei ws (w_ar ws (n_v vs 9) 7)) (w_ei ws (w_ar ws (n_v vs 9) 8)) (v_iv (n_v vs 4)) (v_iv (n_v vs 7)) (v_iv (n_v vs 25))
      simp only [q9, q3, q4]
      exact vc_Em_beginBlock_at_gp_9_0 (v_iv (n_v vs 1)) (v_iv (n_v vs 5)) (v_iv (n_v vs 7)) (v_iv (n_v vs 8)) (v_iv (n_v vs 11)) (v_iv (n_v vs 15)) (v_iv (n_v vs 17)) (v_iv (n_v vs 18)) (v_iv (n_v vs 19)) (v_iv (n_v vs 21)) (v_iv (n_v vs 22)) (v_iv (n_v vs 23)) (v_iv (n_v vs 24)) (v_iv (n_v vs 25)) (w_fi ws (n_v vs 0) 5) (w_ei ws (w_ar ws (n_v vs 2) 7)) (w_ei ws (w_ar ws (n_v vs 2) 8)) (w_ei ws (w_ar ws (n_v vs 2) 9)) (w_fi ws (n_v vs 2) 5) (w_fi ws (n_v vs 2) 6) (w_ei w1 (w_ar ws (n_v vs 2) 8)) (w_ei w1 (w_ar ws (n_v vs 2) 7)) (w_fi w1 (n_v vs 0) 5) (w_ei w1 (w_ar ws (n_v vs 0) 2)) (w_fi w1 (n_v vs 2) 5) (w_fi w1 (n_v vs 2) 6) (w_ei w1 (w_ar ws (n_v vs 2) 9)) (w_ei w2 (w_ar ws (n_v vs 0) 2)) (w_ei w2 (w_ar ws (n_v vs 2) 7)) (w_ei w2 (w_ar ws (n_v vs 2) 8)) (w_fi w2 (n_v vs 0) 5) (w_fi w2 (n_v vs 2) 5) (w_fi w2 (n_v vs 2) 6) (w_ei w2 (w_ar ws (n_v vs 2) 9)) (w_ei ws (w_ar ws (n_v vs 0) 2)) (w_ei ws (w_ar ws (n_v vs 0) 3)) (w_ei w1 (w_ar ws (n_v vs 0) 3)) k1 k5 k7 k8 k11 k15 k17 k18 k19 k21 k22 k23 k24 k25 d0 f12 f14 f15 h16 f17 h18 g19 f23 h24 f25 f26 f27 fe_0_5_1 fe_2_5_1 fe_2_6_1 fe_0_5_2 fe_2_5_2 fe_2_6_2 hE_0_2_1 hE_0_2_2 hE_0_3_1 hE_2_7_1 hE_2_7_2 hE_2_8_1 hE_2_8_2 hE_2_9_1 hE_2_9_2 kz_0_5 kz_2_5 kz_2_6
  refine ⟨(fun _ h => (by cases h)), [], trivial, ?_, (fun _ h => (by cases h))⟩
  rw [List.append_nil]
  exact List.forall_mem_cons.mpr ⟨⟨show (20 : Nat) < 100 from by decide, nf0⟩, (fun _ h => (by cases h))⟩
def n_Em_beginBlock_at_gp_an : List an_T := [(20, [(0, (2, 0, 0, [1])), (1, (0, 0, 71, [])), (2, (0, (Int.negSucc 0), 71, [])), (3, (0, (Int.negSucc 2147483647), 2147483647, [])), (4, (0, (Int.negSucc 0), 71, []))], [], (0, 0), [(0, 0, 99980), (2, 7, (Int.negSucc 0)), (0, 0, 100000)], [(1, 4, (Int.negSucc 999999999999), 0), (4, 1, (Int.negSucc 999999999999), 0), (7, 6, (Int.negSucc 999999999999), 2147483718), (8, 5, (Int.negSucc 999999999999), 33554431)], [((0, 5), (0, 0, 33554431, [])), ((0, 0), (2, 0, 0, [149]))], [(2, 0, 0, [1]), (0, 0, 71, []), (2, 0, 0, [149])], 0, [], [(20, [3, 9, 4, 5, 7], [60, 3, 3, 601, 5, 1005, 1006, 2, 1007, 1008]), (20, [9], [60, 2, 3, 595, 5, 6, 7, 8, 9]), (24, [2, 9], []), (24, [0, 3], []), (24, [1, 4], [])])]
def t_Em_beginBlock_at_gp_ct : ct_L := [(1, 170, e_Em_layRing), (588, 166, e_Fa_shortestWay_at_Npnear_Emlevel_Emway), (628, 173, e_Em_drawWay_at_gp)]
set_option maxRecDepth 100000 in
theorem c_Em_beginBlock_at_gp {l : Launch} {D : va_G} {kA : Nat → ClassId} (h_Em_drawWay_at_gp : ct_ok PRD l D kA GG y_Em_drawWay_at_gp z_Em_drawWay_at_gp e_Em_drawWay_at_gp) (h_Em_layRing : ct_ok PRD l D kA GG y_Em_layRing z_Em_layRing e_Em_layRing) (h_Fa_shortestWay_at_Npnear_Emlevel_Emway : ct_ok PRD l D kA GG y_Fa_shortestWay_at_Npnear_Emlevel_Emway z_Fa_shortestWay_at_Npnear_Emlevel_Emway e_Fa_shortestWay_at_Npnear_Emlevel_Emway) : ct_ok PRD l D kA GG y_Em_beginBlock_at_gp z_Em_beginBlock_at_gp e_Em_beginBlock_at_gp := chk_all_ok (FT := [(9, 1, 0), (21, 1, 2), (25, 1, 3), (32, 1, 5), (54, 1, 12), (57, 1, 13), (60, 1, 14), (63, 1, 15), (85, 5, 5), (114, 5, 9), (133, 5, 6), (134, 5, 7), (135, 5, 8)]) (PT := [(32, 1, 5, .int), (39, 1, 7, .int), (63, 1, 15, .int)]) (CT := t_Em_beginBlock_at_gp_ct) (KT := []) (NT := []) (AN := n_Em_beginBlock_at_gp_an) (OT := [o_Em_beginBlock_at_gp_0, o_Em_beginBlock_at_gp_1, o_Em_beginBlock_at_gp_2, o_Em_beginBlock_at_gp_3, o_Em_beginBlock_at_gp_4, o_Em_beginBlock_at_gp_5, o_Em_beginBlock_at_gp_6, o_Em_beginBlock_at_gp_7, o_Em_beginBlock_at_gp_8, o_Em_beginBlock_at_gp_9]) 3 548 (List.forall_mem_cons.mpr ⟨oo_Em_beginBlock_at_gp_0, List.forall_mem_cons.mpr ⟨oo_Em_beginBlock_at_gp_1, List.forall_mem_cons.mpr ⟨oo_Em_beginBlock_at_gp_2, List.forall_mem_cons.mpr ⟨oo_Em_beginBlock_at_gp_3, List.forall_mem_cons.mpr ⟨oo_Em_beginBlock_at_gp_4, List.forall_mem_cons.mpr ⟨oo_Em_beginBlock_at_gp_5, List.forall_mem_cons.mpr ⟨oo_Em_beginBlock_at_gp_6, List.forall_mem_cons.mpr ⟨oo_Em_beginBlock_at_gp_7, List.forall_mem_cons.mpr ⟨oo_Em_beginBlock_at_gp_8, List.forall_mem_cons.mpr ⟨oo_Em_beginBlock_at_gp_9, List.forall_mem_nil _⟩⟩⟩⟩⟩⟩⟩⟩⟩⟩) (by decide +kernel) ⟨List.forall_mem_cons.mpr ⟨gf_Em_9, List.forall_mem_cons.mpr ⟨gf_Em_21, List.forall_mem_cons.mpr ⟨gf_Em_25, List.forall_mem_cons.mpr ⟨gf_Em_32, List.forall_mem_cons.mpr ⟨gf_Em_54, List.forall_mem_cons.mpr ⟨gf_Em_57, List.forall_mem_cons.mpr ⟨gf_Em_60, List.forall_mem_cons.mpr ⟨gf_Em_63, List.forall_mem_cons.mpr ⟨gf_Em_85, List.forall_mem_cons.mpr ⟨gf_Em_114, List.forall_mem_cons.mpr ⟨gf_Em_133, List.forall_mem_cons.mpr ⟨gf_Em_134, List.forall_mem_cons.mpr ⟨gf_Em_135, List.forall_mem_nil _⟩⟩⟩⟩⟩⟩⟩⟩⟩⟩⟩⟩⟩, List.forall_mem_cons.mpr ⟨pf_Em_32, List.forall_mem_cons.mpr ⟨pf_Em_39, List.forall_mem_cons.mpr ⟨pf_Em_63, List.forall_mem_nil _⟩⟩⟩, List.forall_mem_cons.mpr ⟨cl_virtual (y := y_Em_layRing) (ci := 1) rfl rfl ⟨_, _, rfl⟩ (by decide +kernel) h_Em_layRing wm_1081 wm_5 wm_1078 wm_1080 wv_3_8 ⟨by decide, by decide, by decide +kernel⟩ (by decide), List.forall_mem_cons.mpr ⟨cl_static (y := y_Fa_shortestWay_at_Npnear_Emlevel_Emway) h_Fa_shortestWay_at_Npnear_Emlevel_Emway wm_1077 wm_7 wm_1075 wm_1076 ⟨by decide, by decide, by decide +kernel⟩ (by decide), List.forall_mem_cons.mpr ⟨cl_virtual (y := y_Em_drawWay_at_gp) (ci := 1) rfl rfl ⟨_, _, rfl⟩ (by decide +kernel) h_Em_drawWay_at_gp wm_1085 wm_5 wm_1082 wm_1084 wv_3_9 ⟨by decide, by decide, by decide +kernel⟩ (by decide), List.forall_mem_nil _⟩⟩⟩, List.forall_mem_nil _, List.forall_mem_nil _, GG_pl⟩ (by decide +kernel)
set_option maxHeartbeats 4000000 in
theorem vc_Pl_layForces_0_0 (x6 : Int) (placeX_0 : Int → Int) (placeY_0 : Int → Int) (k6 : 0 ≤ x6 ∧ x6 ≤ 0) : FZ0 (placeX_0) (placeY_0) (x6) := by
  first
    | (intro i a b; omega)
    | exact fx0_step ‹FZ0 _ _ _› (by omega) (by omega) (by assumption) (by omega) (by assumption) (by omega) (by omega) (by omega) (by omega) (by omega)
  
def o_Pl_layForces_0 : or_T := (2, 7, [(6, (0, 0, 0, []))], [], [], [], [(20, [0, 6], [60, 0, 2, 544, 15, 16]), (24, [0, 0], [])], [], [])
theorem oo_Pl_layForces_0 {kA : Nat → ClassId} : or_ok PRD kA GG o_Pl_layForces_0 := by
  refine or_mk fun A ta ws vs hD hth hl => ?_
  intro t6 k6
  have nf0 : fc_1 PRD (20, [0, 6], [60, 0, 2, 544, 15, 16]) ws (vs) := ⟨nf_in hl rfl, sgq_1686 (vc_Pl_layForces_0_0 (v_iv (n_v vs 6)) (w_ei ws (w_ar ws (n_v vs 0) 15)) (w_ei ws (w_ar ws (n_v vs 0) 16)) k6)⟩
  have nf1 : fc_1 PRD (24, [0, 0], []) ws (vs) := by
    refine ⟨nf_in hl rfl, sgq_1 ?_⟩
    · show n_v vs 0 = n_v vs 0
      first | rfl | simp only [true_and]
  refine ⟨(fun _ h => (by cases h)), [], trivial, ?_, (fun _ h => (by cases h))⟩
  rw [List.append_nil]
  exact List.forall_mem_cons.mpr ⟨⟨show (20 : Nat) < 100 from by decide, nf0⟩, List.forall_mem_cons.mpr ⟨⟨show (24 : Nat) < 100 from by decide, nf1⟩, (fun _ h => (by cases h))⟩⟩
set_option maxHeartbeats 4000000 in
theorem vc_Pl_layForces_1_0 (x8 : Int) (x11 : Int) (x12 : Int) (nodes_0o9 : Int) (placeX_0 : Int → Int) (placeY_0 : Int → Int) (k8 : 0 ≤ x8 ∧ x8 ≤ 24) (k11 : 0 ≤ x11 ∧ x11 ≤ 24) (k12 : 0 ≤ x12 ∧ x12 ≤ 0) (d0 : x11 + 0 ≤ x8 ∧ x8 ≤ x11 + 4294967296) (g1 : x11 = nodes_0o9) (f2 : FZ0 (placeX_0) (placeY_0) (x8)) (kz_9_0 : 0 ≤ nodes_0o9 ∧ nodes_0o9 ≤ 24) : FZB (nodes_0o9) (placeX_0) (placeY_0) (x12) := by
  first
    | exact fzb_start ‹FZ0 _ _ _› (by omega) (by omega)
    | exact fzb_next ‹FZM _ _ _ _ _› (by omega) (by omega)
  
def o_Pl_layForces_1 : or_T := (55, 13, [(8, (0, 0, 24, [])), (9, (2, 0, 0, [3])), (11, (0, 0, 24, [])), (12, (0, 0, 0, []))], [(9, [11, 9], [0]), (20, [6, 8], [60, 0, 2, 544, 15, 16]), (24, [0, 6], [])], [], [], [(20, [6, 9, 12], [60, 1, 2, 545, 1000, 15, 16])], [], [(8, 11, 0, 4294967296)])
theorem oo_Pl_layForces_1 {kA : Nat → ClassId} : or_ok PRD kA GG o_Pl_layForces_1 := by
  refine or_mk fun A ta ws vs hD hth hl => ?_
  intro t8 k8 t9 r9 t11 k11 t12 k12 d0 f1 f2 f3
  replace f1 := shm_163 f1
  replace f2 := shm_1686 f2
  replace f3 := shm_5 f3
  have q6 : n_v vs 6 = n_v vs 0 := f3.symm
  simp only [q6] at f2
  have g1 : v_iv (n_v vs 11) = w_fi ws (n_v vs 9) 0 := congrArg v_iv f1
  have kz_9_0 := fdq_21 hD hth r9
  have nf0 : fc_1 PRD (20, [6, 9, 12], [60, 1, 2, 545, 1000, 15, 16]) ws (vs) := by
    refine ⟨nf_in hl rfl, sgq_1687 ?_⟩
    · show FZB (w_fi ws (n_v vs 9) 0) (w_ei ws (w_ar ws (n_v vs 6) 15)) (w_ei ws (w_ar ws (n_v vs 6) 16)) (v_iv (n_v vs 12))
      rw [q6]
      exact vc_Pl_layForces_1_0 (v_iv (n_v vs 8)) (v_iv (n_v vs 11)) (v_iv (n_v vs 12)) (w_fi ws (n_v vs 9) 0) (w_ei ws (w_ar ws (n_v vs 0) 15)) (w_ei ws (w_ar ws (n_v vs 0) 16)) k8 k11 k12 d0 g1 f2 kz_9_0
  refine ⟨(fun _ h => (by cases h)), [], trivial, ?_, (fun _ h => (by cases h))⟩
  rw [List.append_nil]
  exact List.forall_mem_cons.mpr ⟨⟨show (20 : Nat) < 100 from by decide, nf0⟩, (fun _ h => (by cases h))⟩
set_option maxHeartbeats 4000000 in
theorem vc_Pl_layForces_2_0 (x8 : Int) (x14 : Int) (x16 : Int) (x18 : Int) (x19 : Int) (x22 : Int) (x24 : Int) (x26 : Int) (x27 : Int) (x28 : Int) (nodes_2o9 : Int) (placeX_2 : Int → Int) (placeY_2 : Int → Int) (nodes_0o9 : Int) (nodes_1o9 : Int) (placeX_0 : Int → Int) (placeX_1 : Int → Int) (placeY_0 : Int → Int) (placeY_1 : Int → Int) (k8 : 0 ≤ x8 ∧ x8 ≤ 23) (k14 : 0 ≤ x14 ∧ x14 ≤ 851) (k16 : 0 ≤ x16 ∧ x16 ≤ 63) (k18 : 0 ≤ x18 ∧ x18 ≤ 4032) (k19 : 0 ≤ x19 ∧ x19 ≤ 4032) (k22 : 0 ≤ x22 ∧ x22 ≤ 1357) (k24 : 0 ≤ x24 ∧ x24 ≤ 63) (k26 : 0 ≤ x26 ∧ x26 ≤ 4032) (k27 : 0 ≤ x27 ∧ x27 ≤ 4032) (k28 : 1 ≤ x28 ∧ x28 ≤ 24) (d0 : x8 + 1 ≤ x28 ∧ x28 ≤ x8 + 1) (f0 : x28 = x8 + 1) (f1 : x27 = x26) (f2 : x19 = x18) (f6 : x26 = x24 * 64) (f7 : x24 = x22 % 64) (f8 : x22 = x8 * 59) (f13 : x18 = x16 * 64) (f14 : x16 = x14 % 64) (f15 : x14 = x8 * 37) (f19 : FZ0 (placeX_2) (placeY_2) (x8)) (fe_9_0_1 : nodes_0o9 = nodes_1o9) (fe_9_0_2 : nodes_1o9 = nodes_2o9) (hE_0_15_1 : ∀ j : Int, placeX_0 j = placeX_1 j) (hE_0_15_2 : ∀ j : Int, 0 ≤ j → (j = x8 → placeX_1 j = x19) ∧ (j ≠ x8 → placeX_1 j = placeX_2 j)) (hE_0_16_1 : ∀ j : Int, 0 ≤ j → (j = x8 → placeY_0 j = x27) ∧ (j ≠ x8 → placeY_0 j = placeY_1 j)) (hE_0_16_2 : ∀ j : Int, placeY_1 j = placeY_2 j) (kz_9_0 : 0 ≤ nodes_0o9 ∧ nodes_0o9 ≤ 24) : FZ0 (placeX_0) (placeY_0) (x28) := by
  subst fe_9_0_1
  subst fe_9_0_2
  have e_hE_0_15_1 := funext hE_0_15_1; subst e_hE_0_15_1
  have e_hE_0_16_2 := funext hE_0_16_2; subst e_hE_0_16_2
  first
    | (intro i a b; omega)
    | exact fx0_step ‹FZ0 _ _ _› (by omega) (by omega) (by assumption) (by omega) (by assumption) (by omega) (by omega) (by omega) (by omega) (by omega)
  
def o_Pl_layForces_2 : or_T := (2, 29, [(0, (2, 0, 0, [6])), (8, (0, 0, 23, [])), (9, (2, 0, 0, [3])), (12, (2, 0, 0, [98])), (13, (0, 37, 37, [])), (14, (0, 0, 851, [])), (16, (0, 0, 63, [])), (17, (0, 64, 64, [])), (18, (0, 0, 4032, [])), (19, (1, 0, 4032, [])), (20, (2, 0, 0, [99])), (21, (0, 59, 59, [])), (22, (0, 0, 1357, [])), (24, (0, 0, 63, [])), (25, (0, 64, 64, [])), (26, (0, 0, 4032, [])), (27, (1, 0, 4032, [])), (28, (0, 1, 24, []))], [(6, [28, 8], [1]), (22, [27, 26], []), (22, [19, 18], []), (24, [0, 6], []), (100, [20, 8, 27], []), (3, [26, 24, 25], []), (12, [24, 22], [64]), (3, [22, 8, 21], []), (9, [20, 6], [16]), (100, [12, 8, 19], []), (3, [18, 16, 17], []), (12, [16, 14], [64]), (3, [14, 8, 13], []), (9, [12, 6], [15]), (20, [6, 8], [60, 0, 2, 544, 15, 16])], [], [], [(20, [6, 28], [60, 0, 2, 544, 15, 16])], [], [(28, 8, 1, 1), (8, 11, -4294967296, -1)])
theorem oo_Pl_layForces_2 {kA : Nat → ClassId} : or_ok PRD kA GG o_Pl_layForces_2 := by
  refine or_mk fun A ta ws vs hD hth hl => ?_
  intro t0 r0 t8 k8 t9 r9 t12 r12 t13 k13 t14 k14 t16 k16 t17 k17 t18 k18 t19 k19 t20 r20 t21 k21 t22 k22 t24 k24 t25 k25 t26 k26 t27 k27 t28 k28 d0 d2 f0 f1 f2 f3 ta1 w1 le1 s1 f6 f7 f8 f9 ta2 w2 le2 s2 f13 f14 f15 f16 f19
  replace f0 := shm_4 f0
  replace f1 := shm_47 f1
  replace f2 := shm_47 f2
  replace f3 := shm_5 f3
  have s1 : (∀ b j, w_el ws b j = if b = v_ad (n_v vs 20) ∧ j = (v_iv (n_v vs 8)).toNat then v_iv (n_v vs 27) else w_el w1 b j) ∧ ∀ b k, w_fd ws b k = w_fd w1 b k := s1.2
  replace f6 := shm_38 f6
  rw [show v_iv (n_v vs 25) = 64 from by omega] at f6
  replace f7 := shm_10 f7
  replace f8 := shm_38 f8
  rw [show v_iv (n_v vs 21) = 59 from by omega] at f8
  replace f9 := shm_176 f9
  have s2 : (∀ b j, w_el w1 b j = if b = v_ad (n_v vs 12) ∧ j = (v_iv (n_v vs 8)).toNat then v_iv (n_v vs 19) else w_el w2 b j) ∧ ∀ b k, w_fd w1 b k = w_fd w2 b k := s2.2
  replace f13 := shm_38 f13
  rw [show v_iv (n_v vs 17) = 64 from by omega] at f13
  replace f14 := shm_10 f14
  replace f15 := shm_38 f15
  rw [show v_iv (n_v vs 13) = 37 from by omega] at f15
  replace f16 := shm_177 f16
  replace f19 := shm_1686 f19
  have q6 : n_v vs 6 = n_v vs 0 := f3.symm
  simp only [q6] at f9 f16 f19
  have ar_0_15_1 : w_ar w1 (n_v vs 0) 15 = w_ar ws (n_v vs 0) 15 := congrArg v_ad (s1.2 _ _).symm
  have ar_0_15_2 : w_ar w2 (n_v vs 0) 15 = w_ar ws (n_v vs 0) 15 := by rw [← ar_0_15_1]; show v_ad (w_fd w2 _ _) = v_ad (w_fd w1 _ _); rw [s2.2]
  have cr_0_15 := fdq_23 hD hth r0
  have ar_0_16_1 : w_ar w1 (n_v vs 0) 16 = w_ar ws (n_v vs 0) 16 := congrArg v_ad (s1.2 _ _).symm
  have ar_0_16_2 : w_ar w2 (n_v vs 0) 16 = w_ar ws (n_v vs 0) 16 := by rw [← ar_0_16_1]; show v_ad (w_fd w2 _ _) = v_ad (w_fd w1 _ _); rw [s2.2]
  have cr_0_16 := fdq_24 hD hth r0
  have ad_20 : v_ad (n_v vs 20) = w_ar ws (n_v vs 0) 16 := (congrArg v_ad f9).trans ar_0_16_1
  have ad_12 : v_ad (n_v vs 12) = w_ar ws (n_v vs 0) 15 := (congrArg v_ad f16).trans ar_0_15_2
  simp only [ar_0_15_2, ar_0_16_2] at f19
  have fe_9_0_1 : w_fi ws (n_v vs 9) 0 = w_fi w1 (n_v vs 9) 0 := congrArg v_iv (s1.2 _ _)
  have fe_9_0_2 : w_fi w1 (n_v vs 9) 0 = w_fi w2 (n_v vs 9) 0 := congrArg v_iv (s2.2 _ _)
  have hE_0_15_1 : ∀ j : Int, w_ei ws (w_ar ws (n_v vs 0) 15) j = w_ei w1 (w_ar ws (n_v vs 0) 15) j := el_kp s1.1 r20 cr_0_15 (by decide)
  have hE_0_15_2 : ∀ j : Int, 0 ≤ j → (j = v_iv (n_v vs 8) → w_ei w1 (w_ar ws (n_v vs 0) 15) j = v_iv (n_v vs 19)) ∧ (j ≠ v_iv (n_v vs 8) → w_ei w1 (w_ar ws (n_v vs 0) 15) j = w_ei w2 (w_ar ws (n_v vs 0) 15) j) := fun j hj => ⟨fun h => by unfold w_ei; rw [s2.1, if_pos ⟨ad_12.symm, by rw [h]⟩], fun h => by unfold w_ei; rw [s2.1, if_neg (fun e => h (by have := e.2; omega))]⟩
  have hE_0_16_1 : ∀ j : Int, 0 ≤ j → (j = v_iv (n_v vs 8) → w_ei ws (w_ar ws (n_v vs 0) 16) j = v_iv (n_v vs 27)) ∧ (j ≠ v_iv (n_v vs 8) → w_ei ws (w_ar ws (n_v vs 0) 16) j = w_ei w1 (w_ar ws (n_v vs 0) 16) j) := fun j hj => ⟨fun h => by unfold w_ei; rw [s1.1, if_pos ⟨ad_20.symm, by rw [h]⟩], fun h => by unfold w_ei; rw [s1.1, if_neg (fun e => h (by have := e.2; omega))]⟩
  have hE_0_16_2 : ∀ j : Int, w_ei w1 (w_ar ws (n_v vs 0) 16) j = w_ei w2 (w_ar ws (n_v vs 0) 16) j := el_kp s2.1 r12 cr_0_16 (by decide)
  have kz_9_0 := fdq_21 hD hth r9
  have nf0 : fc_1 PRD (20, [6, 28], [60, 0, 2, 544, 15, 16]) ws (vs) := by
    refine ⟨nf_in hl rfl, sgq_1686 ?_⟩
    · show FZ0 (w_ei ws (w_ar ws (n_v vs 6) 15)) (w_ei ws (w_ar ws (n_v vs 6) 16)) (v_iv (n_v vs 28))
      rw [q6]
      exact vc_Pl_layForces_2_0 (v_iv (n_v vs 8)) (v_iv (n_v vs 14)) (v_iv (n_v vs 16)) (v_iv (n_v vs 18)) (v_iv (n_v vs 19)) (v_iv (n_v vs 22)) (v_iv (n_v vs 24)) (v_iv (n_v vs 26)) (v_iv (n_v vs 27)) (v_iv (n_v vs 28)) (w_fi w2 (n_v vs 9) 0) (w_ei w2 (w_ar ws (n_v vs 0) 15)) (w_ei w2 (w_ar ws (n_v vs 0) 16)) (w_fi ws (n_v vs 9) 0) (w_fi w1 (n_v vs 9) 0) (w_ei ws (w_ar ws (n_v vs 0) 15)) (w_ei w1 (w_ar ws (n_v vs 0) 15)) (w_ei ws (w_ar ws (n_v vs 0) 16)) (w_ei w1 (w_ar ws (n_v vs 0) 16)) k8 k14 k16 k18 k19 k22 k24 k26 k27 k28 d0 f0 f1 f2 f6 f7 f8 f13 f14 f15 f19 fe_9_0_1 fe_9_0_2 hE_0_15_1 hE_0_15_2 hE_0_16_1 hE_0_16_2 kz_9_0
  refine ⟨(fun _ h => (by cases h)), [], trivial, ?_, (fun _ h => (by cases h))⟩
  rw [List.append_nil]
  exact List.forall_mem_cons.mpr ⟨⟨show (20 : Nat) < 100 from by decide, nf0⟩, (fun _ h => (by cases h))⟩
set_option maxHeartbeats 4000000 in
theorem vc_Pl_layForces_3_0 (x8 : Int) (x18 : Int) (placeX_0 : Int → Int) (placeY_0 : Int → Int) (nodes_0o9 : Int) (k8 : 0 ≤ x8 ∧ x8 ≤ 199) (k18 : 0 ≤ x18 ∧ x18 ≤ 0) (f4 : FZB (nodes_0o9) (placeX_0) (placeY_0) (x8)) (kz_9_0 : 0 ≤ nodes_0o9 ∧ nodes_0o9 ≤ 24) : FZM (nodes_0o9) (placeX_0) (placeY_0) (x8) (x18) := by
  first
    | exact fzm_start ‹FZB _ _ _ _› (by omega)
    | exact fzm_step ‹FZM _ _ _ _ _› (by omega) (by omega) (by omega) (by omega) (by assumption) (by omega) (by assumption) (by omega) (by omega) (by omega) (by omega) (by omega)
def o_Pl_layForces_3 : or_T := (79, 19, [(8, (0, 0, 199, [])), (9, (2, 0, 0, [3])), (18, (0, 0, 0, []))], [(20, [6, 9, 8], [60, 1, 2, 545, 1000, 15, 16]), (24, [0, 6], [])], [], [], [(20, [6, 9, 8, 18], [60, 1, 2, 546, 1000, 15, 16])], [], [])
theorem oo_Pl_layForces_3 {kA : Nat → ClassId} : or_ok PRD kA GG o_Pl_layForces_3 := by
  refine or_mk fun A ta ws vs hD hth hl => ?_
  intro t8 k8 t9 r9 t18 k18 f4 f5
  replace f4 := shm_1687 f4
  replace f5 := shm_5 f5
  have q6 : n_v vs 6 = n_v vs 0 := f5.symm
  simp only [q6] at f4
  have kz_9_0 := fdq_21 hD hth r9
  have nf0 : fc_1 PRD (20, [6, 9, 8, 18], [60, 1, 2, 546, 1000, 15, 16]) ws (vs) := by
    refine ⟨nf_in hl rfl, sgq_1689 ?_⟩
    · show FZM (w_fi ws (n_v vs 9) 0) (w_ei ws (w_ar ws (n_v vs 6) 15)) (w_ei ws (w_ar ws (n_v vs 6) 16)) (v_iv (n_v vs 8)) (v_iv (n_v vs 18))
      rw [q6]
      exact vc_Pl_layForces_3_0 (v_iv (n_v vs 8)) (v_iv (n_v vs 18)) (w_ei ws (w_ar ws (n_v vs 0) 15)) (w_ei ws (w_ar ws (n_v vs 0) 16)) (w_fi ws (n_v vs 9) 0) k8 k18 f4 kz_9_0
  refine ⟨(fun _ h => (by cases h)), [], trivial, ?_, (fun _ h => (by cases h))⟩
  rw [List.append_nil]
  exact List.forall_mem_cons.mpr ⟨⟨show (20 : Nat) < 100 from by decide, nf0⟩, (fun _ h => (by cases h))⟩
set_option maxHeartbeats 4000000 in
theorem vc_Pl_layForces_4_0 (x8 : Int) (x10 : Int) (x13 : Int) (x14 : Int) (nodes_0o11 : Int) (placeX_0 : Int → Int) (placeY_0 : Int → Int) (k8 : 0 ≤ x8 ∧ x8 ≤ 199) (k10 : 0 ≤ x10 ∧ x10 ≤ 24) (k13 : 0 ≤ x13 ∧ x13 ≤ 24) (k14 : 1 ≤ x14 ∧ x14 ≤ 200) (d1 : x13 + 0 ≤ x10 ∧ x10 ≤ x13 + 4294967296) (f0 : x14 = x8 + 1) (g2 : x13 = nodes_0o11) (f3 : FZM (nodes_0o11) (placeX_0) (placeY_0) (x8) (x10)) (kz_11_0 : 0 ≤ nodes_0o11 ∧ nodes_0o11 ≤ 24) : FZB (nodes_0o11) (placeX_0) (placeY_0) (x14) := by
  first
    | exact fzb_start ‹FZ0 _ _ _› (by omega) (by omega)
    | exact fzb_next ‹FZM _ _ _ _ _› (by omega) (by omega)
  
def o_Pl_layForces_4 : or_T := (55, 15, [(8, (0, 0, 199, [])), (10, (0, 0, 24, [])), (11, (2, 0, 0, [3])), (13, (0, 0, 24, [])), (14, (0, 1, 200, []))], [(6, [14, 8], [1]), (9, [13, 11], [0]), (20, [6, 11, 8, 10], [60, 1, 2, 546, 1000, 15, 16]), (24, [0, 6], [])], [], [], [(20, [6, 11, 14], [60, 1, 2, 545, 1000, 15, 16])], [], [(10, 13, 0, 4294967296)])
theorem oo_Pl_layForces_4 {kA : Nat → ClassId} : or_ok PRD kA GG o_Pl_layForces_4 := by
  refine or_mk fun A ta ws vs hD hth hl => ?_
  intro t8 k8 t10 k10 t11 r11 t13 k13 t14 k14 d1 f0 f2 f3 f4
  replace f0 := shm_4 f0
  replace f2 := shm_163 f2
  replace f3 := shm_1689 f3
  replace f4 := shm_5 f4
  have q6 : n_v vs 6 = n_v vs 0 := f4.symm
  simp only [q6] at f3
  have g2 : v_iv (n_v vs 13) = w_fi ws (n_v vs 11) 0 := congrArg v_iv f2
  have kz_11_0 := fdq_21 hD hth r11
  have nf0 : fc_1 PRD (20, [6, 11, 14], [60, 1, 2, 545, 1000, 15, 16]) ws (vs) := by
    refine ⟨nf_in hl rfl, sgq_1687 ?_⟩
    · show FZB (w_fi ws (n_v vs 11) 0) (w_ei ws (w_ar ws (n_v vs 6) 15)) (w_ei ws (w_ar ws (n_v vs 6) 16)) (v_iv (n_v vs 14))
      rw [q6]
      exact vc_Pl_layForces_4_0 (v_iv (n_v vs 8)) (v_iv (n_v vs 10)) (v_iv (n_v vs 13)) (v_iv (n_v vs 14)) (w_fi ws (n_v vs 11) 0) (w_ei ws (w_ar ws (n_v vs 0) 15)) (w_ei ws (w_ar ws (n_v vs 0) 16)) k8 k10 k13 k14 d1 f0 g2 f3 kz_11_0
  refine ⟨(fun _ h => (by cases h)), [], trivial, ?_, (fun _ h => (by cases h))⟩
  rw [List.append_nil]
  exact List.forall_mem_cons.mpr ⟨⟨show (20 : Nat) < 100 from by decide, nf0⟩, (fun _ h => (by cases h))⟩
set_option maxHeartbeats 4000000 in
theorem vc_Pl_layForces_5_r0 (x8 : Int) (x10 : Int) (x13 : Int) (x15 : Int) (placeX_0 : Int → Int) (nodes_0o11 : Int) (placeY_0 : Int → Int) (k8 : 0 ≤ x8 ∧ x8 ≤ 199) (k10 : 0 ≤ x10 ∧ x10 ≤ 23) (k13 : 1 ≤ x13 ∧ x13 ≤ 24) (k15 : (-60000) ≤ x15 ∧ x15 ≤ 60000) (d0 : x13 + (-4294967296) ≤ x10 ∧ x10 ≤ x13 + (-1)) (h0 : x15 = placeX_0 (x10)) (g3 : x13 = nodes_0o11) (f4 : FZM (nodes_0o11) (placeX_0) (placeY_0) (x8) (x10)) (kz_11_0 : 0 ≤ nodes_0o11 ∧ nodes_0o11 ≤ 24) : (-55296) ≤ x15 ∧ x15 ≤ 55296 := by
  first
    | omega
    | (skip; (first | subst h0 | skip); have q := (‹FZM _ _ _ _ _›).2 x10 (by omega) (by omega); omega)
  
def o_Pl_layForces_5 : or_T := (115, 21, [(0, (2, 0, 0, [6])), (6, (2, 0, 0, [6])), (8, (0, 0, 199, [])), (10, (0, 0, 23, [])), (11, (2, 0, 0, [3])), (13, (0, 1, 24, [])), (14, (2, 0, 0, [98])), (15, (1, -60000, 60000, []))], [(10, [15, 14, 10], []), (9, [14, 6], [15]), (7, [10, 13], [2]), (9, [13, 11], [0]), (20, [6, 11, 8, 10], [60, 1, 2, 546, 1000, 15, 16]), (24, [0, 6], [])], [(15, (1, -55296, 55296, []))], [], [], [], [(10, 13, -4294967296, -1)])
theorem oo_Pl_layForces_5 {kA : Nat → ClassId} : or_ok PRD kA GG o_Pl_layForces_5 := by
  refine or_mk fun A ta ws vs hD hth hl => ?_
  intro t0 r0 t6 r6 t8 k8 t10 k10 t11 r11 t13 k13 t14 r14 t15 k15 d0 f0 f1 f2 f3 f4 f5
  replace f0 := shm_107 f0
  replace f1 := shm_177 f1
  replace f3 := shm_163 f3
  replace f4 := shm_1689 f4
  replace f5 := shm_5 f5
  have q6 : n_v vs 6 = n_v vs 0 := f5.symm
  simp only [q6] at f1 f4
  have ad_14 : v_ad (n_v vs 14) = w_ar ws (n_v vs 0) 15 := congrArg v_ad f1
  simp only [ad_14] at f0
  have h0 : v_iv (n_v vs 15) = w_ei ws (w_ar ws (n_v vs 0) 15) (v_iv (n_v vs 10)) := f0
  have g3 : v_iv (n_v vs 13) = w_fi ws (n_v vs 11) 0 := congrArg v_iv f3
  have kz_11_0 := fdq_21 hD hth r11
  have hrf0 : (-55296) ≤ v_iv (n_v vs 15) ∧ v_iv (n_v vs 15) ≤ 55296 := vc_Pl_layForces_5_r0 (v_iv (n_v vs 8)) (v_iv (n_v vs 10)) (v_iv (n_v vs 13)) (v_iv (n_v vs 15)) (w_ei ws (w_ar ws (n_v vs 0) 15)) (w_fi ws (n_v vs 11) 0) (w_ei ws (w_ar ws (n_v vs 0) 16)) k8 k10 k13 k15 d0 h0 g3 f4 kz_11_0
  have rf15 : tv_ok ta (1, -55296, 55296, []) (n_v vs 15) := tv_inL t15 (by first | omega | grind) (by first | omega | grind)
  refine ⟨List.forall_mem_cons.mpr ⟨rf15, (fun _ h => (by cases h))⟩, [], trivial, ?_, (fun _ h => (by cases h))⟩
  rw [List.append_nil]
  exact (fun _ h => (by cases h))
set_option maxHeartbeats 4000000 in
theorem vc_Pl_layForces_6_r0 (x8 : Int) (x10 : Int) (x13 : Int) (x15 : Int) (x18 : Int) (x23 : Int) (x26 : Int) (pullY_0 : Int → Int) (placeY_0 : Int → Int) (pullX_1 : Int → Int) (placeX_1 : Int → Int) (nodes_1o11 : Int) (placeY_1 : Int → Int) (nodes_0o11 : Int) (pullX_0 : Int → Int) (pullY_1 : Int → Int) (k8 : 0 ≤ x8 ∧ x8 ≤ 199) (k10 : 0 ≤ x10 ∧ x10 ≤ 23) (k13 : 1 ≤ x13 ∧ x13 ≤ 24) (k15 : (-55296) ≤ x15 ∧ x15 ≤ 55296) (k18 : (-9223372036854775808) ≤ x18 ∧ x18 ≤ 9223372036854775807) (k23 : (-60000) ≤ x23 ∧ x23 ≤ 60000) (k26 : (-9223372036854775808) ≤ x26 ∧ x26 ≤ 9223372036854775807) (d0 : x13 + (-4294967296) ≤ x10 ∧ x10 ≤ x13 + (-1)) (h4 : x26 = pullY_0 (x10)) (h7 : x23 = placeY_0 (x10)) (h20 : x18 = pullX_1 (x10)) (h23 : x15 = placeX_1 (x10)) (g26 : x13 = nodes_1o11) (f27 : FZM (nodes_1o11) (placeX_1) (placeY_1) (x8) (x10)) (fe_11_0_1 : nodes_0o11 = nodes_1o11) (hE_0_16_1 : ∀ j : Int, placeY_0 j = placeY_1 j) (hE_0_17_1 : ∀ j : Int, pullX_0 j = pullX_1 j) (hE_0_18_1 : ∀ j : Int, pullY_0 j = pullY_1 j) (kz_11_0 : 0 ≤ nodes_0o11 ∧ nodes_0o11 ≤ 24) : (-55296) ≤ x23 ∧ x23 ≤ 55296 := by
  subst fe_11_0_1
  have e_hE_0_16_1 := funext hE_0_16_1; subst e_hE_0_16_1
  have e_hE_0_17_1 := funext hE_0_17_1; subst e_hE_0_17_1
  have e_hE_0_18_1 := funext hE_0_18_1; subst e_hE_0_18_1
  first
    | omega
    | (skip; (first | subst h4 | skip); (first | subst h7 | skip); (first | subst h20 | skip); (first | subst h23 | skip); have q := (‹FZM _ _ _ _ _›).2 x10 (by omega) (by omega); omega)
  
def o_Pl_layForces_6 : or_T := (141, 29, [(0, (2, 0, 0, [6])), (6, (2, 0, 0, [6])), (8, (0, 0, 199, [])), (9, (1, 0, 256, [])), (10, (0, 0, 23, [])), (11, (2, 0, 0, [3])), (13, (0, 1, 24, [])), (14, (2, 0, 0, [98])), (15, (1, -55296, 55296, [])), (16, (1, -256, 0, [])), (17, (2, 0, 0, [100])), (18, (1, -9223372036854775808, 9223372036854775807, [])), (19, (1, -9223372036854775808, 256, [])), (20, (1, -256, 256, [])), (21, (1, -55552, 55552, [])), (22, (2, 0, 0, [99])), (23, (1, -60000, 60000, [])), (24, (1, -256, 0, [])), (25, (2, 0, 0, [101])), (26, (1, -9223372036854775808, 9223372036854775807, [])), (27, (1, -9223372036854775808, 256, [])), (28, (1, -256, 256, []))], [(23, [24, 28], [0, 1, -1]), (23, [27, 28], [0, 1, -1]), (23, [9, 27], [0, -1, 1]), (23, [26, 27], [0, -1, 1]), (10, [26, 25, 10], []), (9, [25, 6], [18]), (15, [24, 9], [-1]), (10, [23, 22, 10], []), (9, [22, 6], [16]), (23, [16, 20], [0, 1, -1]), (23, [19, 20], [0, 1, -1]), (23, [9, 19], [0, -1, 1]), (23, [18, 19], [0, -1, 1]), (24, [0, 6], []), (100, [14, 10, 21], []), (1, [21, 15, 20], []), (23, [16, 20], [0, 1, -1]), (23, [19, 20], [0, 1, -1]), (23, [9, 19], [0, -1, 1]), (23, [18, 19], [0, -1, 1]), (10, [18, 17, 10], []), (9, [17, 6], [17]), (15, [16, 9], [-1]), (10, [15, 14, 10], []), (9, [14, 6], [15]), (7, [10, 13], [2]), (9, [13, 11], [0]), (20, [6, 11, 8, 10], [60, 1, 2, 546, 1000, 15, 16])], [(23, (1, -55296, 55296, []))], [], [], [], [(10, 13, -4294967296, -1)])
theorem oo_Pl_layForces_6 {kA : Nat → ClassId} : or_ok PRD kA GG o_Pl_layForces_6 := by
  refine or_mk fun A ta ws vs hD hth hl => ?_
  intro t0 r0 t6 r6 t8 k8 t9 k9 t10 k10 t11 r11 t13 k13 t14 r14 t15 k15 t16 k16 t17 r17 t18 k18 t19 k19 t20 k20 t21 k21 t22 r22 t23 k23 t24 k24 t25 r25 t26 k26 t27 k27 t28 k28 d0 f0 f1 f2 f3 f4 f5 f6 f7 f8 f9 f10 f11 f12 f13 ta1 w1 le1 s1 f15 f16 f17 f18 f19 f20 f21 f22 f23 f24 f25 f26 f27
  replace f4 := shm_107 f4
  replace f5 := shm_799 f5
  replace f7 := shm_107 f7
  replace f8 := shm_176 f8
  replace f13 := shm_5 f13
  have s1 : (∀ b j, w_el ws b j = if b = v_ad (n_v vs 14) ∧ j = (v_iv (n_v vs 10)).toNat then v_iv (n_v vs 21) else w_el w1 b j) ∧ ∀ b k, w_fd ws b k = w_fd w1 b k := s1.2
  replace f20 := shm_107 f20
  replace f21 := shm_795 f21
  replace f23 := shm_107 f23
  replace f24 := shm_177 f24
  replace f26 := shm_163 f26
  replace f27 := shm_1689 f27
  have q6 : n_v vs 6 = n_v vs 0 := f13.symm
  simp only [q6] at f5 f8 f21 f24 f27
  have ar_0_15_1 : w_ar w1 (n_v vs 0) 15 = w_ar ws (n_v vs 0) 15 := congrArg v_ad (s1.2 _ _).symm
  have ar_0_16_1 : w_ar w1 (n_v vs 0) 16 = w_ar ws (n_v vs 0) 16 := congrArg v_ad (s1.2 _ _).symm
  have cr_0_16 := fdq_24 hD hth r0
  have ar_0_17_1 : w_ar w1 (n_v vs 0) 17 = w_ar ws (n_v vs 0) 17 := congrArg v_ad (s1.2 _ _).symm
  have cr_0_17 := fdq_304 hD hth r0
  have cr_0_18 := fdq_305 hD hth r0
  have ad_25 : v_ad (n_v vs 25) = w_ar ws (n_v vs 0) 18 := congrArg v_ad f5
  have ad_22 : v_ad (n_v vs 22) = w_ar ws (n_v vs 0) 16 := congrArg v_ad f8
  have ad_17 : v_ad (n_v vs 17) = w_ar ws (n_v vs 0) 17 := (congrArg v_ad f21).trans ar_0_17_1
  have ad_14 : v_ad (n_v vs 14) = w_ar ws (n_v vs 0) 15 := (congrArg v_ad f24).trans ar_0_15_1
  simp only [ad_25] at f4
  have h4 : v_iv (n_v vs 26) = w_ei ws (w_ar ws (n_v vs 0) 18) (v_iv (n_v vs 10)) := f4
  simp only [ad_22] at f7
  have h7 : v_iv (n_v vs 23) = w_ei ws (w_ar ws (n_v vs 0) 16) (v_iv (n_v vs 10)) := f7
  simp only [ad_17] at f20
  have h20 : v_iv (n_v vs 18) = w_ei w1 (w_ar ws (n_v vs 0) 17) (v_iv (n_v vs 10)) := f20
  simp only [ad_14] at f23
  have h23 : v_iv (n_v vs 15) = w_ei w1 (w_ar ws (n_v vs 0) 15) (v_iv (n_v vs 10)) := f23
  have g26 : v_iv (n_v vs 13) = w_fi w1 (n_v vs 11) 0 := congrArg v_iv f26
  simp only [ar_0_15_1, ar_0_16_1] at f27
  have fe_11_0_1 : w_fi ws (n_v vs 11) 0 = w_fi w1 (n_v vs 11) 0 := congrArg v_iv (s1.2 _ _)
  have hE_0_16_1 : ∀ j : Int, w_ei ws (w_ar ws (n_v vs 0) 16) j = w_ei w1 (w_ar ws (n_v vs 0) 16) j := el_kp s1.1 r14 cr_0_16 (by decide)
  have hE_0_17_1 : ∀ j : Int, w_ei ws (w_ar ws (n_v vs 0) 17) j = w_ei w1 (w_ar ws (n_v vs 0) 17) j := el_kp s1.1 r14 cr_0_17 (by decide)
  have hE_0_18_1 : ∀ j : Int, w_ei ws (w_ar ws (n_v vs 0) 18) j = w_ei w1 (w_ar ws (n_v vs 0) 18) j := el_kp s1.1 r14 cr_0_18 (by decide)
  have kz_11_0 := fdq_21 hD hth r11
  have hrf0 : (-55296) ≤ v_iv (n_v vs 23) ∧ v_iv (n_v vs 23) ≤ 55296 := vc_Pl_layForces_6_r0 (v_iv (n_v vs 8)) (v_iv (n_v vs 10)) (v_iv (n_v vs 13)) (v_iv (n_v vs 15)) (v_iv (n_v vs 18)) (v_iv (n_v vs 23)) (v_iv (n_v vs 26)) (w_ei ws (w_ar ws (n_v vs 0) 18)) (w_ei ws (w_ar ws (n_v vs 0) 16)) (w_ei w1 (w_ar ws (n_v vs 0) 17)) (w_ei w1 (w_ar ws (n_v vs 0) 15)) (w_fi w1 (n_v vs 11) 0) (w_ei w1 (w_ar ws (n_v vs 0) 16)) (w_fi ws (n_v vs 11) 0) (w_ei ws (w_ar ws (n_v vs 0) 17)) (w_ei w1 (w_ar ws (n_v vs 0) 18)) k8 k10 k13 k15 k18 k23 k26 d0 h4 h7 h20 h23 g26 f27 fe_11_0_1 hE_0_16_1 hE_0_17_1 hE_0_18_1 kz_11_0
  have rf23 : tv_ok ta (1, -55296, 55296, []) (n_v vs 23) := tv_inL t23 (by first | omega | grind) (by first | omega | grind)
  refine ⟨List.forall_mem_cons.mpr ⟨rf23, (fun _ h => (by cases h))⟩, [], trivial, ?_, (fun _ h => (by cases h))⟩
  rw [List.append_nil]
  exact (fun _ h => (by cases h))
set_option maxHeartbeats 4000000 in
theorem vc_Pl_layForces_7_0 (x8 : Int) (x10 : Int) (x13 : Int) (x15 : Int) (x20 : Int) (x21 : Int) (x23 : Int) (x28 : Int) (x29 : Int) (x30 : Int) (pullY_1 : Int → Int) (placeY_1 : Int → Int) (pullX_2 : Int → Int) (placeX_2 : Int → Int) (nodes_2o11 : Int) (placeY_2 : Int → Int) (nodes_0o11 : Int) (nodes_1o11 : Int) (placeX_0 : Int → Int) (placeX_1 : Int → Int) (placeY_0 : Int → Int) (pullX_0 : Int → Int) (pullX_1 : Int → Int) (pullY_0 : Int → Int) (pullY_2 : Int → Int) (k8 : 0 ≤ x8 ∧ x8 ≤ 199) (k10 : 0 ≤ x10 ∧ x10 ≤ 23) (k13 : 1 ≤ x13 ∧ x13 ≤ 24) (k15 : (-55296) ≤ x15 ∧ x15 ≤ 55296) (k20 : (-256) ≤ x20 ∧ x20 ≤ 256) (k21 : (-55552) ≤ x21 ∧ x21 ≤ 55552) (k23 : (-55296) ≤ x23 ∧ x23 ≤ 55296) (k28 : (-256) ≤ x28 ∧ x28 ≤ 256) (k29 : (-55552) ≤ x29 ∧ x29 ≤ 55552) (k30 : 1 ≤ x30 ∧ x30 ≤ 24) (d0 : x10 + 1 ≤ x30 ∧ x30 ≤ x10 + 1) (d1 : x13 + (-4294967296) ≤ x30 ∧ x30 ≤ x13 + 0) (d2 : x13 + (-4294967296) ≤ x10 ∧ x10 ≤ x13 + (-1)) (f0 : x30 = x10 + 1) (f11 : x29 = x23 + x28) (h19 : x23 = placeY_1 (x10)) (f26 : x21 = x15 + x20) (h34 : x15 = placeX_2 (x10)) (g37 : x13 = nodes_2o11) (f38 : FZM (nodes_2o11) (placeX_2) (placeY_2) (x8) (x10)) (fe_11_0_1 : nodes_0o11 = nodes_1o11) (fe_11_0_2 : nodes_1o11 = nodes_2o11) (hE_0_15_1 : ∀ j : Int, placeX_0 j = placeX_1 j) (hE_0_15_2 : ∀ j : Int, 0 ≤ j → (j = x10 → placeX_1 j = x21) ∧ (j ≠ x10 → placeX_1 j = placeX_2 j)) (hE_0_16_1 : ∀ j : Int, 0 ≤ j → (j = x10 → placeY_0 j = x29) ∧ (j ≠ x10 → placeY_0 j = placeY_1 j)) (hE_0_16_2 : ∀ j : Int, placeY_1 j = placeY_2 j) (hE_0_17_1 : ∀ j : Int, pullX_0 j = pullX_1 j) (hE_0_17_2 : ∀ j : Int, pullX_1 j = pullX_2 j) (hE_0_18_1 : ∀ j : Int, pullY_0 j = pullY_1 j) (hE_0_18_2 : ∀ j : Int, pullY_1 j = pullY_2 j) (kz_11_0 : 0 ≤ nodes_0o11 ∧ nodes_0o11 ≤ 24) : FZM (nodes_0o11) (placeX_0) (placeY_0) (x8) (x30) := by
  subst fe_11_0_1
  subst fe_11_0_2
  have e_hE_0_15_1 := funext hE_0_15_1; subst e_hE_0_15_1
  have e_hE_0_16_2 := funext hE_0_16_2; subst e_hE_0_16_2
  have e_hE_0_17_1 := funext hE_0_17_1; subst e_hE_0_17_1
  have e_hE_0_17_2 := funext hE_0_17_2; subst e_hE_0_17_2
  have e_hE_0_18_1 := funext hE_0_18_1; subst e_hE_0_18_1
  have e_hE_0_18_2 := funext hE_0_18_2; subst e_hE_0_18_2
  first
    | exact fzm_start ‹FZB _ _ _ _› (by omega)
    | exact fzm_step ‹FZM _ _ _ _ _› (by omega) (by omega) (by omega) (by omega) (by assumption) (by omega) (by assumption) (by omega) (by omega) (by omega) (by omega) (by omega)
def o_Pl_layForces_7 : or_T := (79, 31, [(0, (2, 0, 0, [6])), (8, (0, 0, 199, [])), (10, (0, 0, 23, [])), (11, (2, 0, 0, [3])), (13, (0, 1, 24, [])), (14, (2, 0, 0, [98])), (15, (1, -55296, 55296, [])), (20, (1, -256, 256, [])), (21, (1, -55552, 55552, [])), (22, (2, 0, 0, [99])), (23, (1, -55296, 55296, [])), (28, (1, -256, 256, [])), (29, (1, -55552, 55552, [])), (30, (0, 1, 24, []))], [(6, [30, 10], [1]), (24, [0, 6], []), (100, [22, 10, 29], []), (1, [29, 23, 28], []), (10, [23, 22, 10], []), (9, [22, 6], [16]), (100, [14, 10, 21], []), (1, [21, 15, 20], []), (10, [15, 14, 10], []), (9, [14, 6], [15]), (9, [13, 11], [0]), (20, [6, 11, 8, 10], [60, 1, 2, 546, 1000, 15, 16])], [], [], [(20, [6, 11, 8, 30], [60, 1, 2, 546, 1000, 15, 16])], [], [(30, 10, 1, 1), (30, 13, -4294967296, 0), (10, 13, -4294967296, -1)])
theorem oo_Pl_layForces_7 {kA : Nat → ClassId} : or_ok PRD kA GG o_Pl_layForces_7 := by
  refine or_mk fun A ta ws vs hD hth hl => ?_
  intro t0 r0 t8 k8 t10 k10 t11 r11 t13 k13 t14 r14 t15 k15 t20 k20 t21 k21 t22 r22 t23 k23 t28 k28 t29 k29 t30 k30 d0 d1 d2 f0 f9 ta1 w1 le1 s1 f11 f19 f20 ta2 w2 le2 s2 f26 f34 f35 f37 f38
  replace f0 := shm_4 f0
  replace f9 := shm_5 f9
  have s1 : (∀ b j, w_el ws b j = if b = v_ad (n_v vs 22) ∧ j = (v_iv (n_v vs 10)).toNat then v_iv (n_v vs 29) else w_el w1 b j) ∧ ∀ b k, w_fd ws b k = w_fd w1 b k := s1.2
  replace f11 := shm_12 f11
  replace f19 := shm_107 f19
  replace f20 := shm_176 f20
  have s2 : (∀ b j, w_el w1 b j = if b = v_ad (n_v vs 14) ∧ j = (v_iv (n_v vs 10)).toNat then v_iv (n_v vs 21) else w_el w2 b j) ∧ ∀ b k, w_fd w1 b k = w_fd w2 b k := s2.2
  replace f26 := shm_12 f26
  replace f34 := shm_107 f34
  replace f35 := shm_177 f35
  replace f37 := shm_163 f37
  replace f38 := shm_1689 f38
  have q6 : n_v vs 6 = n_v vs 0 := f9.symm
  simp only [q6] at f20 f35 f38
  have ar_0_15_1 : w_ar w1 (n_v vs 0) 15 = w_ar ws (n_v vs 0) 15 := congrArg v_ad (s1.2 _ _).symm
  have ar_0_15_2 : w_ar w2 (n_v vs 0) 15 = w_ar ws (n_v vs 0) 15 := by rw [← ar_0_15_1]; show v_ad (w_fd w2 _ _) = v_ad (w_fd w1 _ _); rw [s2.2]
  have cr_0_15 := fdq_23 hD hth r0
  have ar_0_16_1 : w_ar w1 (n_v vs 0) 16 = w_ar ws (n_v vs 0) 16 := congrArg v_ad (s1.2 _ _).symm
  have ar_0_16_2 : w_ar w2 (n_v vs 0) 16 = w_ar ws (n_v vs 0) 16 := by rw [← ar_0_16_1]; show v_ad (w_fd w2 _ _) = v_ad (w_fd w1 _ _); rw [s2.2]
  have cr_0_16 := fdq_24 hD hth r0
  have cr_0_17 := fdq_304 hD hth r0
  have cr_0_18 := fdq_305 hD hth r0
  have ad_22 : v_ad (n_v vs 22) = w_ar ws (n_v vs 0) 16 := (congrArg v_ad f20).trans ar_0_16_1
  have ad_14 : v_ad (n_v vs 14) = w_ar ws (n_v vs 0) 15 := (congrArg v_ad f35).trans ar_0_15_2
  simp only [ad_22] at f19
  have h19 : v_iv (n_v vs 23) = w_ei w1 (w_ar ws (n_v vs 0) 16) (v_iv (n_v vs 10)) := f19
  simp only [ad_14] at f34
  have h34 : v_iv (n_v vs 15) = w_ei w2 (w_ar ws (n_v vs 0) 15) (v_iv (n_v vs 10)) := f34
  have g37 : v_iv (n_v vs 13) = w_fi w2 (n_v vs 11) 0 := congrArg v_iv f37
  simp only [ar_0_15_2, ar_0_16_2] at f38
  have fe_11_0_1 : w_fi ws (n_v vs 11) 0 = w_fi w1 (n_v vs 11) 0 := congrArg v_iv (s1.2 _ _)
  have fe_11_0_2 : w_fi w1 (n_v vs 11) 0 = w_fi w2 (n_v vs 11) 0 := congrArg v_iv (s2.2 _ _)
  have hE_0_15_1 : ∀ j : Int, w_ei ws (w_ar ws (n_v vs 0) 15) j = w_ei w1 (w_ar ws (n_v vs 0) 15) j := el_kp s1.1 r22 cr_0_15 (by decide)
  have hE_0_15_2 : ∀ j : Int, 0 ≤ j → (j = v_iv (n_v vs 10) → w_ei w1 (w_ar ws (n_v vs 0) 15) j = v_iv (n_v vs 21)) ∧ (j ≠ v_iv (n_v vs 10) → w_ei w1 (w_ar ws (n_v vs 0) 15) j = w_ei w2 (w_ar ws (n_v vs 0) 15) j) := fun j hj => ⟨fun h => by unfold w_ei; rw [s2.1, if_pos ⟨ad_14.symm, by rw [h]⟩], fun h => by unfold w_ei; rw [s2.1, if_neg (fun e => h (by have := e.2; omega))]⟩
  have hE_0_16_1 : ∀ j : Int, 0 ≤ j → (j = v_iv (n_v vs 10) → w_ei ws (w_ar ws (n_v vs 0) 16) j = v_iv (n_v vs 29)) ∧ (j ≠ v_iv (n_v vs 10) → w_ei ws (w_ar ws (n_v vs 0) 16) j = w_ei w1 (w_ar ws (n_v vs 0) 16) j) := fun j hj => ⟨fun h => by unfold w_ei; rw [s1.1, if_pos ⟨ad_22.symm, by rw [h]⟩], fun h => by unfold w_ei; rw [s1.1, if_neg (fun e => h (by have := e.2; omega))]⟩
  have hE_0_16_2 : ∀ j : Int, w_ei w1 (w_ar ws (n_v vs 0) 16) j = w_ei w2 (w_ar ws (n_v vs 0) 16) j := el_kp s2.1 r14 cr_0_16 (by decide)
  have hE_0_17_1 : ∀ j : Int, w_ei ws (w_ar ws (n_v vs 0) 17) j = w_ei w1 (w_ar ws (n_v vs 0) 17) j := el_kp s1.1 r22 cr_0_17 (by decide)
  have hE_0_17_2 : ∀ j : Int, w_ei w1 (w_ar ws (n_v vs 0) 17) j = w_ei w2 (w_ar ws (n_v vs 0) 17) j := el_kp s2.1 r14 cr_0_17 (by decide)
  have hE_0_18_1 : ∀ j : Int, w_ei ws (w_ar ws (n_v vs 0) 18) j = w_ei w1 (w_ar ws (n_v vs 0) 18) j := el_kp s1.1 r22 cr_0_18 (by decide)
  have hE_0_18_2 : ∀ j : Int, w_ei w1 (w_ar ws (n_v vs 0) 18) j = w_ei w2 (w_ar ws (n_v vs 0) 18) j := el_kp s2.1 r14 cr_0_18 (by decide)
  have kz_11_0 := fdq_21 hD hth r11
  have nf0 : fc_1 PRD (20, [6, 11, 8, 30], [60, 1, 2, 546, 1000, 15, 16]) ws (vs) := by
    refine ⟨nf_in hl rfl, sgq_1689 ?_⟩
    · show FZM (w_fi ws (n_v vs 11) 0) (w_ei ws (w_ar ws (n_v vs 6) 15)) (w_ei ws (w_ar ws (n_v vs 6) 16)) (v_iv (n_v vs 8)) (v_iv (n_v vs 30))
      rw [q6]
      exact vc_Pl_layForces_7_0 (v_iv (n_v vs 8)) (v_iv (n_v vs 10)) (v_iv (n_v vs 13)) (v_iv (n_v vs 15)) (v_iv (n_v vs 20)) (v_iv (n_v vs 21)) (v_iv (n_v vs 23)) (v_iv (n_v vs 28)) (v_iv (n_v vs 29)) (v_iv (n_v vs 30)) (w_ei w1 (w_ar ws (n_v vs 0) 18)) (w_ei w1 (w_ar ws (n_v vs 0) 16)) (w_ei w2 (w_ar ws (n_v vs 0) 17)) (w_ei w2 (w_ar ws (n_v vs 0) 15)) (w_fi w2 (n_v vs 11) 0) (w_ei w2 (w_ar ws (n_v vs 0) 16)) (w_fi ws (n_v vs 11) 0) (w_fi w1 (n_v vs 11) 0) (w_ei ws (w_ar ws (n_v vs 0) 15)) (w_ei w1 (w_ar ws (n_v vs 0) 15)) (w_ei ws (w_ar ws (n_v vs 0) 16)) (w_ei ws (w_ar ws (n_v vs 0) 17)) (w_ei w1 (w_ar ws (n_v vs 0) 17)) (w_ei ws (w_ar ws (n_v vs 0) 18)) (w_ei w2 (w_ar ws (n_v vs 0) 18)) k8 k10 k13 k15 k20 k21 k23 k28 k29 k30 d0 d1 d2 f0 f11 h19 f26 h34 g37 f38 fe_11_0_1 fe_11_0_2 hE_0_15_1 hE_0_15_2 hE_0_16_1 hE_0_16_2 hE_0_17_1 hE_0_17_2 hE_0_18_1 hE_0_18_2 kz_11_0
  refine ⟨(fun _ h => (by cases h)), [], trivial, ?_, (fun _ h => (by cases h))⟩
  rw [List.append_nil]
  exact List.forall_mem_cons.mpr ⟨⟨show (20 : Nat) < 100 from by decide, nf0⟩, (fun _ h => (by cases h))⟩
def o_Pl_layForces_8 : or_T := (212, 24, [(4, (2, 0, 0, [12])), (5, (0, 0, 3072, [])), (8, (0, 0, 23, [])), (18, (2, 0, 0, [15])), (23, (0, -60001, 60000, []))], [(100, [18, 8, 23], []), (20, [4, 5], [62, 2000000])], [], [], [(20, [4, 5], [62, 2000000])], [], [])
theorem oo_Pl_layForces_8 {kA : Nat → ClassId} : or_ok PRD kA GG o_Pl_layForces_8 := by
  refine or_mk fun A ta ws vs hD hth hl => ?_
  intro t4 r4 t5 k5 t8 k8 t18 r18 t23 k23 ta1 w1 le1 s1 f1
  have s1 : (∀ b j, w_el ws b j = if b = v_ad (n_v vs 18) ∧ j = (v_iv (n_v vs 8)).toNat then v_iv (n_v vs 23) else w_el w1 b j) ∧ ∀ b k, w_fd ws b k = w_fd w1 b k := s1.2
  replace f1 := shm_161 f1
  have nf0 : fc_1 PRD (20, [4, 5], [62, 2000000]) ws (vs) := by
    refine ⟨nf_in hl rfl, sgq_161 ?_⟩
    · show HY ws (n_v vs 4) (v_iv (n_v vs 5) + (((2000000 : Nat) : Int) - 2000000))
      have hn := hy_ne (k := 3) (g := GG_12) hD hth r4 rfl (by decide) rfl rfl r18 (by decide) s1.2
      have hn0 := hy_ne (k := 0) (g := GG_12) hD hth r4 rfl (by decide) rfl rfl r18 (by decide) s1.2
      exact hy_st (hy_le f1 (by omega)) s1 hn hn0 (by omega) (by omega)
  refine ⟨(fun _ h => (by cases h)), [], trivial, ?_, (fun _ h => (by cases h))⟩
  rw [List.append_nil]
  exact List.forall_mem_cons.mpr ⟨⟨show (20 : Nat) < 100 from by decide, nf0⟩, (fun _ h => (by cases h))⟩
def n_Pl_layForces_an : List an_T := [(2, [(0, (2, 0, 0, [6])), (1, (0, 0, 200, [])), (2, (0, 0, 24, []))], [], (0, 0), [(0, 0, 99998), (1, 8, 24), (0, 0, 100000), (0, 0, 0), (0, 0, 0)], [(1, 7, (Int.negSucc 999999999999), 0), (7, 1, (Int.negSucc 999999999999), 0)], [((0, 0), (2, 0, 0, [3])), ((0, 1), (2, 0, 0, [0]))], [(2, 0, 0, [6]), (0, 0, 200, []), (2, 0, 0, [3]), (2, 0, 0, [0]), (2, 0, 0, [12]), (0, 0, 3072, [])], 0, [], [(20, [6, 8], [60, 0, 2, 544, 15, 16]), (20, [4, 5], [62, 2000000]), (24, [0, 6], [])]), (55, [(0, (2, 0, 0, [6])), (1, (0, 0, 200, [])), (2, (0, 0, 200, []))], [], (0, 0), [(0, 0, 99945), (1, 8, 200), (0, 0, 100000), (0, 0, 0), (0, 0, 0)], [(1, 7, (Int.negSucc 999999999999), 0), (7, 1, (Int.negSucc 999999999999), 0), (8, 1, (Int.negSucc 999999999999), 0), (8, 7, (Int.negSucc 999999999999), 0)], [((0, 0), (2, 0, 0, [3])), ((0, 1), (2, 0, 0, [0]))], [(2, 0, 0, [6]), (0, 0, 200, []), (2, 0, 0, [3]), (2, 0, 0, [0]), (2, 0, 0, [12]), (0, 0, 3072, [])], 0, [], [(20, [6, 9, 8], [60, 1, 2, 545, 1000, 15, 16]), (20, [4, 5], [62, 2000000]), (24, [0, 6], [])]), (79, [(0, (2, 0, 0, [6])), (1, (0, 1, 200, [])), (2, (0, 0, 199, [])), (3, (1, 0, 256, [])), (5, (0, 0, 24, []))], [], (0, 0), [(0, 0, 99945), (1, 8, 200), (0, 0, 99921), (1, 10, 24), (0, 0, 100000)], [(1, 7, (Int.negSucc 999999999999), 0), (5, 1, (Int.negSucc 999999999999), 3071), (7, 1, (Int.negSucc 999999999999), 0), (8, 1, (Int.negSucc 999999999999), (Int.negSucc 0)), (8, 7, (Int.negSucc 999999999999), (Int.negSucc 0))], [((0, 0), (2, 0, 0, [3])), ((0, 1), (2, 0, 0, [0]))], [(2, 0, 0, [6]), (0, 0, 200, []), (2, 0, 0, [3]), (2, 0, 0, [0]), (2, 0, 0, [12]), (0, 0, 3072, [])], 0, [], [(20, [6, 11, 8, 10], [60, 1, 2, 546, 1000, 15, 16]), (20, [4, 5], [62, 2000000]), (24, [0, 6], [])]), (157, [(0, (2, 0, 0, [6])), (1, (0, 0, 200, [])), (2, (0, 0, 24, []))], [], (0, 0), [(0, 0, 99843), (1, 8, 24), (0, 0, 100000), (0, 0, 0), (0, 0, 0)], [(1, 7, (Int.negSucc 999999999999), 0), (7, 1, (Int.negSucc 999999999999), 0)], [((0, 0), (2, 0, 0, [3])), ((0, 1), (2, 0, 0, [0]))], [(2, 0, 0, [6]), (0, 0, 200, []), (2, 0, 0, [3]), (2, 0, 0, [0]), (2, 0, 0, [12]), (0, 0, 3072, [])], 0, [], [(20, [4, 5], [62, 2000000]), (24, [0, 6], [])])]
def t_Pl_layForces_ct : ct_L := [(1, 235, e_Pl_sumPulls), (330, 210, e_jMath_min2_v157), (339, 207, e_jMath_max2_v158), (408, 210, e_jMath_min2_v157), (417, 207, e_jMath_max2_v158), (558, 240, e_jMath_floorDiv2_v156), (624, 240, e_jMath_floorDiv2_v156)]
set_option maxRecDepth 100000 in
theorem c_Pl_layForces {l : Launch} {D : va_G} {kA : Nat → ClassId} (h_Pl_sumPulls : ct_ok PRD l D kA GG y_Pl_sumPulls z_Pl_sumPulls e_Pl_sumPulls) : ct_ok PRD l D kA GG y_Pl_layForces z_Pl_layForces e_Pl_layForces := chk_all_ok (FT := [(9, 6, 0), (15, 6, 1), (61, 6, 15), (65, 6, 16), (68, 6, 17), (71, 6, 18), (74, 3, 0), (127, 0, 2), (135, 0, 3)]) (PT := []) (CT := t_Pl_layForces_ct) (KT := [(2, 238, .long (16), (1, 16, 16, []))]) (NT := []) (AN := n_Pl_layForces_an) (OT := [o_Pl_layForces_0, o_Pl_layForces_1, o_Pl_layForces_2, o_Pl_layForces_3, o_Pl_layForces_4, o_Pl_layForces_5, o_Pl_layForces_6, o_Pl_layForces_7, o_Pl_layForces_8]) 5 504 (List.forall_mem_cons.mpr ⟨oo_Pl_layForces_0, List.forall_mem_cons.mpr ⟨oo_Pl_layForces_1, List.forall_mem_cons.mpr ⟨oo_Pl_layForces_2, List.forall_mem_cons.mpr ⟨oo_Pl_layForces_3, List.forall_mem_cons.mpr ⟨oo_Pl_layForces_4, List.forall_mem_cons.mpr ⟨oo_Pl_layForces_5, List.forall_mem_cons.mpr ⟨oo_Pl_layForces_6, List.forall_mem_cons.mpr ⟨oo_Pl_layForces_7, List.forall_mem_cons.mpr ⟨oo_Pl_layForces_8, List.forall_mem_nil _⟩⟩⟩⟩⟩⟩⟩⟩⟩) (by decide +kernel) ⟨List.forall_mem_cons.mpr ⟨gf_Pl_9, List.forall_mem_cons.mpr ⟨gf_Pl_15, List.forall_mem_cons.mpr ⟨gf_Pl_61, List.forall_mem_cons.mpr ⟨gf_Pl_65, List.forall_mem_cons.mpr ⟨gf_Pl_68, List.forall_mem_cons.mpr ⟨gf_Pl_71, List.forall_mem_cons.mpr ⟨gf_Pl_74, List.forall_mem_cons.mpr ⟨gf_Pl_127, List.forall_mem_cons.mpr ⟨gf_Pl_135, List.forall_mem_nil _⟩⟩⟩⟩⟩⟩⟩⟩⟩, List.forall_mem_nil _, List.forall_mem_cons.mpr ⟨cl_virtual (y := y_Pl_sumPulls) (ci := 6) rfl rfl ⟨_, _, rfl⟩ (by decide +kernel) h_Pl_sumPulls wm_1787 wm_21 wm_1784 wm_1786 wv_8_10 ⟨by decide, by decide, by decide +kernel⟩ (by decide), List.forall_mem_cons.mpr ⟨cl_static (y := y_jMath_min2) c_jMath_min2_v157 wm_1753 wm_10 wm_1751 wm_1752 ⟨by decide, by decide, by decide +kernel⟩ (by decide), List.forall_mem_cons.mpr ⟨cl_static (y := y_jMath_max2) c_jMath_max2_v158 wm_1750 wm_10 wm_1748 wm_1749 ⟨by decide, by decide, by decide +kernel⟩ (by decide), List.forall_mem_cons.mpr ⟨cl_static (y := y_jMath_min2) c_jMath_min2_v157 wm_1753 wm_10 wm_1751 wm_1752 ⟨by decide, by decide, by decide +kernel⟩ (by decide), List.forall_mem_cons.mpr ⟨cl_static (y := y_jMath_max2) c_jMath_max2_v158 wm_1750 wm_10 wm_1748 wm_1749 ⟨by decide, by decide, by decide +kernel⟩ (by decide), List.forall_mem_cons.mpr ⟨cl_static (y := y_jMath_floorDiv2) c_jMath_floorDiv2_v156 wm_1800 wm_10 wm_1798 wm_1799 ⟨by decide, by decide, by decide +kernel⟩ (by decide), List.forall_mem_cons.mpr ⟨cl_static (y := y_jMath_floorDiv2) c_jMath_floorDiv2_v156 wm_1800 wm_10 wm_1798 wm_1799 ⟨by decide, by decide, by decide +kernel⟩ (by decide), List.forall_mem_nil _⟩⟩⟩⟩⟩⟩⟩, List.forall_mem_cons.mpr ⟨⟨kt_mk2 wm_1797, fun _ => Or.inr (Or.inl ⟨rfl, _, rfl, by decide, by decide⟩)⟩, List.forall_mem_nil _⟩, List.forall_mem_nil _, GG_pl⟩ (by decide +kernel)
set_option maxHeartbeats 4000000 in
theorem vc_Pn_findOrder_0_r0 (x6 : Int) (lineLength_0 : Int) (lineLength_1 : Int) (k6 : 1 ≤ x6 ∧ x6 ≤ 23) (f3 : (x6 = 1) ∨ ((1 ≤ x6) ∧ ((x6 + 2) ≤ lineLength_1))) (fe_0_3_1 : lineLength_0 = lineLength_1) (kz_0_3 : 0 ≤ lineLength_0 ∧ lineLength_0 ≤ 24) : 1 ≤ x6 ∧ x6 ≤ 22 := by
  subst fe_0_3_1
  omega
def o_Pn_findOrder_0 : or_T := (135, 16, [(0, (2, 0, 0, [7])), (4, (0, 2, 23, [])), (6, (0, 1, 23, [])), (7, (2, 0, 0, [102]))], [(20, [6, 0], [50, 1, 0, 1003, 3, 6, 1, 2, 1, 0, 0, 1, 2, 6, 0, 2, 0, 1, 1, 0, 0, 6, 4, 2, 1, 0, 0, 2, 2, 1, 3]), (100, [7, 4, 9], []), (9, [7, 0], [1]), (20, [6, 0], [50, 1, 0, 1003, 3, 6, 1, 2, 1, 0, 0, 1, 2, 6, 0, 2, 0, 1, 1, 0, 0, 6, 4, 2, 1, 0, 0, 2, 2, 1, 3])], [(6, (0, 1, 22, []))], [], [], [], [])
theorem oo_Pn_findOrder_0 {kA : Nat → ClassId} : or_ok PRD kA GG o_Pn_findOrder_0 := by
  refine or_mk fun A ta ws vs hD hth hl => ?_
  intro t0 r0 t4 k4 t6 k6 t7 r7 f0 ta1 w1 le1 s1 f2 f3
  have s1 : (∀ b j, w_el ws b j = if b = v_ad (n_v vs 7) ∧ j = (v_iv (n_v vs 4)).toNat then v_iv (n_v vs 9) else w_el w1 b j) ∧ ∀ b k, w_fd ws b k = w_fd w1 b k := s1.2
  have fe_0_3_1 : w_fi ws (n_v vs 0) 3 = w_fi w1 (n_v vs 0) 3 := congrArg v_iv (s1.2 _ _)
  have kz_0_3 := fdq_13 hD hth r0
  have hrf0 : 1 ≤ v_iv (n_v vs 6) ∧ v_iv (n_v vs 6) ≤ 22 := vc_Pn_findOrder_0_r0 (v_iv (n_v vs 6)) (w_fi ws (n_v vs 0) 3) (w_fi w1 (n_v vs 0) 3) k6 (shm_893 f3) fe_0_3_1 kz_0_3
  have rf6 : tv_ok ta (0, 1, 22, []) (n_v vs 6) := tv_in t6 (by first | omega | grind) (by first | omega | grind)
  refine ⟨List.forall_mem_cons.mpr ⟨rf6, (fun _ h => (by cases h))⟩, [], trivial, ?_, (fun _ h => (by cases h))⟩
  rw [List.append_nil]
  exact (fun _ h => (by cases h))
def n_Pn_findOrder_an : List an_T := [(91, [(0, (2, 0, 0, [7])), (1, (0, 0, 23, [])), (2, (0, 0, 23, [])), (3, (0, 0, 16777215, [])), (4, (0, (Int.negSucc 0), 23, []))], [], (0, 0), [(0, 0, 99909), (2, 4, (Int.negSucc 0)), (0, 0, 100000)], [], [], [], 0, [], [])]
def t_Pn_findOrder_ct : ct_L := [(1, 144, e_Pn_pickFromLine), (1, 147, e_Pn_openLine)]
set_option maxRecDepth 100000 in
theorem c_Pn_findOrder {l : Launch} {D : va_G} {kA : Nat → ClassId} (h_Pn_openLine : ct_ok PRD l D kA GG y_Pn_openLine z_Pn_openLine e_Pn_openLine) (h_Pn_pickFromLine : ct_ok PRD l D kA GG y_Pn_pickFromLine z_Pn_pickFromLine e_Pn_pickFromLine) : ct_ok PRD l D kA GG y_Pn_findOrder z_Pn_findOrder e_Pn_findOrder := chk_all_ok (FT := [(12, 7, 0), (18, 7, 1), (22, 7, 2), (86, 5, 5), (128, 5, 15)]) (PT := [(25, 7, 3, .int)]) (CT := t_Pn_findOrder_ct) (KT := []) (NT := []) (AN := n_Pn_findOrder_an) (OT := [o_Pn_findOrder_0]) 3 360 (List.forall_mem_cons.mpr ⟨oo_Pn_findOrder_0, List.forall_mem_nil _⟩) (by decide +kernel) ⟨List.forall_mem_cons.mpr ⟨gf_Pn_12, List.forall_mem_cons.mpr ⟨gf_Pn_18, List.forall_mem_cons.mpr ⟨gf_Pn_22, List.forall_mem_cons.mpr ⟨gf_Pn_86, List.forall_mem_cons.mpr ⟨gf_Pn_128, List.forall_mem_nil _⟩⟩⟩⟩⟩, List.forall_mem_cons.mpr ⟨pf_Pn_25, List.forall_mem_nil _⟩, List.forall_mem_cons.mpr ⟨cl_virtual (y := y_Pn_pickFromLine) (ci := 7) rfl rfl ⟨_, _, rfl⟩ (by decide +kernel) h_Pn_pickFromLine wm_1554 wm_20 wm_1551 wm_1553 wv_6_10 ⟨by decide, by decide, by decide +kernel⟩ (by decide), List.forall_mem_cons.mpr ⟨cl_virtual (y := y_Pn_openLine) (ci := 7) rfl rfl ⟨_, _, rfl⟩ (by decide +kernel) h_Pn_openLine wm_1559 wm_20 wm_1556 wm_1558 wv_6_11 ⟨by decide, by decide, by decide +kernel⟩ (by decide), List.forall_mem_nil _⟩⟩, List.forall_mem_nil _, List.forall_mem_nil _, GG_pl⟩ (by decide +kernel)
set_option maxHeartbeats 4000000 in
theorem vc_Sy_runRules_0_0 (x5 : Int) (x11 : Int) (x13 : Int) (x14 : Int) (x16 : Int) (code_0 : Int → Int) (k5 : 0 ≤ x5 ∧ x5 ≤ 2111) (k11 : 0 ≤ x11 ∧ x11 ≤ 851970) (k13 : 13 ≤ x13 ∧ x13 ≤ 13) (k14 : 0 ≤ x14 ∧ x14 ≤ 851970) (k16 : 0 ≤ x16 ∧ x16 ≤ 65535) (f2 : x16 = x14 % 65536) (h4 : x14 = code_0 (x5)) (f6 : x13 = x11 / 65536) (h8 : x11 = code_0 (x5)) : (x13 = 13) ∧ (x16 ≤ 2) := by
  first
    | omega
  
def o_Sy_runRules_0 : or_T := (104, 19, [(5, (0, 0, 2111, [])), (11, (0, 0, 851970, [])), (13, (0, 13, 13, [])), (14, (0, 0, 851970, [])), (16, (0, 0, 65535, []))], [(12, [16, 14], [65536]), (10, [14, 10, 5], []), (9, [10, 0], [10]), (11, [13, 11], [65536]), (10, [11, 10, 5], [])], [], [], [(20, [13, 16], [50, 0, 0, 2, 6, 1, 2, 1, 0, 0, 13, 0, 2, 1, 1, 0, 2])], [], [])
theorem oo_Sy_runRules_0 {kA : Nat → ClassId} : or_ok PRD kA GG o_Sy_runRules_0 := by
  refine or_mk fun A ta ws vs hD hth hl => ?_
  intro t5 k5 t11 k11 t13 k13 t14 k14 t16 k16 f2 f4 f5 f6 f8
  replace f4 := shm_107 f4
  replace f5 := shm_106 f5
  replace f8 := shm_107 f8
  have ad_10 : v_ad (n_v vs 10) = w_ar ws (n_v vs 0) 10 := congrArg v_ad f5
  simp only [ad_10] at f4
  have h4 : v_iv (n_v vs 14) = w_ei ws (w_ar ws (n_v vs 0) 10) (v_iv (n_v vs 5)) := f4
  simp only [ad_10] at f8
  have h8 : v_iv (n_v vs 11) = w_ei ws (w_ar ws (n_v vs 0) 10) (v_iv (n_v vs 5)) := f8
  have nf0 : fc_1 PRD (20, [13, 16], [50, 0, 0, 2, 6, 1, 2, 1, 0, 0, 13, 0, 2, 1, 1, 0, 2]) ws (vs) := ⟨nf_in hl rfl, sgq_1691 (vc_Sy_runRules_0_0 (v_iv (n_v vs 5)) (v_iv (n_v vs 11)) (v_iv (n_v vs 13)) (v_iv (n_v vs 14)) (v_iv (n_v vs 16)) (w_ei ws (w_ar ws (n_v vs 0) 10)) k5 k11 k13 k14 k16 (shm_1690 f2) h4 (shm_440 f6) h8)⟩
  refine ⟨(fun _ h => (by cases h)), [], trivial, ?_, (fun _ h => (by cases h))⟩
  rw [List.append_nil]
  exact List.forall_mem_cons.mpr ⟨⟨show (20 : Nat) < 100 from by decide, nf0⟩, (fun _ h => (by cases h))⟩
set_option maxHeartbeats 4000000 in
theorem vc_Sy_runRules_1_r0 (x3 : Int) (x13 : Int) (x16 : Int) (x19 : Int) (k3 : 0 ≤ x3 ∧ x3 ≤ 213) (k13 : 13 ≤ x13 ∧ x13 ≤ 13) (k16 : 0 ≤ x16 ∧ x16 ≤ 65535) (k19 : 0 ≤ x19 ∧ x19 ≤ 65748) (d0 : x16 + 0 ≤ x19 ∧ x19 ≤ x16 + 213) (d1 : x3 + 0 ≤ x19 ∧ x19 ≤ x3 + 65535) (f0 : (x13 = 13) ∧ (x16 ≤ 2)) (f2 : x19 = x3 + x16) : 0 ≤ x19 ∧ x19 ≤ 215 := by
  first
    | omega
  
def o_Sy_runRules_1 : or_T := (124, 26, [(3, (0, 0, 213, [])), (11, (0, 0, 851970, [])), (13, (0, 13, 13, [])), (14, (0, 0, 851970, [])), (16, (0, 0, 65535, [])), (17, (0, 12, 12, [])), (18, (0, 13, 13, [])), (19, (0, 0, 65748, []))], [(20, [13, 16], [50, 0, 0, 2, 6, 1, 2, 1, 0, 0, 13, 0, 2, 1, 1, 0, 2]), (102, [21], [0, 11015]), (1, [19, 3, 16], []), (7, [13, 18], [0]), (7, [13, 17], [1]), (12, [16, 14], [65536]), (11, [13, 11], [65536])], [(19, (0, 0, 215, []))], [], [], [], [(19, 16, 0, 213), (19, 3, 0, 65535)])
theorem oo_Sy_runRules_1 {kA : Nat → ClassId} : or_ok PRD kA GG o_Sy_runRules_1 := by
  refine or_mk fun A ta ws vs hD hth hl => ?_
  intro t3 k3 t11 k11 t13 k13 t14 k14 t16 k16 t17 k17 t18 k18 t19 k19 d0 d1 f0 ta1 w1 le1 s1 f2 f3 f4 f5 f6
  have hrf0 : 0 ≤ v_iv (n_v vs 19) ∧ v_iv (n_v vs 19) ≤ 215 := vc_Sy_runRules_1_r0 (v_iv (n_v vs 3)) (v_iv (n_v vs 13)) (v_iv (n_v vs 16)) (v_iv (n_v vs 19)) k3 k13 k16 k19 d0 d1 (shm_1691 f0) (shm_12 f2)
  have rf19 : tv_ok ta (0, 0, 215, []) (n_v vs 19) := tv_in t19 (by first | omega | grind) (by first | omega | grind)
  refine ⟨List.forall_mem_cons.mpr ⟨rf19, (fun _ h => (by cases h))⟩, [], trivial, ?_, (fun _ h => (by cases h))⟩
  rw [List.append_nil]
  exact (fun _ h => (by cases h))
def n_Sy_runRules_an : List an_T := [(3, [(0, (2, 0, 0, [11])), (1, (0, 0, 1, [])), (2, (2, 0, 0, [23])), (3, (0, 0, 213, [])), (4, (0, 0, 112, []))], [], (0, 0), [(0, 0, 99997), (1, 4, 112), (0, 0, 100000), (0, 0, 0), (0, 0, 0)], [], [((0, 15), (0, 0, 80, []))], [], 0, [], []), (40, [(0, (2, 0, 0, [11])), (1, (0, 0, 1, [])), (2, (2, 0, 0, [23])), (3, (0, 0, 213, [])), (4, (0, 0, 111, [])), (5, (0, 0, 2112, []))], [], (0, 0), [(0, 0, 99997), (1, 4, 112), (0, 0, 99960), (1, 5, 2112), (0, 0, 100000)], [], [], [], 0, [], [])]
def t_Sy_runRules_ct : ct_L := [(1, 251, e_Sy_pop), (1, 263, e_Sy_run), (354, 257, e_jMath_min2_v159), (363, 260, e_jMath_max2_v160)]
set_option maxRecDepth 100000 in
theorem c_Sy_runRules {l : Launch} {D : va_G} {kA : Nat → ClassId} (h_Sy_pop : ct_ok PRD l D kA GG y_Sy_pop z_Sy_pop e_Sy_pop) (h_Sy_run : ct_ok PRD l D kA GG y_Sy_run z_Sy_run e_Sy_run) : ct_ok PRD l D kA GG y_Sy_runRules z_Sy_runRules e_Sy_runRules := chk_all_ok (FT := [(9, 11, 0), (46, 11, 10), (53, 11, 12), (56, 11, 13)]) (PT := [(63, 11, 15, .int)]) (CT := t_Sy_runRules_ct) (KT := [(0, 250, .int (65535), (0, 65535, 65535, [])), (2, 255, .long (255), (1, 255, 255, []))]) (NT := []) (AN := n_Sy_runRules_an) (OT := [o_Sy_runRules_0, o_Sy_runRules_1]) 5 336 (List.forall_mem_cons.mpr ⟨oo_Sy_runRules_0, List.forall_mem_cons.mpr ⟨oo_Sy_runRules_1, List.forall_mem_nil _⟩⟩) (by decide +kernel) ⟨List.forall_mem_cons.mpr ⟨gf_Sy_9, List.forall_mem_cons.mpr ⟨gf_Sy_46, List.forall_mem_cons.mpr ⟨gf_Sy_53, List.forall_mem_cons.mpr ⟨gf_Sy_56, List.forall_mem_nil _⟩⟩⟩⟩, List.forall_mem_cons.mpr ⟨pf_Sy_63, List.forall_mem_nil _⟩, List.forall_mem_cons.mpr ⟨cl_virtual (y := y_Sy_pop) (ci := 11) rfl rfl ⟨_, _, rfl⟩ (by decide +kernel) h_Sy_pop wm_2301 wm_23 wm_2298 wm_2300 wv_11_10 ⟨by decide, by decide, by decide +kernel⟩ (by decide), List.forall_mem_cons.mpr ⟨cl_virtual (y := y_Sy_run) (ci := 11) rfl rfl ⟨_, _, rfl⟩ (by decide +kernel) h_Sy_run wm_2308 wm_23 wm_2305 wm_2307 wv_11_11 ⟨by decide, by decide, by decide +kernel⟩ (by decide), List.forall_mem_cons.mpr ⟨cl_static (y := y_jMath_min2) c_jMath_min2_v159 wm_1753 wm_10 wm_2303 wm_1752 ⟨by decide, by decide, by decide +kernel⟩ (by decide), List.forall_mem_cons.mpr ⟨cl_static (y := y_jMath_max2) c_jMath_max2_v160 wm_1750 wm_10 wm_2304 wm_1749 ⟨by decide, by decide, by decide +kernel⟩ (by decide), List.forall_mem_nil _⟩⟩⟩⟩, List.forall_mem_cons.mpr ⟨kx_Sy_0_250, List.forall_mem_cons.mpr ⟨⟨kt_mk2 wm_2302, fun _ => Or.inr (Or.inl ⟨rfl, _, rfl, by decide, by decide⟩)⟩, List.forall_mem_nil _⟩⟩, List.forall_mem_nil _, GG_pl⟩ (by decide +kernel)

set_option maxHeartbeats 4000000 in
theorem vc_Mo_children_0_0 (x1 : Int) (x2 : Int) (x3 : Int) (x4 : Int) (all_0 : Int → Int) (level_0 : Int → Int) (above_0 : Int → Int) (r_0 : Int) (nx_0 : Int → Int) (k1 : 0 ≤ x1 ∧ x1 ≤ 23) (k2 : (-1) ≤ x2 ∧ x2 ≤ (-1)) (k3 : (-1) ≤ x3 ∧ x3 ≤ (-1)) (k4 : 0 ≤ x4 ∧ x4 ≤ 0) (f1 : CHA (r_0) (all_0) (nx_0) (above_0) (level_0) (x1)) : CH7 (r_0) (all_0) (nx_0) (above_0) (level_0) (x1) (x2) (x3) (x4) := by
  try simp only [Int.add_zero] at *
  first
    | exact ch7_start ‹CHA _ _ _ _ _ _› (by omega) (by omega)
    | exact ch7_next (v := above_0 x6) (many := x10) ‹CHK _ _ _ _ _ _ _ _› (by omega) (by omega) rfl (by omega) (by omega) (by omega) (by omega) ‹TRZ _ _ _ _ _ _ _ _ _›
    | exact ch7_next (v := above_0 x6) (l := x5) (pt := partOf_0) (many := x10) ‹CHK _ _ _ _ _ _ _ _› (by omega) (by omega) (by rfl) (by assumption) (by omega) (by omega) (by omega) ‹TRZ _ _ _ _ _ _ _ _ _›
    | exact ch7_first ‹CH7 _ _ _ _ _ _ _ _ _› (by omega) (by omega) (by assumption) (by omega) (by omega) (by omega)
    | exact ch7_skip ‹CH7 _ _ _ _ _ _ _ _ _› (by omega) (by omega)
  
def o_Mo_children_0 : or_T := (7, 5, [(1, (0, 0, 23, [])), (2, (0, -1, -1, [])), (3, (0, -1, -1, [])), (4, (0, 0, 0, []))], [(20, [0, 1], [60, 1, 4, 806, 5, 2, 74, 127, 128])], [], [], [(20, [0, 1, 2, 3, 4], [60, 1, 4, 808, 5, 2, 74, 127, 128]), (24, [0, 0], []), (24, [1, 1], [])], [], [])
theorem oo_Mo_children_0 {kA : Nat → ClassId} : or_ok PRD kA GG o_Mo_children_0 := by
  refine or_mk fun A ta ws vs hD hth hl => ?_
  intro t1 k1 t2 k2 t3 k3 t4 k4 f1
  have nf0 : fc_1 PRD (20, [0, 1, 2, 3, 4], [60, 1, 4, 808, 5, 2, 74, 127, 128]) ws (vs) := ⟨nf_in hl rfl, sgq_1693 (vc_Mo_children_0_0 (v_iv (n_v vs 1)) (v_iv (n_v vs 2)) (v_iv (n_v vs 3)) (v_iv (n_v vs 4)) (w_ei ws (w_ar ws (n_v vs 0) 2)) (w_ei ws (w_ar ws (n_v vs 0) 128)) (w_ei ws (w_ar ws (n_v vs 0) 127)) (w_fi ws (n_v vs 0) 5) (w_ei ws (w_ar ws (n_v vs 0) 74)) k1 k2 k3 k4 (shm_1692 f1))⟩
  have nf1 : fc_1 PRD (24, [0, 0], []) ws (vs) := by
    refine ⟨nf_in hl rfl, sgq_1 ?_⟩
    · show n_v vs 0 = n_v vs 0
      first | rfl | simp only [true_and]
  have nf2 : fc_1 PRD (24, [1, 1], []) ws (vs) := by
    refine ⟨nf_in hl rfl, sgq_1 ?_⟩
    · show n_v vs 1 = n_v vs 1
      first | rfl | simp only [true_and]
  refine ⟨(fun _ h => (by cases h)), [], trivial, ?_, (fun _ h => (by cases h))⟩
  rw [List.append_nil]
  exact List.forall_mem_cons.mpr ⟨⟨show (20 : Nat) < 100 from by decide, nf0⟩, List.forall_mem_cons.mpr ⟨⟨show (24 : Nat) < 100 from by decide, nf1⟩, List.forall_mem_cons.mpr ⟨⟨show (24 : Nat) < 100 from by decide, nf2⟩, (fun _ h => (by cases h))⟩⟩⟩
set_option maxHeartbeats 4000000 in
theorem vc_Mo_children_1_r0 (x1 : Int) (x4 : Int) (x5 : Int) (x6 : Int) (x7 : Int) (x9 : Int) (x10 : Int) (x11 : Int) (x13 : Int) (nx_0 : Int → Int) (all_0 : Int → Int) (r_0 : Int) (level_0 : Int → Int) (above_0 : Int → Int) (k1 : 0 ≤ x1 ∧ x1 ≤ 23) (k4 : 0 ≤ x4 ∧ x4 ≤ 23) (k5 : 0 ≤ x5 ∧ x5 ≤ 23) (k6 : 1 ≤ x6 ∧ x6 ≤ 24) (k7 : 0 ≤ x7 ∧ x7 ≤ 24) (k9 : (-300000000) ≤ x9 ∧ x9 ≤ 300000000) (k10 : (-300000000) ≤ x10 ∧ x10 ≤ 300000000) (k11 : (-600000000) ≤ x11 ∧ x11 ≤ 600000000) (k13 : (-600000001) ≤ x13 ∧ x13 ≤ 600000000) (d2 : x7 + 0 ≤ x6 ∧ x6 ≤ x7 + 4294967296) (d5 : x5 + (-4294967296) ≤ x4 ∧ x4 ≤ x5 + 0) (f0 : (2 * x13) ≤ x11) (f1 : x11 ≤ ((2 * x13) + 1)) (f2 : x11 = x9 + x10) (h3 : x10 = nx_0 (x5)) (h5 : x9 = nx_0 (x4)) (f6 : 0 ≤ x4) (f7 : x7 ≤ x6) (f8 : 1 * x7 + ((-1) * all_0 (r_0 + 0) + 0) ≤ 0) (f9 : (-1) * x7 + (1 * all_0 (r_0 + 0) + 0) ≤ 0) (f11 : CH7 (r_0) (all_0) (nx_0) (above_0) (level_0) (x1) (x4) (x5) (x6)) : (-68000000) ≤ x13 ∧ x13 ≤ 68000000 := by
  try simp only [Int.add_zero] at *
  first
    | omega
    | (have w := ‹CH7 _ _ _ _ _ _ _ _ _›.2.2.resolve_left (by omega)
       have g1 := ch7_bd (j := x4) ‹CH7 _ _ _ _ _ _ _ _ _› (by omega) (by omega) (by omega)
       have g2 := ch7_bd (j := x5) ‹CH7 _ _ _ _ _ _ _ _ _› (by omega) (by omega) (by omega)
       omega)
  
def o_Mo_children_1 : or_T := (87, 14, [(0, (2, 0, 0, [165])), (1, (0, 0, 23, [])), (2, (2, 0, 0, [165])), (3, (0, 0, 23, [])), (4, (0, 0, 23, [])), (5, (0, 0, 23, [])), (6, (0, 1, 24, [])), (7, (0, 0, 24, [])), (8, (2, 0, 0, [214])), (9, (0, -300000000, 300000000, [])), (10, (0, -300000000, 300000000, [])), (11, (0, -600000000, 600000000, [])), (13, (0, -600000001, 600000000, []))], [(20, [13, 11], [50, 0, 0, 0, 6, 6, 2, 0, 2, 1, 0, 1, 1]), (20, [11, 13], [50, 0, 0, 0, 2, 1, 0, 4, 6, 6, 2, 0, 2, 1, 1, 0, 1]), (1, [11, 9, 10], []), (10, [10, 8, 5], []), (9, [8, 2], [74]), (10, [9, 8, 4], []), (8, [4], [3]), (7, [6, 7], [3]), (20, [7, 2], [30, 0, 1, 0, 0, -1, 3, 2005000]), (20, [7, 2], [30, 0, -1, 0, 0, 1, 3, 2005000]), (20, [2], [50, 1, 3, 5, 2, 128, 127, 5, 2, 0, 24, 4, 14, 0, 6, 4, 2, 7, 0, 0, 1, 3, 0, 2, 2, 0, 5, 2, 9, 0, 2, 0, -1, 3, 0, 128, 7, 0, 2, 9, 0, 5, 3, 0, 128, 7, 0, 0, 24, 4, 9, 0, 2, 0, 0, 3, 0, 127, 7, 0, 2, 17, 0, 9, 4, 5, 3, 0, 127, 7, 0, 0, 1, 3, 0, 2, 2, 0, 5, 2, 12, 0, 2, 0, 0, 3, 0, 128, 3, 0, 127, 7, 0, 0, 12, 4, 8, 3, 0, 128, 3, 0, 127, 7, 0, 0, 1, 3, 0, 128, 7, 0]), (20, [2, 3, 4, 5, 6], [60, 1, 4, 808, 5, 2, 74, 127, 128]), (24, [0, 2], []), (24, [1, 3], [])], [(13, (0, -68000000, 68000000, []))], [], [], [], [(11, 10, -300000000, 300000000), (11, 9, -300000000, 300000000), (6, 7, 0, 4294967296), (1, 3, -4294967296, 0), (3, 1, -4294967296, 0), (4, 5, -4294967296, 0), (4, 6, -4294967296, -1), (5, 6, -4294967296, -1)])
theorem oo_Mo_children_1 {kA : Nat → ClassId} : or_ok PRD kA GG o_Mo_children_1 := by
  refine or_mk fun A ta ws vs hD hth hl => ?_
  intro t0 r0 t1 k1 t2 r2 t3 k3 t4 k4 t5 k5 t6 k6 t7 k7 t8 r8 t9 k9 t10 k10 t11 k11 t13 k13 d0 d1 d2 d3 d4 d5 d6 d7 f0 f1 f2 f3 f4 f5 f6 f7 f8 f9 f10 f11 f12 f13
  replace f3 := shm_107 f3
  replace f4 := shm_647 f4
  replace f5 := shm_107 f5
  replace f8 := shm_126 f8
  replace f9 := shm_127 f9
  replace f11 := shm_1693 f11
  replace f12 := shm_5 f12
  replace f13 := shm_5 f13
  have q2 : n_v vs 2 = n_v vs 0 := f12.symm
  have q3 : n_v vs 3 = n_v vs 1 := f13.symm
  simp only [q2, q3] at f4 f8 f9 f11
  have ad_8 : v_ad (n_v vs 8) = w_ar ws (n_v vs 0) 74 := congrArg v_ad f4
  simp only [ad_8] at f3
  have h3 : v_iv (n_v vs 10) = w_ei ws (w_ar ws (n_v vs 0) 74) (v_iv (n_v vs 5)) := f3
  simp only [ad_8] at f5
  have h5 : v_iv (n_v vs 9) = w_ei ws (w_ar ws (n_v vs 0) 74) (v_iv (n_v vs 4)) := f5
  have hrf0 : (-68000000) ≤ v_iv (n_v vs 13) ∧ v_iv (n_v vs 13) ≤ 68000000 := vc_Mo_children_1_r0 (v_iv (n_v vs 1)) (v_iv (n_v vs 4)) (v_iv (n_v vs 5)) (v_iv (n_v vs 6)) (v_iv (n_v vs 7)) (v_iv (n_v vs 9)) (v_iv (n_v vs 10)) (v_iv (n_v vs 11)) (v_iv (n_v vs 13)) (w_ei ws (w_ar ws (n_v vs 0) 74)) (w_ei ws (w_ar ws (n_v vs 0) 2)) (w_fi ws (n_v vs 0) 5) (w_ei ws (w_ar ws (n_v vs 0) 128)) (w_ei ws (w_ar ws (n_v vs 0) 127)) k1 k4 k5 k6 k7 k9 k10 k11 k13 d2 d5 (shm_41 f0) (shm_42 f1) (shm_12 f2) h3 h5 (shm_32 f6) (shm_2 f7) f8 f9 f11
  have rf13 : tv_ok ta (0, -68000000, 68000000, []) (n_v vs 13) := tv_in t13 (by first | omega | grind) (by first | omega | grind)
  refine ⟨List.forall_mem_cons.mpr ⟨rf13, (fun _ h => (by cases h))⟩, [], trivial, ?_, (fun _ h => (by cases h))⟩
  rw [List.append_nil]
  exact (fun _ h => (by cases h))
set_option maxHeartbeats 4000000 in
theorem vc_Mo_children_2_0 (all_0 : Int → Int) (r_0 : Int) (level_0 : Int → Int) (above_0 : Int → Int) (all_1 : Int → Int) (level_1 : Int → Int) (above_1 : Int → Int) (r_1 : Int) (f18 : ∀ j0 : Int, 0 ≤ j0 → j0 < 24 → (((j0 + 1) ≤ all_1 (r_1)) → (((-1) ≤ level_1 (j0)) ∧ ((level_1 (j0) ≤ 24) ∧ ((0 ≤ above_1 (j0)) → (((above_1 (j0) + 1) ≤ all_1 (r_1)) ∧ ((0 ≤ level_1 (above_1 (j0))) ∧ ((level_1 (above_1 (j0)) + 1) ≤ level_1 (j0))))))))) (fe_0_5_1 : r_0 = r_1) (hE_0_2_1 : ∀ j : Int, all_0 j = all_1 j) (hE_0_127_1 : ∀ j : Int, above_0 j = above_1 j) (hE_0_128_1 : ∀ j : Int, level_0 j = level_1 j) : ∀ j0 : Int, 0 ≤ j0 → j0 < 24 → (((j0 + 1) ≤ all_0 (r_0)) → (((-1) ≤ level_0 (j0)) ∧ ((level_0 (j0) ≤ 24) ∧ ((0 ≤ above_0 (j0)) → (((above_0 (j0) + 1) ≤ all_0 (r_0)) ∧ ((0 ≤ level_0 (above_0 (j0))) ∧ ((level_0 (above_0 (j0)) + 1) ≤ level_0 (j0)))))))) := by
  subst fe_0_5_1
  have e_hE_0_2_1 := funext hE_0_2_1; subst e_hE_0_2_1
  have e_hE_0_127_1 := funext hE_0_127_1; subst e_hE_0_127_1
  have e_hE_0_128_1 := funext hE_0_128_1; subst e_hE_0_128_1
  try simp only [Int.add_zero] at *
  first
    | omega
    | assumption
  
set_option maxHeartbeats 4000000 in
theorem vc_Mo_children_2_1 (x1 : Int) (x4 : Int) (x5 : Int) (x6 : Int) (x7 : Int) (x9 : Int) (x10 : Int) (x11 : Int) (x13 : Int) (all_0 : Int → Int) (r_0 : Int) (level_0 : Int → Int) (above_0 : Int → Int) (nx_1 : Int → Int) (all_1 : Int → Int) (level_1 : Int → Int) (above_1 : Int → Int) (r_1 : Int) (nx_0 : Int → Int) (k1 : 0 ≤ x1 ∧ x1 ≤ 23) (k4 : 0 ≤ x4 ∧ x4 ≤ 23) (k5 : 0 ≤ x5 ∧ x5 ≤ 23) (k6 : 1 ≤ x6 ∧ x6 ≤ 24) (k7 : 0 ≤ x7 ∧ x7 ≤ 24) (k9 : (-300000000) ≤ x9 ∧ x9 ≤ 300000000) (k10 : (-300000000) ≤ x10 ∧ x10 ≤ 300000000) (k11 : (-600000000) ≤ x11 ∧ x11 ≤ 600000000) (k13 : (-68000000) ≤ x13 ∧ x13 ≤ 68000000) (d2 : x7 + 0 ≤ x6 ∧ x6 ≤ x7 + 4294967296) (f0 : (2 * x13) ≤ x11) (f1 : x11 ≤ ((2 * x13) + 1)) (f2 : 1 * x7 + ((-1) * all_0 (r_0 + 0) + 0) ≤ 0) (f3 : (-1) * x7 + (1 * all_0 (r_0 + 0) + 0) ≤ 0) (f10 : x11 = x9 + x10) (h11 : x10 = nx_1 (x5)) (h13 : x9 = nx_1 (x4)) (f14 : 0 ≤ x4) (f15 : x7 ≤ x6) (f19 : CH7 (r_1) (all_1) (nx_1) (above_1) (level_1) (x1) (x4) (x5) (x6)) (fe_0_5_1 : r_0 = r_1) (hE_0_2_1 : ∀ j : Int, all_0 j = all_1 j) (hE_0_74_1 : ∀ j : Int, 0 ≤ j → (j = x1 → nx_0 j = x13) ∧ (j ≠ x1 → nx_0 j = nx_1 j)) (hE_0_127_1 : ∀ j : Int, above_0 j = above_1 j) (hE_0_128_1 : ∀ j : Int, level_0 j = level_1 j) : CHB (r_0) (all_0) (nx_0) (above_0) (level_0) (x1) := by
  subst fe_0_5_1
  have e_hE_0_2_1 := funext hE_0_2_1; subst e_hE_0_2_1
  have e_hE_0_127_1 := funext hE_0_127_1; subst e_hE_0_127_1
  have e_hE_0_128_1 := funext hE_0_128_1; subst e_hE_0_128_1
  try simp only [Int.add_zero] at *
  first
    | exact ch7_end (a := 0) (b := 0) ‹CH7 _ _ _ _ _ _ _ _ _› (by omega) (by assumption) (Or.inl ⟨by omega, by omega⟩)
    | exact ch7_end (a := x9) (b := x10) ‹CH7 _ _ _ _ _ _ _ _ _› (by omega) (by assumption) (Or.inr ⟨by omega, by assumption, by assumption, by omega, by omega⟩)
  
def o_Mo_children_2 : or_T := (88, 14, [(0, (2, 0, 0, [165])), (1, (0, 0, 23, [])), (4, (0, 0, 23, [])), (5, (0, 0, 23, [])), (6, (0, 1, 24, [])), (7, (0, 0, 24, [])), (8, (2, 0, 0, [214])), (9, (0, -300000000, 300000000, [])), (10, (0, -300000000, 300000000, [])), (11, (0, -600000000, 600000000, [])), (13, (0, -68000000, 68000000, []))], [(20, [13, 11], [50, 0, 0, 0, 6, 6, 2, 0, 2, 1, 0, 1, 1]), (20, [11, 13], [50, 0, 0, 0, 2, 1, 0, 4, 6, 6, 2, 0, 2, 1, 1, 0, 1]), (20, [7, 2], [30, 0, 1, 0, 0, -1, 3, 2005000]), (20, [7, 2], [30, 0, -1, 0, 0, 1, 3, 2005000]), (24, [0, 2], []), (24, [1, 3], []), (100, [8, 3, 13], []), (1, [11, 9, 10], []), (10, [10, 8, 5], []), (9, [8, 2], [74]), (10, [9, 8, 4], []), (8, [4], [3]), (7, [6, 7], [3]), (20, [2], [50, 1, 3, 5, 2, 128, 127, 5, 2, 0, 24, 4, 14, 0, 6, 4, 2, 7, 0, 0, 1, 3, 0, 2, 2, 0, 5, 2, 9, 0, 2, 0, -1, 3, 0, 128, 7, 0, 2, 9, 0, 5, 3, 0, 128, 7, 0, 0, 24, 4, 9, 0, 2, 0, 0, 3, 0, 127, 7, 0, 2, 17, 0, 9, 4, 5, 3, 0, 127, 7, 0, 0, 1, 3, 0, 2, 2, 0, 5, 2, 12, 0, 2, 0, 0, 3, 0, 128, 3, 0, 127, 7, 0, 0, 12, 4, 8, 3, 0, 128, 3, 0, 127, 7, 0, 0, 1, 3, 0, 128, 7, 0]), (20, [2, 3, 4, 5, 6], [60, 1, 4, 808, 5, 2, 74, 127, 128])], [], [], [(20, [0], [50, 1, 3, 5, 2, 128, 127, 5, 2, 0, 24, 4, 14, 0, 6, 4, 2, 7, 0, 0, 1, 3, 0, 2, 2, 0, 5, 2, 9, 0, 2, 0, -1, 3, 0, 128, 7, 0, 2, 9, 0, 5, 3, 0, 128, 7, 0, 0, 24, 4, 9, 0, 2, 0, 0, 3, 0, 127, 7, 0, 2, 17, 0, 9, 4, 5, 3, 0, 127, 7, 0, 0, 1, 3, 0, 2, 2, 0, 5, 2, 12, 0, 2, 0, 0, 3, 0, 128, 3, 0, 127, 7, 0, 0, 12, 4, 8, 3, 0, 128, 3, 0, 127, 7, 0, 0, 1, 3, 0, 128, 7, 0]), (20, [0, 1], [60, 1, 4, 807, 5, 2, 74, 127, 128])], [], [(6, 7, 0, 4294967296), (1, 3, -4294967296, 0), (3, 1, -4294967296, 0)])
theorem oo_Mo_children_2 {kA : Nat → ClassId} : or_ok PRD kA GG o_Mo_children_2 := by
  refine or_mk fun A ta ws vs hD hth hl => ?_
  intro t0 r0 t1 k1 t4 k4 t5 k5 t6 k6 t7 k7 t8 r8 t9 k9 t10 k10 t11 k11 t13 k13 d2 d3 d4 f0 f1 f2 f3 f5 f6 ta1 w1 le1 s1 f10 f11 f12 f13 f14 f15 f18 f19
  replace f2 := shm_126 f2
  replace f3 := shm_127 f3
  replace f5 := shm_5 f5
  replace f6 := shm_5 f6
  have s1 : (∀ b j, w_el ws b j = if b = v_ad (n_v vs 8) ∧ j = (v_iv (n_v vs 3)).toNat then v_iv (n_v vs 13) else w_el w1 b j) ∧ ∀ b k, w_fd ws b k = w_fd w1 b k := s1.2
  replace f11 := shm_107 f11
  replace f12 := shm_647 f12
  replace f13 := shm_107 f13
  replace f18 := shm_601 f18
  replace f19 := shm_1693 f19
  have q2 : n_v vs 2 = n_v vs 0 := f5.symm
  have q3 : n_v vs 3 = n_v vs 1 := f6.symm
  simp only [q2] at f2 f3
  rw [q3] at s1
  simp only [q2, q3] at f12 f18 f19
  have ar_0_2_1 : w_ar w1 (n_v vs 0) 2 = w_ar ws (n_v vs 0) 2 := congrArg v_ad (s1.2 _ _).symm
  have cr_0_2 := fdq_10 hD hth r0
  have ar_0_74_1 : w_ar w1 (n_v vs 0) 74 = w_ar ws (n_v vs 0) 74 := congrArg v_ad (s1.2 _ _).symm
  have ar_0_127_1 : w_ar w1 (n_v vs 0) 127 = w_ar ws (n_v vs 0) 127 := congrArg v_ad (s1.2 _ _).symm
  have cr_0_127 := fdq_154 hD hth r0
  have ar_0_128_1 : w_ar w1 (n_v vs 0) 128 = w_ar ws (n_v vs 0) 128 := congrArg v_ad (s1.2 _ _).symm
  have cr_0_128 := fdq_155 hD hth r0
  have ad_8 : v_ad (n_v vs 8) = w_ar ws (n_v vs 0) 74 := (congrArg v_ad f12).trans ar_0_74_1
  simp only [ad_8] at f11
  have h11 : v_iv (n_v vs 10) = w_ei w1 (w_ar ws (n_v vs 0) 74) (v_iv (n_v vs 5)) := f11
  simp only [ad_8] at f13
  have h13 : v_iv (n_v vs 9) = w_ei w1 (w_ar ws (n_v vs 0) 74) (v_iv (n_v vs 4)) := f13
  simp only [ar_0_2_1, ar_0_127_1, ar_0_128_1, ar_0_74_1] at f18 f19
  have fe_0_5_1 : w_fi ws (n_v vs 0) 5 = w_fi w1 (n_v vs 0) 5 := congrArg v_iv (s1.2 _ _)
  have hE_0_2_1 : ∀ j : Int, w_ei ws (w_ar ws (n_v vs 0) 2) j = w_ei w1 (w_ar ws (n_v vs 0) 2) j := el_kp s1.1 r8 cr_0_2 (by decide)
  have hE_0_74_1 : ∀ j : Int, 0 ≤ j → (j = v_iv (n_v vs 1) → w_ei ws (w_ar ws (n_v vs 0) 74) j = v_iv (n_v vs 13)) ∧ (j ≠ v_iv (n_v vs 1) → w_ei ws (w_ar ws (n_v vs 0) 74) j = w_ei w1 (w_ar ws (n_v vs 0) 74) j) := fun j hj => ⟨fun h => by unfold w_ei; rw [s1.1, if_pos ⟨ad_8.symm, by rw [h]⟩], fun h => by unfold w_ei; rw [s1.1, if_neg (fun e => h (by have := e.2; omega))]⟩
  have hE_0_127_1 : ∀ j : Int, w_ei ws (w_ar ws (n_v vs 0) 127) j = w_ei w1 (w_ar ws (n_v vs 0) 127) j := el_kp s1.1 r8 cr_0_127 (by decide)
  have hE_0_128_1 : ∀ j : Int, w_ei ws (w_ar ws (n_v vs 0) 128) j = w_ei w1 (w_ar ws (n_v vs 0) 128) j := el_kp s1.1 r8 cr_0_128 (by decide)
  have nf0 : fc_1 PRD (20, [0], [50, 1, 3, 5, 2, 128, 127, 5, 2, 0, 24, 4, 14, 0, 6, 4, 2, 7, 0, 0, 1, 3, 0, 2, 2, 0, 5, 2, 9, 0, 2, 0, -1, 3, 0, 128, 7, 0, 2, 9, 0, 5, 3, 0, 128, 7, 0, 0, 24, 4, 9, 0, 2, 0, 0, 3, 0, 127, 7, 0, 2, 17, 0, 9, 4, 5, 3, 0, 127, 7, 0, 0, 1, 3, 0, 2, 2, 0, 5, 2, 12, 0, 2, 0, 0, 3, 0, 128, 3, 0, 127, 7, 0, 0, 12, 4, 8, 3, 0, 128, 3, 0, 127, 7, 0, 0, 1, 3, 0, 128, 7, 0]) ws (vs) := ⟨nf_in hl rfl, sgq_601 (vc_Mo_children_2_0 (w_ei ws (w_ar ws (n_v vs 0) 2)) (w_fi ws (n_v vs 0) 5) (w_ei ws (w_ar ws (n_v vs 0) 128)) (w_ei ws (w_ar ws (n_v vs 0) 127)) (w_ei w1 (w_ar ws (n_v vs 0) 2)) (w_ei w1 (w_ar ws (n_v vs 0) 128)) (w_ei w1 (w_ar ws (n_v vs 0) 127)) (w_fi w1 (n_v vs 0) 5) f18 fe_0_5_1 hE_0_2_1 hE_0_127_1 hE_0_128_1)⟩
  have nf1 : fc_1 PRD (20, [0, 1], [60, 1, 4, 807, 5, 2, 74, 127, 128]) ws (vs) := ⟨nf_in hl rfl, sgq_1694 (vc_Mo_children_2_1 (v_iv (n_v vs 1)) (v_iv (n_v vs 4)) (v_iv (n_v vs 5)) (v_iv (n_v vs 6)) (v_iv (n_v vs 7)) (v_iv (n_v vs 9)) (v_iv (n_v vs 10)) (v_iv (n_v vs 11)) (v_iv (n_v vs 13)) (w_ei ws (w_ar ws (n_v vs 0) 2)) (w_fi ws (n_v vs 0) 5) (w_ei ws (w_ar ws (n_v vs 0) 128)) (w_ei ws (w_ar ws (n_v vs 0) 127)) (w_ei w1 (w_ar ws (n_v vs 0) 74)) (w_ei w1 (w_ar ws (n_v vs 0) 2)) (w_ei w1 (w_ar ws (n_v vs 0) 128)) (w_ei w1 (w_ar ws (n_v vs 0) 127)) (w_fi w1 (n_v vs 0) 5) (w_ei ws (w_ar ws (n_v vs 0) 74)) k1 k4 k5 k6 k7 k9 k10 k11 k13 d2 (shm_41 f0) (shm_42 f1) f2 f3 (shm_12 f10) h11 h13 (shm_32 f14) (shm_2 f15) f19 fe_0_5_1 hE_0_2_1 hE_0_74_1 hE_0_127_1 hE_0_128_1)⟩
  refine ⟨(fun _ h => (by cases h)), [], trivial, ?_, (fun _ h => (by cases h))⟩
  rw [List.append_nil]
  exact List.forall_mem_cons.mpr ⟨⟨show (20 : Nat) < 100 from by decide, nf0⟩, List.forall_mem_cons.mpr ⟨⟨show (20 : Nat) < 100 from by decide, nf1⟩, (fun _ h => (by cases h))⟩⟩
set_option maxHeartbeats 4000000 in
theorem vc_Mo_children_3_0 (all_0 : Int → Int) (r_0 : Int) (level_0 : Int → Int) (above_0 : Int → Int) (all_1 : Int → Int) (level_1 : Int → Int) (above_1 : Int → Int) (r_1 : Int) (f11 : ∀ j0 : Int, 0 ≤ j0 → j0 < 24 → (((j0 + 1) ≤ all_1 (r_1)) → (((-1) ≤ level_1 (j0)) ∧ ((level_1 (j0) ≤ 24) ∧ ((0 ≤ above_1 (j0)) → (((above_1 (j0) + 1) ≤ all_1 (r_1)) ∧ ((0 ≤ level_1 (above_1 (j0))) ∧ ((level_1 (above_1 (j0)) + 1) ≤ level_1 (j0))))))))) (fe_0_5_1 : r_0 = r_1) (hE_0_2_1 : ∀ j : Int, all_0 j = all_1 j) (hE_0_127_1 : ∀ j : Int, above_0 j = above_1 j) (hE_0_128_1 : ∀ j : Int, level_0 j = level_1 j) : ∀ j0 : Int, 0 ≤ j0 → j0 < 24 → (((j0 + 1) ≤ all_0 (r_0)) → (((-1) ≤ level_0 (j0)) ∧ ((level_0 (j0) ≤ 24) ∧ ((0 ≤ above_0 (j0)) → (((above_0 (j0) + 1) ≤ all_0 (r_0)) ∧ ((0 ≤ level_0 (above_0 (j0))) ∧ ((level_0 (above_0 (j0)) + 1) ≤ level_0 (j0)))))))) := by
  subst fe_0_5_1
  have e_hE_0_2_1 := funext hE_0_2_1; subst e_hE_0_2_1
  have e_hE_0_127_1 := funext hE_0_127_1; subst e_hE_0_127_1
  have e_hE_0_128_1 := funext hE_0_128_1; subst e_hE_0_128_1
  try simp only [Int.add_zero] at *
  first
    | omega
    | assumption
  
set_option maxHeartbeats 4000000 in
theorem vc_Mo_children_3_1 (x1 : Int) (x4 : Int) (x5 : Int) (x6 : Int) (x7 : Int) (x9 : Int) (all_0 : Int → Int) (r_0 : Int) (level_0 : Int → Int) (above_0 : Int → Int) (all_1 : Int → Int) (level_1 : Int → Int) (above_1 : Int → Int) (r_1 : Int) (nx_1 : Int → Int) (nx_0 : Int → Int) (k1 : 0 ≤ x1 ∧ x1 ≤ 23) (k4 : (-1) ≤ x4 ∧ x4 ≤ (-1)) (k5 : (-1) ≤ x5 ∧ x5 ≤ 23) (k6 : 0 ≤ x6 ∧ x6 ≤ 24) (k7 : 0 ≤ x7 ∧ x7 ≤ 24) (k9 : 0 ≤ x9 ∧ x9 ≤ 0) (d0 : x7 + 0 ≤ x6 ∧ x6 ≤ x7 + 4294967296) (f0 : 1 * x7 + ((-1) * all_0 (r_0 + 0) + 0) ≤ 0) (f1 : (-1) * x7 + (1 * all_0 (r_0 + 0) + 0) ≤ 0) (f6 : x4 < 0) (f8 : x7 ≤ x6) (f12 : CH7 (r_1) (all_1) (nx_1) (above_1) (level_1) (x1) (x4) (x5) (x6)) (fe_0_5_1 : r_0 = r_1) (hE_0_2_1 : ∀ j : Int, all_0 j = all_1 j) (hE_0_74_1 : ∀ j : Int, 0 ≤ j → (j = x1 → nx_0 j = x9) ∧ (j ≠ x1 → nx_0 j = nx_1 j)) (hE_0_127_1 : ∀ j : Int, above_0 j = above_1 j) (hE_0_128_1 : ∀ j : Int, level_0 j = level_1 j) : CHB (r_0) (all_0) (nx_0) (above_0) (level_0) (x1) := by
  subst fe_0_5_1
  have e_hE_0_2_1 := funext hE_0_2_1; subst e_hE_0_2_1
  have e_hE_0_127_1 := funext hE_0_127_1; subst e_hE_0_127_1
  have e_hE_0_128_1 := funext hE_0_128_1; subst e_hE_0_128_1
  try simp only [Int.add_zero] at *
  first
    | exact ch7_end (a := 0) (b := 0) ‹CH7 _ _ _ _ _ _ _ _ _› (by omega) (by assumption) (Or.inl ⟨by omega, by omega⟩)
    | exact ch7_end (a := x9) (b := x10) ‹CH7 _ _ _ _ _ _ _ _ _› (by omega) (by assumption) (Or.inr ⟨by omega, by assumption, by assumption, by omega, by omega⟩)
  
def o_Mo_children_3 : or_T := (88, 10, [(0, (2, 0, 0, [165])), (1, (0, 0, 23, [])), (4, (0, -1, -1, [])), (5, (0, -1, 23, [])), (6, (0, 0, 24, [])), (7, (0, 0, 24, [])), (8, (2, 0, 0, [214])), (9, (0, 0, 0, []))], [(20, [7, 2], [30, 0, 1, 0, 0, -1, 3, 2005000]), (20, [7, 2], [30, 0, -1, 0, 0, 1, 3, 2005000]), (24, [0, 2], []), (24, [1, 3], []), (100, [8, 3, 9], []), (8, [4], [2]), (9, [8, 2], [74]), (7, [6, 7], [3]), (20, [2], [50, 1, 3, 5, 2, 128, 127, 5, 2, 0, 24, 4, 14, 0, 6, 4, 2, 7, 0, 0, 1, 3, 0, 2, 2, 0, 5, 2, 9, 0, 2, 0, -1, 3, 0, 128, 7, 0, 2, 9, 0, 5, 3, 0, 128, 7, 0, 0, 24, 4, 9, 0, 2, 0, 0, 3, 0, 127, 7, 0, 2, 17, 0, 9, 4, 5, 3, 0, 127, 7, 0, 0, 1, 3, 0, 2, 2, 0, 5, 2, 12, 0, 2, 0, 0, 3, 0, 128, 3, 0, 127, 7, 0, 0, 12, 4, 8, 3, 0, 128, 3, 0, 127, 7, 0, 0, 1, 3, 0, 128, 7, 0]), (20, [2, 3, 4, 5, 6], [60, 1, 4, 808, 5, 2, 74, 127, 128])], [], [], [(20, [0], [50, 1, 3, 5, 2, 128, 127, 5, 2, 0, 24, 4, 14, 0, 6, 4, 2, 7, 0, 0, 1, 3, 0, 2, 2, 0, 5, 2, 9, 0, 2, 0, -1, 3, 0, 128, 7, 0, 2, 9, 0, 5, 3, 0, 128, 7, 0, 0, 24, 4, 9, 0, 2, 0, 0, 3, 0, 127, 7, 0, 2, 17, 0, 9, 4, 5, 3, 0, 127, 7, 0, 0, 1, 3, 0, 2, 2, 0, 5, 2, 12, 0, 2, 0, 0, 3, 0, 128, 3, 0, 127, 7, 0, 0, 12, 4, 8, 3, 0, 128, 3, 0, 127, 7, 0, 0, 1, 3, 0, 128, 7, 0]), (20, [0, 1], [60, 1, 4, 807, 5, 2, 74, 127, 128])], [], [(6, 7, 0, 4294967296), (1, 3, -4294967296, 0), (3, 1, -4294967296, 0)])
theorem oo_Mo_children_3 {kA : Nat → ClassId} : or_ok PRD kA GG o_Mo_children_3 := by
  refine or_mk fun A ta ws vs hD hth hl => ?_
  intro t0 r0 t1 k1 t4 k4 t5 k5 t6 k6 t7 k7 t8 r8 t9 k9 d0 d1 d2 f0 f1 f3 f4 ta1 w1 le1 s1 f6 f7 f8 f11 f12
  replace f0 := shm_126 f0
  replace f1 := shm_127 f1
  replace f3 := shm_5 f3
  replace f4 := shm_5 f4
  have s1 : (∀ b j, w_el ws b j = if b = v_ad (n_v vs 8) ∧ j = (v_iv (n_v vs 3)).toNat then v_iv (n_v vs 9) else w_el w1 b j) ∧ ∀ b k, w_fd ws b k = w_fd w1 b k := s1.2
  replace f7 := shm_647 f7
  replace f11 := shm_601 f11
  replace f12 := shm_1693 f12
  have q2 : n_v vs 2 = n_v vs 0 := f3.symm
  have q3 : n_v vs 3 = n_v vs 1 := f4.symm
  simp only [q2] at f0 f1
  rw [q3] at s1
  simp only [q2, q3] at f7 f11 f12
  have ar_0_2_1 : w_ar w1 (n_v vs 0) 2 = w_ar ws (n_v vs 0) 2 := congrArg v_ad (s1.2 _ _).symm
  have cr_0_2 := fdq_10 hD hth r0
  have ar_0_74_1 : w_ar w1 (n_v vs 0) 74 = w_ar ws (n_v vs 0) 74 := congrArg v_ad (s1.2 _ _).symm
  have ar_0_127_1 : w_ar w1 (n_v vs 0) 127 = w_ar ws (n_v vs 0) 127 := congrArg v_ad (s1.2 _ _).symm
  have cr_0_127 := fdq_154 hD hth r0
  have ar_0_128_1 : w_ar w1 (n_v vs 0) 128 = w_ar ws (n_v vs 0) 128 := congrArg v_ad (s1.2 _ _).symm
  have cr_0_128 := fdq_155 hD hth r0
  have ad_8 : v_ad (n_v vs 8) = w_ar ws (n_v vs 0) 74 := (congrArg v_ad f7).trans ar_0_74_1
  simp only [ar_0_2_1, ar_0_127_1, ar_0_128_1, ar_0_74_1] at f11 f12
  have fe_0_5_1 : w_fi ws (n_v vs 0) 5 = w_fi w1 (n_v vs 0) 5 := congrArg v_iv (s1.2 _ _)
  have hE_0_2_1 : ∀ j : Int, w_ei ws (w_ar ws (n_v vs 0) 2) j = w_ei w1 (w_ar ws (n_v vs 0) 2) j := el_kp s1.1 r8 cr_0_2 (by decide)
  have hE_0_74_1 : ∀ j : Int, 0 ≤ j → (j = v_iv (n_v vs 1) → w_ei ws (w_ar ws (n_v vs 0) 74) j = v_iv (n_v vs 9)) ∧ (j ≠ v_iv (n_v vs 1) → w_ei ws (w_ar ws (n_v vs 0) 74) j = w_ei w1 (w_ar ws (n_v vs 0) 74) j) := fun j hj => ⟨fun h => by unfold w_ei; rw [s1.1, if_pos ⟨ad_8.symm, by rw [h]⟩], fun h => by unfold w_ei; rw [s1.1, if_neg (fun e => h (by have := e.2; omega))]⟩
  have hE_0_127_1 : ∀ j : Int, w_ei ws (w_ar ws (n_v vs 0) 127) j = w_ei w1 (w_ar ws (n_v vs 0) 127) j := el_kp s1.1 r8 cr_0_127 (by decide)
  have hE_0_128_1 : ∀ j : Int, w_ei ws (w_ar ws (n_v vs 0) 128) j = w_ei w1 (w_ar ws (n_v vs 0) 128) j := el_kp s1.1 r8 cr_0_128 (by decide)
  have nf0 : fc_1 PRD (20, [0], [50, 1, 3, 5, 2, 128, 127, 5, 2, 0, 24, 4, 14, 0, 6, 4, 2, 7, 0, 0, 1, 3, 0, 2, 2, 0, 5, 2, 9, 0, 2, 0, -1, 3, 0, 128, 7, 0, 2, 9, 0, 5, 3, 0, 128, 7, 0, 0, 24, 4, 9, 0, 2, 0, 0, 3, 0, 127, 7, 0, 2, 17, 0, 9, 4, 5, 3, 0, 127, 7, 0, 0, 1, 3, 0, 2, 2, 0, 5, 2, 12, 0, 2, 0, 0, 3, 0, 128, 3, 0, 127, 7, 0, 0, 12, 4, 8, 3, 0, 128, 3, 0, 127, 7, 0, 0, 1, 3, 0, 128, 7, 0]) ws (vs) := ⟨nf_in hl rfl, sgq_601 (vc_Mo_children_3_0 (w_ei ws (w_ar ws (n_v vs 0) 2)) (w_fi ws (n_v vs 0) 5) (w_ei ws (w_ar ws (n_v vs 0) 128)) (w_ei ws (w_ar ws (n_v vs 0) 127)) (w_ei w1 (w_ar ws (n_v vs 0) 2)) (w_ei w1 (w_ar ws (n_v vs 0) 128)) (w_ei w1 (w_ar ws (n_v vs 0) 127)) (w_fi w1 (n_v vs 0) 5) f11 fe_0_5_1 hE_0_2_1 hE_0_127_1 hE_0_128_1)⟩
  have nf1 : fc_1 PRD (20, [0, 1], [60, 1, 4, 807, 5, 2, 74, 127, 128]) ws (vs) := ⟨nf_in hl rfl, sgq_1694 (vc_Mo_children_3_1 (v_iv (n_v vs 1)) (v_iv (n_v vs 4)) (v_iv (n_v vs 5)) (v_iv (n_v vs 6)) (v_iv (n_v vs 7)) (v_iv (n_v vs 9)) (w_ei ws (w_ar ws (n_v vs 0) 2)) (w_fi ws (n_v vs 0) 5) (w_ei ws (w_ar ws (n_v vs 0) 128)) (w_ei ws (w_ar ws (n_v vs 0) 127)) (w_ei w1 (w_ar ws (n_v vs 0) 2)) (w_ei w1 (w_ar ws (n_v vs 0) 128)) (w_ei w1 (w_ar ws (n_v vs 0) 127)) (w_fi w1 (n_v vs 0) 5) (w_ei w1 (w_ar ws (n_v vs 0) 74)) (w_ei ws (w_ar ws (n_v vs 0) 74)) k1 k4 k5 k6 k7 k9 d0 f0 f1 (shm_39 f6) (shm_2 f8) f12 fe_0_5_1 hE_0_2_1 hE_0_74_1 hE_0_127_1 hE_0_128_1)⟩
  refine ⟨(fun _ h => (by cases h)), [], trivial, ?_, (fun _ h => (by cases h))⟩
  rw [List.append_nil]
  exact List.forall_mem_cons.mpr ⟨⟨show (20 : Nat) < 100 from by decide, nf0⟩, List.forall_mem_cons.mpr ⟨⟨show (20 : Nat) < 100 from by decide, nf1⟩, (fun _ h => (by cases h))⟩⟩
set_option maxHeartbeats 4000000 in
theorem vc_Mo_children_4_0 (x1 : Int) (x6 : Int) (x9 : Int) (above_0 : Int → Int) (k1 : 0 ≤ x1 ∧ x1 ≤ 23) (k6 : 1 ≤ x6 ∧ x6 ≤ 23) (k9 : 0 ≤ x9 ∧ x9 ≤ 23) (f1 : x9 = x1) (h2 : x9 = above_0 (x6)) : above_0 (x6) = x1 := by
  try simp only [Int.add_zero] at *
  first
    | omega
    | assumption
  
set_option maxHeartbeats 4000000 in
theorem vc_Mo_children_4_1 (x1 : Int) (x4 : Int) (x5 : Int) (x6 : Int) (above_0 : Int → Int) (all_0 : Int → Int) (r_0 : Int) (level_0 : Int → Int) (nx_0 : Int → Int) (k1 : 0 ≤ x1 ∧ x1 ≤ 23) (k4 : 0 ≤ x4 ∧ x4 ≤ 22) (k5 : 0 ≤ x5 ∧ x5 ≤ 22) (k6 : 1 ≤ x6 ∧ x6 ≤ 23) (f8 : CH7 (r_0) (all_0) (nx_0) (above_0) (level_0) (x1) (x4) (x5) (x6)) : CHK (r_0) (all_0) (above_0) (level_0) (x1) (x4) (x5) (x6) := by
  exact chk_of ‹CH7 _ _ _ _ _ _ _ _ _›
set_option maxHeartbeats 4000000 in
theorem vc_Mo_children_4_2 (x1 : Int) (x4 : Int) (x5 : Int) (x6 : Int) (x7 : Int) (x9 : Int) (x10 : Int) (above_0 : Int → Int) (all_0 : Int → Int) (r_0 : Int) (level_0 : Int → Int) (nx_0 : Int → Int) (partOf_0 : Int → Int) (k1 : 0 ≤ x1 ∧ x1 ≤ 23) (k4 : 0 ≤ x4 ∧ x4 ≤ 22) (k5 : 0 ≤ x5 ∧ x5 ≤ 22) (k6 : 1 ≤ x6 ∧ x6 ≤ 23) (k7 : 1 ≤ x7 ∧ x7 ≤ 24) (k9 : 0 ≤ x9 ∧ x9 ≤ 23) (k10 : 0 ≤ x10 ∧ x10 ≤ 0) (d1 : x7 + (-4294967296) ≤ x6 ∧ x6 ≤ x7 + (-1)) (f0 : 0 ≤ x4) (f1 : x9 = x1) (h2 : x9 = above_0 (x6)) (f5 : 1 * x7 + ((-1) * all_0 (r_0 + 0) + 0) ≤ 0) (f6 : (-1) * x7 + (1 * all_0 (r_0 + 0) + 0) ≤ 0) (f8 : CH7 (r_0) (all_0) (nx_0) (above_0) (level_0) (x1) (x4) (x5) (x6)) : TRAA (r_0) (all_0) (nx_0) (above_0) (level_0) (partOf_0) (x1) (x6) (x10) := by
  try simp only [Int.add_zero] at *
  first
    | exact (ch7_pre ‹CH7 _ _ _ _ _ _ _ _ _› (by omega) (by assumption) (by omega) (by omega) (by omega)).1
    | exact (ch7_pre (v := above_0 x6) ‹CH7 _ _ _ _ _ _ _ _ _› (by omega) rfl (by omega) (by omega) (by omega)).1
  
set_option maxHeartbeats 4000000 in
theorem vc_Mo_children_4_3 (x1 : Int) (x4 : Int) (x5 : Int) (x6 : Int) (x7 : Int) (x9 : Int) (x10 : Int) (above_0 : Int → Int) (all_0 : Int → Int) (r_0 : Int) (level_0 : Int → Int) (nx_0 : Int → Int) (partOf_0 : Int → Int) (k1 : 0 ≤ x1 ∧ x1 ≤ 23) (k4 : 0 ≤ x4 ∧ x4 ≤ 22) (k5 : 0 ≤ x5 ∧ x5 ≤ 22) (k6 : 1 ≤ x6 ∧ x6 ≤ 23) (k7 : 1 ≤ x7 ∧ x7 ≤ 24) (k9 : 0 ≤ x9 ∧ x9 ≤ 23) (k10 : 0 ≤ x10 ∧ x10 ≤ 0) (d1 : x7 + (-4294967296) ≤ x6 ∧ x6 ≤ x7 + (-1)) (f0 : 0 ≤ x4) (f1 : x9 = x1) (h2 : x9 = above_0 (x6)) (f5 : 1 * x7 + ((-1) * all_0 (r_0 + 0) + 0) ≤ 0) (f6 : (-1) * x7 + (1 * all_0 (r_0 + 0) + 0) ≤ 0) (f8 : CH7 (r_0) (all_0) (nx_0) (above_0) (level_0) (x1) (x4) (x5) (x6)) : NEP (r_0) (all_0) (above_0) (level_0) (partOf_0) (x1) (x6) (x10) := by
  try simp only [Int.add_zero] at *
  first
    | exact (ch7_pre ‹CH7 _ _ _ _ _ _ _ _ _› (by omega) (by assumption) (by omega) (by omega) (by omega)).2
    | exact (ch7_pre (v := above_0 x6) ‹CH7 _ _ _ _ _ _ _ _ _› (by omega) rfl (by omega) (by omega) (by omega)).2
  
def o_Mo_children_4 : or_T := (45, 11, [(1, (0, 0, 23, [])), (4, (0, 0, 22, [])), (5, (0, 0, 22, [])), (6, (0, 1, 23, [])), (7, (0, 1, 24, [])), (9, (0, 0, 23, [])), (10, (0, 0, 0, []))], [(8, [4], [3]), (7, [9, 3], [0]), (10, [9, 8, 6], []), (9, [8, 2], [127]), (20, [7, 2], [30, 0, 1, 0, 0, -1, 3, 2005000]), (20, [7, 2], [30, 0, -1, 0, 0, 1, 3, 2005000]), (20, [2, 3, 4, 5, 6], [60, 1, 4, 808, 5, 2, 74, 127, 128]), (24, [0, 2], []), (24, [1, 3], [])], [], [], [(20, [2, 6, 3], [50, 0, 1, 127, 1, 5, 3, 0, 127, 1, 1, 1, 2]), (20, [2, 3, 4, 5, 6], [60, 1, 3, 809, 5, 2, 127, 128]), (20, [2, 3, 6, 10], [60, 1, 5, 800, 5, 2, 74, 127, 128, 16]), (20, [2, 3, 6, 10], [60, 1, 4, 805, 5, 2, 127, 128, 16])], [], [(6, 7, -4294967296, -1)])
theorem oo_Mo_children_4 {kA : Nat → ClassId} : or_ok PRD kA GG o_Mo_children_4 := by
  refine or_mk fun A ta ws vs hD hth hl => ?_
  intro t1 k1 t4 k4 t5 k5 t6 k6 t7 k7 t9 k9 t10 k10 d1 f0 f1 f2 f3 f5 f6 f8 f9 f10
  replace f0 := shm_32 f0
  replace f1 := shm_37 f1
  replace f2 := shm_107 f2
  replace f3 := shm_600 f3
  replace f5 := shm_126 f5
  replace f6 := shm_127 f6
  replace f8 := shm_1693 f8
  replace f9 := shm_5 f9
  replace f10 := shm_5 f10
  have q2 : n_v vs 2 = n_v vs 0 := f9.symm
  have q3 : n_v vs 3 = n_v vs 1 := f10.symm
  simp only [q3, q2] at f1 f3 f5 f6 f8
  have ad_8 : v_ad (n_v vs 8) = w_ar ws (n_v vs 0) 127 := congrArg v_ad f3
  simp only [ad_8] at f2
  have h2 : v_iv (n_v vs 9) = w_ei ws (w_ar ws (n_v vs 0) 127) (v_iv (n_v vs 6)) := f2
  have nf0 : fc_1 PRD (20, [2, 6, 3], [50, 0, 1, 127, 1, 5, 3, 0, 127, 1, 1, 1, 2]) ws (vs) := by
    refine ⟨nf_in hl rfl, sgq_1695 ?_⟩
    · show w_ei ws (w_ar ws (n_v vs 2) 127) (v_iv (n_v vs 6)) = v_iv (n_v vs 3)
      simp only [q2, q3]
      exact vc_Mo_children_4_0 (v_iv (n_v vs 1)) (v_iv (n_v vs 6)) (v_iv (n_v vs 9)) (w_ei ws (w_ar ws (n_v vs 0) 127)) k1 k6 k9 f1 h2
  have nf1 : fc_1 PRD (20, [2, 3, 4, 5, 6], [60, 1, 3, 809, 5, 2, 127, 128]) ws (vs) := by
    refine ⟨nf_in hl rfl, sgq_1696 ?_⟩
    · show CHK (w_fi ws (n_v vs 2) 5) (w_ei ws (w_ar ws (n_v vs 2) 2)) (w_ei ws (w_ar ws (n_v vs 2) 127)) (w_ei ws (w_ar ws (n_v vs 2) 128)) (v_iv (n_v vs 3)) (v_iv (n_v vs 4)) (v_iv (n_v vs 5)) (v_iv (n_v vs 6))
      simp only [q2, q3]
      exact vc_Mo_children_4_1 (v_iv (n_v vs 1)) (v_iv (n_v vs 4)) (v_iv (n_v vs 5)) (v_iv (n_v vs 6)) (w_ei ws (w_ar ws (n_v vs 0) 127)) (w_ei ws (w_ar ws (n_v vs 0) 2)) (w_fi ws (n_v vs 0) 5) (w_ei ws (w_ar ws (n_v vs 0) 128)) (w_ei ws (w_ar ws (n_v vs 0) 74)) k1 k4 k5 k6 f8
  have nf2 : fc_1 PRD (20, [2, 3, 6, 10], [60, 1, 5, 800, 5, 2, 74, 127, 128, 16]) ws (vs) := by
    refine ⟨nf_in hl rfl, sgq_1575 ?_⟩
    · show TRAA (w_fi ws (n_v vs 2) 5) (w_ei ws (w_ar ws (n_v vs 2) 2)) (w_ei ws (w_ar ws (n_v vs 2) 74)) (w_ei ws (w_ar ws (n_v vs 2) 127)) (w_ei ws (w_ar ws (n_v vs 2) 128)) (w_ei ws (w_ar ws (n_v vs 2) 16)) (v_iv (n_v vs 3)) (v_iv (n_v vs 6)) (v_iv (n_v vs 10))
      simp only [q2, q3]
      exact vc_Mo_children_4_2 (v_iv (n_v vs 1)) (v_iv (n_v vs 4)) (v_iv (n_v vs 5)) (v_iv (n_v vs 6)) (v_iv (n_v vs 7)) (v_iv (n_v vs 9)) (v_iv (n_v vs 10)) (w_ei ws (w_ar ws (n_v vs 0) 127)) (w_ei ws (w_ar ws (n_v vs 0) 2)) (w_fi ws (n_v vs 0) 5) (w_ei ws (w_ar ws (n_v vs 0) 128)) (w_ei ws (w_ar ws (n_v vs 0) 74)) (w_ei ws (w_ar ws (n_v vs 0) 16)) k1 k4 k5 k6 k7 k9 k10 d1 f0 f1 h2 f5 f6 f8
  have nf3 : fc_1 PRD (20, [2, 3, 6, 10], [60, 1, 4, 805, 5, 2, 127, 128, 16]) ws (vs) := by
    refine ⟨nf_in hl rfl, sgq_1576 ?_⟩
    · show NEP (w_fi ws (n_v vs 2) 5) (w_ei ws (w_ar ws (n_v vs 2) 2)) (w_ei ws (w_ar ws (n_v vs 2) 127)) (w_ei ws (w_ar ws (n_v vs 2) 128)) (w_ei ws (w_ar ws (n_v vs 2) 16)) (v_iv (n_v vs 3)) (v_iv (n_v vs 6)) (v_iv (n_v vs 10))
      simp only [q2, q3]
      exact vc_Mo_children_4_3 (v_iv (n_v vs 1)) (v_iv (n_v vs 4)) (v_iv (n_v vs 5)) (v_iv (n_v vs 6)) (v_iv (n_v vs 7)) (v_iv (n_v vs 9)) (v_iv (n_v vs 10)) (w_ei ws (w_ar ws (n_v vs 0) 127)) (w_ei ws (w_ar ws (n_v vs 0) 2)) (w_fi ws (n_v vs 0) 5) (w_ei ws (w_ar ws (n_v vs 0) 128)) (w_ei ws (w_ar ws (n_v vs 0) 74)) (w_ei ws (w_ar ws (n_v vs 0) 16)) k1 k4 k5 k6 k7 k9 k10 d1 f0 f1 h2 f5 f6 f8
  refine ⟨(fun _ h => (by cases h)), [], trivial, ?_, (fun _ h => (by cases h))⟩
  rw [List.append_nil]
  exact List.forall_mem_cons.mpr ⟨⟨show (20 : Nat) < 100 from by decide, nf0⟩, List.forall_mem_cons.mpr ⟨⟨show (20 : Nat) < 100 from by decide, nf1⟩, List.forall_mem_cons.mpr ⟨⟨show (20 : Nat) < 100 from by decide, nf2⟩, List.forall_mem_cons.mpr ⟨⟨show (20 : Nat) < 100 from by decide, nf3⟩, (fun _ h => (by cases h))⟩⟩⟩⟩
set_option maxHeartbeats 4000000 in
theorem vc_Mo_children_5_0 (x1 : Int) (x4 : Int) (x5 : Int) (x6 : Int) (x7 : Int) (x10 : Int) (x11 : Int) (above_0 : Int → Int) (all_0 : Int → Int) (level_0 : Int → Int) (r_0 : Int) (partOf_0 : Int → Int) (nx_0 : Int → Int) (k1 : 0 ≤ x1 ∧ x1 ≤ 23) (k4 : 0 ≤ x4 ∧ x4 ≤ 22) (k5 : 0 ≤ x5 ∧ x5 ≤ 22) (k6 : 1 ≤ x6 ∧ x6 ≤ 23) (k7 : 1 ≤ x7 ∧ x7 ≤ 24) (k10 : 0 ≤ x10 ∧ x10 ≤ 0) (k11 : 2 ≤ x11 ∧ x11 ≤ 24) (d0 : x6 + 1 ≤ x11 ∧ x11 ≤ x6 + 1) (d3 : x7 + (-4294967296) ≤ x6 ∧ x6 ≤ x7 + (-1)) (f0 : x11 = x6 + 1) (f1 : above_0 (x6) = x1) (f2 : CHK (r_0) (all_0) (above_0) (level_0) (x1) (x4) (x5) (x6)) (f4 : 1 * x7 + ((-1) * all_0 (r_0 + 0) + 0) ≤ 0) (f5 : (-1) * x7 + (1 * all_0 (r_0 + 0) + 0) ≤ 0) (f9 : TRZ (r_0) (all_0) (nx_0) (above_0) (level_0) (partOf_0) (x1) (x6) (x10)) (f11 : 0 ≤ x4) : CH7 (r_0) (all_0) (nx_0) (above_0) (level_0) (x1) (x4) (x6) (x11) := by
  try simp only [Int.add_zero] at *
  first
    | exact ch7_start ‹CHA _ _ _ _ _ _› (by omega) (by omega)
    | exact ch7_next (v := above_0 x6) (many := x10) ‹CHK _ _ _ _ _ _ _ _› (by omega) (by omega) rfl (by omega) (by omega) (by omega) (by omega) ‹TRZ _ _ _ _ _ _ _ _ _›
    | exact ch7_next (v := above_0 x6) (l := x5) (pt := partOf_0) (many := x10) ‹CHK _ _ _ _ _ _ _ _› (by omega) (by omega) (by rfl) (by assumption) (by omega) (by omega) (by omega) ‹TRZ _ _ _ _ _ _ _ _ _›
    | exact ch7_first ‹CH7 _ _ _ _ _ _ _ _ _› (by omega) (by omega) (by assumption) (by omega) (by omega) (by omega)
    | exact ch7_skip ‹CH7 _ _ _ _ _ _ _ _ _› (by omega) (by omega)
  
def o_Mo_children_5 : or_T := (7, 12, [(1, (0, 0, 23, [])), (4, (0, 0, 22, [])), (5, (0, 0, 22, [])), (6, (0, 1, 23, [])), (7, (0, 1, 24, [])), (10, (0, 0, 0, [])), (11, (0, 2, 24, []))], [(6, [11, 6], [1]), (20, [2, 6, 3], [50, 0, 1, 127, 1, 5, 3, 0, 127, 1, 1, 1, 2]), (20, [2, 3, 4, 5, 6], [60, 1, 3, 809, 5, 2, 127, 128]), (20, [7, 2], [30, 0, 1, 0, 0, -1, 3, 2005000]), (20, [7, 2], [30, 0, -1, 0, 0, 1, 3, 2005000]), (24, [0, 2], []), (24, [1, 3], []), (20, [2, 3, 6, 10], [60, 1, 5, 801, 5, 2, 74, 127, 128, 16]), (102, [10], [26328072917139296674479506920917608079723773850137277813577744384]), (8, [4], [3])], [], [], [(20, [2, 3, 4, 6, 11], [60, 1, 4, 808, 5, 2, 74, 127, 128])], [], [(11, 6, 1, 1), (6, 7, -4294967296, -1)])
theorem oo_Mo_children_5 {kA : Nat → ClassId} : or_ok PRD kA GG o_Mo_children_5 := by
  refine or_mk fun A ta ws vs hD hth hl => ?_
  intro t1 k1 t4 k4 t5 k5 t6 k6 t7 k7 t10 k10 t11 k11 d0 d3 f0 f1 f2 f4 f5 f6 f7 f9 ta1 w1 le1 s1 f11
  replace f0 := shm_4 f0
  replace f1 := shm_1695 f1
  replace f2 := shm_1696 f2
  replace f4 := shm_126 f4
  replace f5 := shm_127 f5
  replace f6 := shm_5 f6
  replace f7 := shm_5 f7
  replace f9 := shm_1580 f9
  replace f11 := shm_32 f11
  have q2 : n_v vs 2 = n_v vs 0 := f6.symm
  have q3 : n_v vs 3 = n_v vs 1 := f7.symm
  simp only [q2, q3] at f1 f2 f4 f5 f9
  have nf0 : fc_1 PRD (20, [2, 3, 4, 6, 11], [60, 1, 4, 808, 5, 2, 74, 127, 128]) ws (vs) := by
    refine ⟨nf_in hl rfl, sgq_1693 ?_⟩
    · show CH7 (w_fi ws (n_v vs 2) 5) (w_ei ws (w_ar ws (n_v vs 2) 2)) (w_ei ws (w_ar ws (n_v vs 2) 74)) (w_ei ws (w_ar ws (n_v vs 2) 127)) (w_ei ws (w_ar ws (n_v vs 2) 128)) (v_iv (n_v vs 3)) (v_iv (n_v vs 4)) (v_iv (n_v vs 6)) (v_iv (n_v vs 11))
      simp only [q2, q3]
      exact vc_Mo_children_5_0 (v_iv (n_v vs 1)) (v_iv (n_v vs 4)) (v_iv (n_v vs 5)) (v_iv (n_v vs 6)) (v_iv (n_v vs 7)) (v_iv (n_v vs 10)) (v_iv (n_v vs 11)) (w_ei ws (w_ar ws (n_v vs 0) 127)) (w_ei ws (w_ar ws (n_v vs 0) 2)) (w_ei ws (w_ar ws (n_v vs 0) 128)) (w_fi ws (n_v vs 0) 5) (w_ei ws (w_ar ws (n_v vs 0) 16)) (w_ei ws (w_ar ws (n_v vs 0) 74)) k1 k4 k5 k6 k7 k10 k11 d0 d3 f0 f1 f2 f4 f5 f9 f11
  refine ⟨(fun _ h => (by cases h)), [], trivial, ?_, (fun _ h => (by cases h))⟩
  rw [List.append_nil]
  exact List.forall_mem_cons.mpr ⟨⟨show (20 : Nat) < 100 from by decide, nf0⟩, (fun _ h => (by cases h))⟩
set_option maxHeartbeats 4000000 in
theorem vc_Mo_children_6_0 (x1 : Int) (x4 : Int) (x5 : Int) (x6 : Int) (x7 : Int) (x9 : Int) (x10 : Int) (above_0 : Int → Int) (all_0 : Int → Int) (r_0 : Int) (level_0 : Int → Int) (nx_0 : Int → Int) (k1 : 0 ≤ x1 ∧ x1 ≤ 23) (k4 : (-1) ≤ x4 ∧ x4 ≤ (-1)) (k5 : (-1) ≤ x5 ∧ x5 ≤ 22) (k6 : 0 ≤ x6 ∧ x6 ≤ 23) (k7 : 1 ≤ x7 ∧ x7 ≤ 24) (k9 : 0 ≤ x9 ∧ x9 ≤ 23) (k10 : 1 ≤ x10 ∧ x10 ≤ 24) (d0 : x6 + 1 ≤ x10 ∧ x10 ≤ x6 + 1) (d3 : x7 + (-4294967296) ≤ x6 ∧ x6 ≤ x7 + (-1)) (f0 : x10 = x6 + 1) (f2 : x9 = x1) (h3 : x9 = above_0 (x6)) (f6 : 1 * x7 + ((-1) * all_0 (r_0 + 0) + 0) ≤ 0) (f7 : (-1) * x7 + (1 * all_0 (r_0 + 0) + 0) ≤ 0) (f9 : CH7 (r_0) (all_0) (nx_0) (above_0) (level_0) (x1) (x4) (x5) (x6)) : CH7 (r_0) (all_0) (nx_0) (above_0) (level_0) (x1) (x6) (x6) (x10) := by
  try simp only [Int.add_zero] at *
  first
    | exact ch7_start ‹CHA _ _ _ _ _ _› (by omega) (by omega)
    | exact ch7_next (v := above_0 x6) (many := x10) ‹CHK _ _ _ _ _ _ _ _› (by omega) (by omega) rfl (by omega) (by omega) (by omega) (by omega) ‹TRZ _ _ _ _ _ _ _ _ _›
    | exact ch7_next (v := above_0 x6) (l := x5) (pt := partOf_0) (many := x10) ‹CHK _ _ _ _ _ _ _ _› (by omega) (by omega) (by rfl) (by assumption) (by omega) (by omega) (by omega) ‹TRZ _ _ _ _ _ _ _ _ _›
    | exact ch7_first ‹CH7 _ _ _ _ _ _ _ _ _› (by omega) (by omega) (by assumption) (by omega) (by omega) (by omega)
    | exact ch7_skip ‹CH7 _ _ _ _ _ _ _ _ _› (by omega) (by omega)
  
def o_Mo_children_6 : or_T := (7, 11, [(0, (2, 0, 0, [165])), (1, (0, 0, 23, [])), (2, (2, 0, 0, [165])), (3, (0, 0, 23, [])), (4, (0, -1, -1, [])), (5, (0, -1, 22, [])), (6, (0, 0, 23, [])), (7, (0, 1, 24, [])), (8, (2, 0, 0, [257])), (9, (0, 0, 23, [])), (10, (0, 1, 24, []))], [(6, [10, 6], [1]), (8, [4], [2]), (7, [9, 3], [0]), (10, [9, 8, 6], []), (9, [8, 2], [127]), (7, [6, 7], [2]), (20, [7, 2], [30, 0, 1, 0, 0, -1, 3, 2005000]), (20, [7, 2], [30, 0, -1, 0, 0, 1, 3, 2005000]), (20, [2], [50, 1, 3, 5, 2, 128, 127, 5, 2, 0, 24, 4, 14, 0, 6, 4, 2, 7, 0, 0, 1, 3, 0, 2, 2, 0, 5, 2, 9, 0, 2, 0, -1, 3, 0, 128, 7, 0, 2, 9, 0, 5, 3, 0, 128, 7, 0, 0, 24, 4, 9, 0, 2, 0, 0, 3, 0, 127, 7, 0, 2, 17, 0, 9, 4, 5, 3, 0, 127, 7, 0, 0, 1, 3, 0, 2, 2, 0, 5, 2, 12, 0, 2, 0, 0, 3, 0, 128, 3, 0, 127, 7, 0, 0, 12, 4, 8, 3, 0, 128, 3, 0, 127, 7, 0, 0, 1, 3, 0, 128, 7, 0]), (20, [2, 3, 4, 5, 6], [60, 1, 4, 808, 5, 2, 74, 127, 128]), (24, [0, 2], []), (24, [1, 3], [])], [], [], [(20, [2, 3, 6, 6, 10], [60, 1, 4, 808, 5, 2, 74, 127, 128])], [], [(10, 6, 1, 1), (10, 7, -4294967296, 0), (9, 3, 0, 0), (6, 7, -4294967296, -1), (1, 3, -4294967296, 0), (3, 1, -4294967296, 0), (5, 6, -4294967296, -1)])
theorem oo_Mo_children_6 {kA : Nat → ClassId} : or_ok PRD kA GG o_Mo_children_6 := by
  refine or_mk fun A ta ws vs hD hth hl => ?_
  intro t0 r0 t1 k1 t2 r2 t3 k3 t4 k4 t5 k5 t6 k6 t7 k7 t8 r8 t9 k9 t10 k10 d0 d1 d2 d3 d4 d5 d6 f0 f1 f2 f3 f4 f5 f6 f7 f8 f9 f10 f11
  replace f0 := shm_4 f0
  replace f2 := shm_37 f2
  replace f3 := shm_107 f3
  replace f4 := shm_600 f4
  replace f6 := shm_126 f6
  replace f7 := shm_127 f7
  replace f9 := shm_1693 f9
  replace f10 := shm_5 f10
  replace f11 := shm_5 f11
  have q2 : n_v vs 2 = n_v vs 0 := f10.symm
  have q3 : n_v vs 3 = n_v vs 1 := f11.symm
  simp only [q3, q2] at f2 f4 f6 f7 f9
  have ad_8 : v_ad (n_v vs 8) = w_ar ws (n_v vs 0) 127 := congrArg v_ad f4
  simp only [ad_8] at f3
  have h3 : v_iv (n_v vs 9) = w_ei ws (w_ar ws (n_v vs 0) 127) (v_iv (n_v vs 6)) := f3
  have nf0 : fc_1 PRD (20, [2, 3, 6, 6, 10], [60, 1, 4, 808, 5, 2, 74, 127, 128]) ws (vs) := by
    refine ⟨nf_in hl rfl, sgq_1697 ?_⟩
    · show CH7 (w_fi ws (n_v vs 2) 5) (w_ei ws (w_ar ws (n_v vs 2) 2)) (w_ei ws (w_ar ws (n_v vs 2) 74)) (w_ei ws (w_ar ws (n_v vs 2) 127)) (w_ei ws (w_ar ws (n_v vs 2) 128)) (v_iv (n_v vs 3)) (v_iv (n_v vs 6)) (v_iv (n_v vs 6)) (v_iv (n_v vs 10))
      simp only [q2, q3]
      exact vc_Mo_children_6_0 (v_iv (n_v vs 1)) (v_iv (n_v vs 4)) (v_iv (n_v vs 5)) (v_iv (n_v vs 6)) (v_iv (n_v vs 7)) (v_iv (n_v vs 9)) (v_iv (n_v vs 10)) (w_ei ws (w_ar ws (n_v vs 0) 127)) (w_ei ws (w_ar ws (n_v vs 0) 2)) (w_fi ws (n_v vs 0) 5) (w_ei ws (w_ar ws (n_v vs 0) 128)) (w_ei ws (w_ar ws (n_v vs 0) 74)) k1 k4 k5 k6 k7 k9 k10 d0 d3 f0 f2 h3 f6 f7 f9
  refine ⟨(fun _ h => (by cases h)), [], trivial, ?_, (fun _ h => (by cases h))⟩
  rw [List.append_nil]
  exact List.forall_mem_cons.mpr ⟨⟨show (20 : Nat) < 100 from by decide, nf0⟩, (fun _ h => (by cases h))⟩
set_option maxHeartbeats 4000000 in
theorem vc_Mo_children_7_0 (x1 : Int) (x4 : Int) (x5 : Int) (x6 : Int) (x7 : Int) (x10 : Int) (above_0 : Int → Int) (all_0 : Int → Int) (r_0 : Int) (level_0 : Int → Int) (nx_0 : Int → Int) (k1 : 0 ≤ x1 ∧ x1 ≤ 23) (k4 : (-1) ≤ x4 ∧ x4 ≤ 22) (k5 : (-1) ≤ x5 ∧ x5 ≤ 22) (k6 : 0 ≤ x6 ∧ x6 ≤ 23) (k7 : 1 ≤ x7 ∧ x7 ≤ 24) (k10 : 1 ≤ x10 ∧ x10 ≤ 24) (d0 : x6 + 1 ≤ x10 ∧ x10 ≤ x6 + 1) (d2 : x7 + (-4294967296) ≤ x6 ∧ x6 ≤ x7 + (-1)) (f0 : x10 = x6 + 1) (f5 : 1 * x7 + ((-1) * all_0 (r_0 + 0) + 0) ≤ 0) (f6 : (-1) * x7 + (1 * all_0 (r_0 + 0) + 0) ≤ 0) (f8 : CH7 (r_0) (all_0) (nx_0) (above_0) (level_0) (x1) (x4) (x5) (x6)) : CH7 (r_0) (all_0) (nx_0) (above_0) (level_0) (x1) (x4) (x5) (x10) := by
  try simp only [Int.add_zero] at *
  first
    | exact ch7_start ‹CHA _ _ _ _ _ _› (by omega) (by omega)
    | exact ch7_next (v := above_0 x6) (many := x10) ‹CHK _ _ _ _ _ _ _ _› (by omega) (by omega) rfl (by omega) (by omega) (by omega) (by omega) ‹TRZ _ _ _ _ _ _ _ _ _›
    | exact ch7_next (v := above_0 x6) (l := x5) (pt := partOf_0) (many := x10) ‹CHK _ _ _ _ _ _ _ _› (by omega) (by omega) (by rfl) (by assumption) (by omega) (by omega) (by omega) ‹TRZ _ _ _ _ _ _ _ _ _›
    | exact ch7_first ‹CH7 _ _ _ _ _ _ _ _ _› (by omega) (by omega) (by assumption) (by omega) (by omega) (by omega)
    | exact ch7_skip ‹CH7 _ _ _ _ _ _ _ _ _› (by omega) (by omega)
  
def o_Mo_children_7 : or_T := (7, 11, [(0, (2, 0, 0, [165])), (1, (0, 0, 23, [])), (2, (2, 0, 0, [165])), (3, (0, 0, 23, [])), (4, (0, -1, 22, [])), (5, (0, -1, 22, [])), (6, (0, 0, 23, [])), (7, (0, 1, 24, [])), (8, (2, 0, 0, [257])), (9, (0, -1, 23, [])), (10, (0, 1, 24, []))], [(6, [10, 6], [1]), (7, [9, 3], [1]), (10, [9, 8, 6], []), (9, [8, 2], [127]), (7, [6, 7], [2]), (20, [7, 2], [30, 0, 1, 0, 0, -1, 3, 2005000]), (20, [7, 2], [30, 0, -1, 0, 0, 1, 3, 2005000]), (20, [2], [50, 1, 3, 5, 2, 128, 127, 5, 2, 0, 24, 4, 14, 0, 6, 4, 2, 7, 0, 0, 1, 3, 0, 2, 2, 0, 5, 2, 9, 0, 2, 0, -1, 3, 0, 128, 7, 0, 2, 9, 0, 5, 3, 0, 128, 7, 0, 0, 24, 4, 9, 0, 2, 0, 0, 3, 0, 127, 7, 0, 2, 17, 0, 9, 4, 5, 3, 0, 127, 7, 0, 0, 1, 3, 0, 2, 2, 0, 5, 2, 12, 0, 2, 0, 0, 3, 0, 128, 3, 0, 127, 7, 0, 0, 12, 4, 8, 3, 0, 128, 3, 0, 127, 7, 0, 0, 1, 3, 0, 128, 7, 0]), (20, [2, 3, 4, 5, 6], [60, 1, 4, 808, 5, 2, 74, 127, 128]), (24, [0, 2], []), (24, [1, 3], [])], [], [], [(20, [2, 3, 4, 5, 10], [60, 1, 4, 808, 5, 2, 74, 127, 128])], [], [(10, 6, 1, 1), (10, 7, -4294967296, 0), (6, 7, -4294967296, -1), (1, 3, -4294967296, 0), (3, 1, -4294967296, 0), (4, 5, -4294967296, 0), (4, 6, -4294967296, -1), (5, 6, -4294967296, -1)])
theorem oo_Mo_children_7 {kA : Nat → ClassId} : or_ok PRD kA GG o_Mo_children_7 := by
  refine or_mk fun A ta ws vs hD hth hl => ?_
  intro t0 r0 t1 k1 t2 r2 t3 k3 t4 k4 t5 k5 t6 k6 t7 k7 t8 r8 t9 k9 t10 k10 d0 d1 d2 d3 d4 d5 d6 d7 f0 f1 f2 f3 f4 f5 f6 f7 f8 f9 f10
  replace f0 := shm_4 f0
  replace f5 := shm_126 f5
  replace f6 := shm_127 f6
  replace f8 := shm_1693 f8
  replace f9 := shm_5 f9
  replace f10 := shm_5 f10
  have q2 : n_v vs 2 = n_v vs 0 := f9.symm
  have q3 : n_v vs 3 = n_v vs 1 := f10.symm
  simp only [q3, q2] at f5 f6 f8
  have nf0 : fc_1 PRD (20, [2, 3, 4, 5, 10], [60, 1, 4, 808, 5, 2, 74, 127, 128]) ws (vs) := by
    refine ⟨nf_in hl rfl, sgq_1693 ?_⟩
    · show CH7 (w_fi ws (n_v vs 2) 5) (w_ei ws (w_ar ws (n_v vs 2) 2)) (w_ei ws (w_ar ws (n_v vs 2) 74)) (w_ei ws (w_ar ws (n_v vs 2) 127)) (w_ei ws (w_ar ws (n_v vs 2) 128)) (v_iv (n_v vs 3)) (v_iv (n_v vs 4)) (v_iv (n_v vs 5)) (v_iv (n_v vs 10))
      simp only [q2, q3]
      exact vc_Mo_children_7_0 (v_iv (n_v vs 1)) (v_iv (n_v vs 4)) (v_iv (n_v vs 5)) (v_iv (n_v vs 6)) (v_iv (n_v vs 7)) (v_iv (n_v vs 10)) (w_ei ws (w_ar ws (n_v vs 0) 127)) (w_ei ws (w_ar ws (n_v vs 0) 2)) (w_fi ws (n_v vs 0) 5) (w_ei ws (w_ar ws (n_v vs 0) 128)) (w_ei ws (w_ar ws (n_v vs 0) 74)) k1 k4 k5 k6 k7 k10 d0 d2 f0 f5 f6 f8
  refine ⟨(fun _ h => (by cases h)), [], trivial, ?_, (fun _ h => (by cases h))⟩
  rw [List.append_nil]
  exact List.forall_mem_cons.mpr ⟨⟨show (20 : Nat) < 100 from by decide, nf0⟩, (fun _ h => (by cases h))⟩
def n_Mo_children_an : List an_T := [(7, [(0, (2, 0, 0, [165])), (1, (0, 0, 23, [])), (2, (0, (Int.negSucc 0), 23, [])), (3, (0, (Int.negSucc 0), 23, [])), (4, (0, 0, 24, []))], [], (0, 0), [(0, 0, 99993), (1, 6, 24), (0, 0, 100000)], [(1, 3, (Int.negSucc 999999999999), 0), (3, 1, (Int.negSucc 999999999999), 0), (4, 5, (Int.negSucc 999999999999), 0), (4, 6, (Int.negSucc 999999999999), (Int.negSucc 0)), (5, 6, (Int.negSucc 999999999999), (Int.negSucc 0))], [], [(2, 0, 0, [165]), (0, 0, 23, [])], 0, [], [(20, [2], [50, 1, 3, 5, 2, 128, 127, 5, 2, 0, 24, 4, 14, 0, 6, 4, 2, 7, 0, 0, 1, 3, 0, 2, 2, 0, 5, 2, 9, 0, 2, 0, (Int.negSucc 0), 3, 0, 128, 7, 0, 2, 9, 0, 5, 3, 0, 128, 7, 0, 0, 24, 4, 9, 0, 2, 0, 0, 3, 0, 127, 7, 0, 2, 17, 0, 9, 4, 5, 3, 0, 127, 7, 0, 0, 1, 3, 0, 2, 2, 0, 5, 2, 12, 0, 2, 0, 0, 3, 0, 128, 3, 0, 127, 7, 0, 0, 12, 4, 8, 3, 0, 128, 3, 0, 127, 7, 0, 0, 1, 3, 0, 128, 7, 0]), (20, [2, 3, 4, 5, 6], [60, 1, 4, 808, 5, 2, 74, 127, 128]), (24, [0, 2], []), (24, [1, 3], [])])]
def t_Mo_children_ct : ct_L := [(1, 475, e_Mo_nodes), (1, 951, e_Mo_nearer), (255, 931, e_jMath_floorDiv1_v161)]
set_option maxRecDepth 100000 in
theorem c_Mo_children {l : Launch} {D : va_G} {kA : Nat → ClassId} (h_Mo_nearer : ct_ok PRD l D kA GG y_Mo_nearer z_Mo_nearer e_Mo_nearer) (h_Mo_nodes : ct_ok PRD l D kA GG y_Mo_nodes z_Mo_nodes e_Mo_nodes) : ct_ok PRD l D kA GG y_Mo_children z_Mo_children e_Mo_children := chk_all_ok (FT := [(159, 13, 74), (290, 13, 127)]) (PT := []) (CT := t_Mo_children_ct) (KT := []) (NT := []) (AN := n_Mo_children_an) (OT := [o_Mo_children_0, o_Mo_children_1, o_Mo_children_2, o_Mo_children_3, o_Mo_children_4, o_Mo_children_5, o_Mo_children_6, o_Mo_children_7]) 3 236 (List.forall_mem_cons.mpr ⟨oo_Mo_children_0, List.forall_mem_cons.mpr ⟨oo_Mo_children_1, List.forall_mem_cons.mpr ⟨oo_Mo_children_2, List.forall_mem_cons.mpr ⟨oo_Mo_children_3, List.forall_mem_cons.mpr ⟨oo_Mo_children_4, List.forall_mem_cons.mpr ⟨oo_Mo_children_5, List.forall_mem_cons.mpr ⟨oo_Mo_children_6, List.forall_mem_cons.mpr ⟨oo_Mo_children_7, List.forall_mem_nil _⟩⟩⟩⟩⟩⟩⟩⟩) (by decide +kernel) ⟨List.forall_mem_cons.mpr ⟨gf_Mo_159, List.forall_mem_cons.mpr ⟨gf_Mo_290, List.forall_mem_nil _⟩⟩, List.forall_mem_nil _, List.forall_mem_cons.mpr ⟨cl_virtual (y := y_Mo_nodes) (ci := 13) rfl rfl ⟨_, _, rfl⟩ (by decide +kernel) h_Mo_nodes wm_3025 wm_9 wm_3022 wm_3024 wv_13_3 ⟨by decide, by decide, by decide +kernel⟩ (by decide), List.forall_mem_cons.mpr ⟨cl_virtual (y := y_Mo_nearer) (ci := 13) rfl rfl ⟨_, _, rfl⟩ (by decide +kernel) h_Mo_nearer wm_3572 wm_9 wm_3569 wm_3571 wv_20_12 ⟨by decide, by decide, by decide +kernel⟩ (by decide), List.forall_mem_cons.mpr ⟨cl_static (y := y_jMath_floorDiv1) c_jMath_floorDiv1_v161 wm_1617 wm_10 wm_3556 wm_1616 ⟨by decide, by decide, by decide +kernel⟩ (by decide), List.forall_mem_nil _⟩⟩⟩, List.forall_mem_nil _, List.forall_mem_nil _, GG_pl⟩ (by decide +kernel)
set_option maxHeartbeats 4000000 in
theorem vc_Mo_core_0_0 (x1 : Int) (x2 : Int) (all_0 : Int → Int) (r_0 : Int) (k1 : 0 ≤ x1 ∧ x1 ≤ 23) (k2 : 0 ≤ x2 ∧ x2 ≤ 0) (f0 : 1 * x1 + ((-1) * all_0 (r_0 + 0) + 0) ≤ (-1)) : 1 * x2 + 0 ≤ 48 := by
  first | assumption | omega | grind
def o_Mo_core_0 : or_T := (2, 3, [(1, (0, 0, 23, [])), (2, (0, 0, 0, []))], [(20, [1, 0], [30, -1, 1, 0, 0, -1, 3, 2005000])], [], [], [(23, [2], [48, 1])], [], [])
set_option maxHeartbeats 8000000 in
theorem oo_Mo_core_0 {kA : Nat → ClassId} : or_ok PRD kA GG o_Mo_core_0 := by
  refine or_mk fun A ta ws vs hD hth hl => ?_
  intro t1 k1 t2 k2 f0
  have nf0 : fc_1 PRD (23, [2], [48, 1]) ws (vs) := ⟨nf_in hl rfl, sgq_1698 (vc_Mo_core_0_0 (v_iv (n_v vs 1)) (v_iv (n_v vs 2)) (w_ei ws (w_ar ws (n_v vs 0) 2)) (w_fi ws (n_v vs 0) 5) k1 k2 (shm_269 f0))⟩
  refine ⟨(fun _ h => (by cases h)), [], trivial, ?_, (fun _ h => (by cases h))⟩
  rw [List.append_nil]
  exact List.forall_mem_cons.mpr ⟨⟨show (23 : Nat) < 100 from by decide, nf0⟩, (fun _ h => (by cases h))⟩
set_option maxHeartbeats 4000000 in
theorem vc_Mo_core_1_r0 (x1 : Int) (x2 : Int) (x3 : Int) (x4 : Int) (x5 : Int) (x6 : Int) (all_0 : Int → Int) (r_0 : Int) (k1 : 0 ≤ x1 ∧ x1 ≤ 23) (k2 : 0 ≤ x2 ∧ x2 ≤ 48) (k3 : 1 ≤ x3 ∧ x3 ≤ 1) (k4 : 1 ≤ x4 ∧ x4 ≤ 49) (k5 : 1 ≤ x5 ∧ x5 ≤ 1) (k6 : 1 ≤ x6 ∧ x6 ≤ 49) (d0 : x2 + 1 ≤ x6 ∧ x6 ≤ x2 + 1) (d1 : x2 + 1 ≤ x4 ∧ x4 ≤ x2 + 1) (f0 : x6 = x2 + 1) (f1 : x5 ≠ 0) (f2 : 1 * x1 + ((-1) * all_0 (r_0 + 0) + 0) ≤ (-1)) (f3 : 1 * x2 + 0 ≤ 48) (f4 : (x5 = 1) → (x4 ≤ 48)) (f6 : x4 = x2 + x3) (f7 : 1 * x2 + 0 ≤ 48) : 1 ≤ x6 ∧ x6 ≤ 48 := by
  first | assumption | (clear f4; omega) | omega | grind
def o_Mo_core_1 : or_T := (16, 7, [(0, (2, 0, 0, [165])), (1, (0, 0, 23, [])), (2, (0, 0, 48, [])), (3, (0, 1, 1, [])), (4, (0, 1, 49, [])), (5, (0, 1, 1, [])), (6, (0, 1, 49, []))], [(6, [6, 2], [1]), (8, [5], [1]), (20, [1, 0], [30, -1, 1, 0, 0, -1, 3, 2005000]), (23, [2], [48, 1]), (20, [5, 4], [50, 0, 0, 4, 6, 1, 2, 1, 0, 0, 1, 0, 2, 1, 1, 0, 48]), (102, [4], [191561942608236107294793378393788647952342390272950272]), (1, [4, 2, 3], []), (23, [2], [48, 1])], [(6, (0, 1, 48, []))], [], [], [], [(6, 2, 1, 1), (4, 2, 1, 1)])
set_option maxHeartbeats 8000000 in
theorem oo_Mo_core_1 {kA : Nat → ClassId} : or_ok PRD kA GG o_Mo_core_1 := by
  refine or_mk fun A ta ws vs hD hth hl => ?_
  intro t0 r0 t1 k1 t2 k2 t3 k3 t4 k4 t5 k5 t6 k6 d0 d1 f0 f1 f2 f3 f4 ta1 w1 le1 s1 f6 f7
  have hrf0 : 1 ≤ v_iv (n_v vs 6) ∧ v_iv (n_v vs 6) ≤ 48 := vc_Mo_core_1_r0 (v_iv (n_v vs 1)) (v_iv (n_v vs 2)) (v_iv (n_v vs 3)) (v_iv (n_v vs 4)) (v_iv (n_v vs 5)) (v_iv (n_v vs 6)) (w_ei ws (w_ar ws (n_v vs 0) 2)) (w_fi ws (n_v vs 0) 5) k1 k2 k3 k4 k5 k6 d0 d1 (shm_4 f0) (shm_142 f1) (shm_269 f2) (shm_1698 f3) (shm_1647 f4) (shm_12 f6) (shm_1698 f7)
  have rf6 : tv_ok ta (0, 1, 48, []) (n_v vs 6) := tv_in t6 (by first | omega | (omega) | (set_option maxHeartbeats 200000 in grind)) (by first | omega | (omega) | (set_option maxHeartbeats 200000 in grind))
  refine ⟨List.forall_mem_cons.mpr ⟨rf6, (fun _ h => (by cases h))⟩, [], trivial, ?_, (fun _ h => (by cases h))⟩
  rw [List.append_nil]
  exact (fun _ h => (by cases h))
set_option maxHeartbeats 4000000 in
theorem vc_Mo_core_2_0 (x1 : Int) (x2 : Int) (x3 : Int) (x4 : Int) (x5 : Int) (x6 : Int) (all_0 : Int → Int) (r_0 : Int) (k1 : 0 ≤ x1 ∧ x1 ≤ 23) (k2 : 0 ≤ x2 ∧ x2 ≤ 48) (k3 : 1 ≤ x3 ∧ x3 ≤ 1) (k4 : 1 ≤ x4 ∧ x4 ≤ 49) (k5 : 1 ≤ x5 ∧ x5 ≤ 1) (k6 : 1 ≤ x6 ∧ x6 ≤ 48) (d0 : x2 + 1 ≤ x6 ∧ x6 ≤ x2 + 1) (d1 : x2 + 1 ≤ x4 ∧ x4 ≤ x2 + 1) (f0 : x6 = x2 + 1) (f1 : x5 ≠ 0) (f2 : 1 * x1 + ((-1) * all_0 (r_0 + 0) + 0) ≤ (-1)) (f3 : 1 * x2 + 0 ≤ 48) (f4 : (x5 = 1) → (x4 ≤ 48)) (f6 : x4 = x2 + x3) (f7 : 1 * x2 + 0 ≤ 48) : 1 * x6 + 0 ≤ 48 := by
  first | assumption | (clear f4; omega) | omega | grind
def o_Mo_core_2 : or_T := (2, 7, [(1, (0, 0, 23, [])), (2, (0, 0, 48, [])), (3, (0, 1, 1, [])), (4, (0, 1, 49, [])), (5, (0, 1, 1, [])), (6, (0, 1, 48, []))], [(6, [6, 2], [1]), (8, [5], [1]), (20, [1, 0], [30, -1, 1, 0, 0, -1, 3, 2005000]), (23, [2], [48, 1]), (20, [5, 4], [50, 0, 0, 4, 6, 1, 2, 1, 0, 0, 1, 0, 2, 1, 1, 0, 48]), (102, [4], [191561942608236107294793378393788647952342390272950272]), (1, [4, 2, 3], []), (23, [2], [48, 1])], [], [], [(23, [6], [48, 1])], [], [(6, 2, 1, 1), (4, 2, 1, 1)])
set_option maxHeartbeats 8000000 in
theorem oo_Mo_core_2 {kA : Nat → ClassId} : or_ok PRD kA GG o_Mo_core_2 := by
  refine or_mk fun A ta ws vs hD hth hl => ?_
  intro t1 k1 t2 k2 t3 k3 t4 k4 t5 k5 t6 k6 d0 d1 f0 f1 f2 f3 f4 ta1 w1 le1 s1 f6 f7
  have nf0 : fc_1 PRD (23, [6], [48, 1]) ws (vs) := ⟨nf_in hl rfl, sgq_1698 (vc_Mo_core_2_0 (v_iv (n_v vs 1)) (v_iv (n_v vs 2)) (v_iv (n_v vs 3)) (v_iv (n_v vs 4)) (v_iv (n_v vs 5)) (v_iv (n_v vs 6)) (w_ei ws (w_ar ws (n_v vs 0) 2)) (w_fi ws (n_v vs 0) 5) k1 k2 k3 k4 k5 k6 d0 d1 (shm_4 f0) (shm_142 f1) (shm_269 f2) (shm_1698 f3) (shm_1647 f4) (shm_12 f6) (shm_1698 f7))⟩
  refine ⟨(fun _ h => (by cases h)), [], trivial, ?_, (fun _ h => (by cases h))⟩
  rw [List.append_nil]
  exact List.forall_mem_cons.mpr ⟨⟨show (23 : Nat) < 100 from by decide, nf0⟩, (fun _ h => (by cases h))⟩
def n_Mo_core_an : List an_T := [(2, [(0, (2, 0, 0, [165])), (1, (0, 0, 23, [])), (2, (0, 0, 48, []))], [], (0, 0), [(0, 0, 99998), (1, 2, 48), (0, 0, 100000)], [], [], [], 0, [], [(20, [1, 0], [30, (Int.negSucc 0), 1, 0, 0, (Int.negSucc 0), 3, 2005000]), (23, [2], [48, 1])])]
def t_Mo_core_ct : ct_L := [(1, 560, e_Mo_isInCore)]
set_option maxRecDepth 100000 in
theorem c_Mo_core {l : Launch} {D : va_G} {kA : Nat → ClassId} (h_Mo_isInCore : ct_ok PRD l D kA GG y_Mo_isInCore z_Mo_isInCore e_Mo_isInCore) : ct_ok PRD l D kA GG y_Mo_core z_Mo_core e_Mo_core := chk_all_ok (FT := []) (PT := []) (CT := t_Mo_core_ct) (KT := []) (NT := []) (AN := n_Mo_core_an) (OT := [o_Mo_core_0, o_Mo_core_1, o_Mo_core_2]) 3 200 (List.forall_mem_cons.mpr ⟨oo_Mo_core_0, List.forall_mem_cons.mpr ⟨oo_Mo_core_1, List.forall_mem_cons.mpr ⟨oo_Mo_core_2, List.forall_mem_nil _⟩⟩⟩) (by decide +kernel) ⟨List.forall_mem_nil _, List.forall_mem_nil _, List.forall_mem_cons.mpr ⟨cl_virtual (y := y_Mo_isInCore) (ci := 13) rfl rfl ⟨_, _, rfl⟩ (by decide +kernel) h_Mo_isInCore wm_3327 wm_9 wm_3324 wm_3326 wv_17_5 ⟨by decide, by decide, by decide +kernel⟩ (by decide), List.forall_mem_nil _⟩, List.forall_mem_nil _, List.forall_mem_nil _, GG_pl⟩ (by decide +kernel)
set_option maxHeartbeats 4000000 in
theorem vc_Mo_fewest_0_0 (x1 : Int) (x2 : Int) (x3 : Int) (left_0 : Int → Int) (all_0 : Int → Int) (r_0 : Int) (k1 : (-1) ≤ x1 ∧ x1 ≤ 25) (k2 : (-1) ≤ x2 ∧ x2 ≤ (-1)) (k3 : 0 ≤ x3 ∧ x3 ≤ 0) (hK_0_22 : ∀ j : Int, 0 ≤ j → j < 25 → 0 ≤ left_0 j ∧ left_0 j ≤ 1) : (x2 = (-1)) ∨ ((0 ≤ x2) ∧ (((x2 + 1) ≤ all_0 ((r_0 + 0))) ∧ (left_0 (x2) = 1))) := by
  first | assumption | (clear hK_0_22; omega) | omega | grind
set_option maxHeartbeats 4000000 in
theorem vc_Mo_fewest_0_1 (x1 : Int) (x2 : Int) (x3 : Int) (left_0 : Int → Int) (k1 : (-1) ≤ x1 ∧ x1 ≤ 25) (k2 : (-1) ≤ x2 ∧ x2 ≤ (-1)) (k3 : 0 ≤ x3 ∧ x3 ≤ 0) (hK_0_22 : ∀ j : Int, 0 ≤ j → j < 25 → 0 ≤ left_0 j ∧ left_0 j ≤ 1) : (0 ≤ x1) ∨ ((0 ≤ x2) ∨ (∀ j0 : Int, 0 ≤ j0 → j0 < x3 → (left_0 (j0) ≤ 0))) := by
  first | assumption | grind | omega
def o_Mo_fewest_0 : or_T := (4, 4, [(0, (2, 0, 0, [165])), (1, (0, -1, 25, [])), (2, (0, -1, -1, [])), (3, (0, 0, 0, []))], [], [], [], [(20, [2, 0], [50, 1, 2, 1005, 1002, 1022, 3, 6, 1, 2, 1, 0, 0, -1, 2, 6, 0, 2, 0, 0, 1, 0, 2, 18, 0, 6, 4, 2, 1, 0, 0, 1, 3, 1, 2, 4, 3, 2, 1, 5, 0, 0, 1, 5, 3, 1, 22, 1, 0, 0, 1]), (20, [1, 2, 3, 0], [50, 0, 1, 3022, 3, 6, 0, 2, 0, 0, 1, 0, 3, 6, 0, 2, 0, 0, 1, 1, 5, 2, 1, 2, 0, 5, 3, 3, 22, 7, 0, 0, 0]), (24, [0, 0], []), (24, [1, 1], [])], [], [])
set_option maxHeartbeats 8000000 in
theorem oo_Mo_fewest_0 {kA : Nat → ClassId} : or_ok PRD kA GG o_Mo_fewest_0 := by
  refine or_mk fun A ta ws vs hD hth hl => ?_
  intro t0 r0 t1 k1 t2 k2 t3 k3
  have cr_0_22 := fdq_240 hD hth r0
  have hK_0_22 := elq_148 hD hth cr_0_22
  have nf0 : fc_1 PRD (20, [2, 0], [50, 1, 2, 1005, 1002, 1022, 3, 6, 1, 2, 1, 0, 0, -1, 2, 6, 0, 2, 0, 0, 1, 0, 2, 18, 0, 6, 4, 2, 1, 0, 0, 1, 3, 1, 2, 4, 3, 2, 1, 5, 0, 0, 1, 5, 3, 1, 22, 1, 0, 0, 1]) ws (vs) := ⟨nf_in hl rfl, sgq_1699 (vc_Mo_fewest_0_0 (v_iv (n_v vs 1)) (v_iv (n_v vs 2)) (v_iv (n_v vs 3)) (w_ei ws (w_ar ws (n_v vs 0) 22)) (w_ei ws (w_ar ws (n_v vs 0) 2)) (w_fi ws (n_v vs 0) 5) k1 k2 k3 hK_0_22)⟩
  have nf1 : fc_1 PRD (20, [1, 2, 3, 0], [50, 0, 1, 3022, 3, 6, 0, 2, 0, 0, 1, 0, 3, 6, 0, 2, 0, 0, 1, 1, 5, 2, 1, 2, 0, 5, 3, 3, 22, 7, 0, 0, 0]) ws (vs) := ⟨nf_in hl rfl, sgq_1700 (vc_Mo_fewest_0_1 (v_iv (n_v vs 1)) (v_iv (n_v vs 2)) (v_iv (n_v vs 3)) (w_ei ws (w_ar ws (n_v vs 0) 22)) k1 k2 k3 hK_0_22)⟩
  have nf2 : fc_1 PRD (24, [0, 0], []) ws (vs) := by
    refine ⟨nf_in hl rfl, sgq_1 ?_⟩
    · show n_v vs 0 = n_v vs 0
      first | rfl | simp only [true_and]
  have nf3 : fc_1 PRD (24, [1, 1], []) ws (vs) := by
    refine ⟨nf_in hl rfl, sgq_1 ?_⟩
    · show n_v vs 1 = n_v vs 1
      first | rfl | simp only [true_and]
  refine ⟨(fun _ h => (by cases h)), [], trivial, ?_, (fun _ h => (by cases h))⟩
  rw [List.append_nil]
  exact List.forall_mem_cons.mpr ⟨⟨show (20 : Nat) < 100 from by decide, nf0⟩, List.forall_mem_cons.mpr ⟨⟨show (20 : Nat) < 100 from by decide, nf1⟩, List.forall_mem_cons.mpr ⟨⟨show (24 : Nat) < 100 from by decide, nf2⟩, List.forall_mem_cons.mpr ⟨⟨show (24 : Nat) < 100 from by decide, nf3⟩, (fun _ h => (by cases h))⟩⟩⟩⟩
def o_Mo_fewest_1 : or_T := (60, 7, [(0, (2, 0, 0, [165])), (1, (0, -1, 25, [])), (2, (2, 0, 0, [165])), (3, (0, -1, 25, [])), (4, (0, -1, 23, [])), (5, (0, 0, 24, [])), (6, (0, 0, 24, []))], [(7, [5, 6], [3]), (20, [6, 2], [30, 0, 1, 0, 0, -1, 3, 2005000]), (20, [6, 2], [30, 0, -1, 0, 0, 1, 3, 2005000]), (20, [4, 2], [50, 1, 2, 1005, 1002, 1022, 3, 6, 1, 2, 1, 0, 0, -1, 2, 6, 0, 2, 0, 0, 1, 0, 2, 18, 0, 6, 4, 2, 1, 0, 0, 1, 3, 1, 2, 4, 3, 2, 1, 5, 0, 0, 1, 5, 3, 1, 22, 1, 0, 0, 1]), (20, [3, 4, 5, 2], [50, 0, 1, 3022, 3, 6, 0, 2, 0, 0, 1, 0, 3, 6, 0, 2, 0, 0, 1, 1, 5, 2, 1, 2, 0, 5, 3, 3, 22, 7, 0, 0, 0]), (24, [0, 2], []), (24, [1, 3], [])], [], [], [(20, [4, 0], [50, 1, 2, 1005, 1002, 1022, 3, 6, 1, 2, 1, 0, 0, -1, 2, 6, 0, 2, 0, 0, 1, 0, 2, 18, 0, 6, 4, 2, 1, 0, 0, 1, 3, 1, 2, 4, 3, 2, 1, 5, 0, 0, 1, 5, 3, 1, 22, 1, 0, 0, 1]), (20, [1, 4, 0], [50, 1, 2, 2005, 2022, 2002, 4, 14, 2, 6, 0, 2, 1, 0, 0, -1, 1, 2, 1, 1, 0, -1, 1, 16, 15, 2, 22, 10, 3, 2, 2, 4, 3, 2, 2, 5, 0, 0, 0, 0, 3, 2, 2, 4, 3, 2, 2, 5, 0, 0])], [], [(5, 6, 0, 4294967296), (1, 3, -4294967296, 0), (3, 1, -4294967296, 0), (4, 5, -4294967296, -1)])
set_option maxHeartbeats 8000000 in
theorem oo_Mo_fewest_1 {kA : Nat → ClassId} : or_ok PRD kA GG o_Mo_fewest_1 := by
  refine or_mk fun A ta ws vs hD hth hl => ?_
  intro t0 r0 t1 k1 t2 r2 t3 k3 t4 k4 t5 k5 t6 k6 d0 d1 d2 d3 f0 f1 f2 f3 f4 f5 f6
  replace f0 := shm_2 f0
  replace f1 := shm_126 f1
  replace f2 := shm_127 f2
  replace f3 := shm_1699 f3
  replace f4 := shm_1700 f4
  replace f5 := shm_5 f5
  replace f6 := shm_5 f6
  have q2 : n_v vs 2 = n_v vs 0 := f5.symm
  have q3 : n_v vs 3 = n_v vs 1 := f6.symm
  simp only [q2, q3] at f1 f2 f3 f4
  have cr_0_2 := fdq_10 hD hth r0
  have cr_0_22 := fdq_240 hD hth r0
  have br_0_2_F5_0_0 : w_ei ws (w_ar ws (n_v vs 0) 2) (w_fi ws (n_v vs 0) 5 + 0) = w_el ws (w_ar ws (n_v vs 0) 2) (w_fi ws (n_v vs 0) 5 + 0).toNat := rfl
  have hK_0_22 := elq_148 hD hth cr_0_22
  first | have hCb0_0 := cnt_bd (w_ei ws (w_ar ws (n_v vs 0) 22)) (0) (n := (w_ei ws (w_ar ws (n_v vs 0) 2) ((w_fi ws (n_v vs 0) 5 + 0)))) (by omega) | skip
  have hA : (∀ j : Int, 0 ≤ j → j < (w_ei ws (w_ar ws (n_v vs 0) 2) ((w_fi ws (n_v vs 0) 5 + 0))) → w_ei ws (w_ar ws (n_v vs 0) 22) j ≤ 0) → cntE (w_ei ws (w_ar ws (n_v vs 0) 22)) 0 (w_ei ws (w_ar ws (n_v vs 0) 2) ((w_fi ws (n_v vs 0) 5 + 0))) = (w_ei ws (w_ar ws (n_v vs 0) 2) ((w_fi ws (n_v vs 0) 5 + 0))) := fun h => cnt_all (by omega) (fun j h0 h1 => h j h0 (by omega))
  have nf0 : fc_1 PRD (20, [4, 0], [50, 1, 2, 1005, 1002, 1022, 3, 6, 1, 2, 1, 0, 0, -1, 2, 6, 0, 2, 0, 0, 1, 0, 2, 18, 0, 6, 4, 2, 1, 0, 0, 1, 3, 1, 2, 4, 3, 2, 1, 5, 0, 0, 1, 5, 3, 1, 22, 1, 0, 0, 1]) ws (vs) := by
    refine ⟨nf_in hl rfl, sgq_1699 ?_⟩
    · show (v_iv (n_v vs 4) = (-1)) ∨ ((0 ≤ v_iv (n_v vs 4)) ∧ (((v_iv (n_v vs 4) + 1) ≤ w_ei ws (w_ar ws (n_v vs 0) 2) ((w_fi ws (n_v vs 0) 5 + 0))) ∧ (w_ei ws (w_ar ws (n_v vs 0) 22) (v_iv (n_v vs 4)) = 1)))
      first | (omega) | (set_option maxHeartbeats 200000 in grind)
  have nf1 : fc_1 PRD (20, [1, 4, 0], [50, 1, 2, 2005, 2022, 2002, 4, 14, 2, 6, 0, 2, 1, 0, 0, -1, 1, 2, 1, 1, 0, -1, 1, 16, 15, 2, 22, 10, 3, 2, 2, 4, 3, 2, 2, 5, 0, 0, 0, 0, 3, 2, 2, 4, 3, 2, 2, 5, 0, 0]) ws (vs) := by
    refine ⟨nf_in hl rfl, sgq_1701 ?_⟩
    · show ((v_iv (n_v vs 1) ≤ (-1)) ∧ (v_iv (n_v vs 4) = (-1))) → (cntE (w_ei ws (w_ar ws (n_v vs 0) 22)) (0) (w_ei ws (w_ar ws (n_v vs 0) 2) ((w_fi ws (n_v vs 0) 5 + 0))) = w_ei ws (w_ar ws (n_v vs 0) 2) ((w_fi ws (n_v vs 0) 5 + 0)))
      first | (intro hp1; omega) | (set_option maxHeartbeats 200000 in grind)
  refine ⟨(fun _ h => (by cases h)), [], trivial, ?_, (fun _ h => (by cases h))⟩
  rw [List.append_nil]
  exact List.forall_mem_cons.mpr ⟨⟨show (20 : Nat) < 100 from by decide, nf0⟩, List.forall_mem_cons.mpr ⟨⟨show (20 : Nat) < 100 from by decide, nf1⟩, (fun _ h => (by cases h))⟩⟩
set_option maxHeartbeats 4000000 in
theorem vc_Mo_fewest_2_0 (x1 : Int) (x3 : Int) (x4 : Int) (x5 : Int) (x6 : Int) (x8 : Int) (x9 : Int) (left_0 : Int → Int) (all_0 : Int → Int) (r_0 : Int) (k1 : (-1) ≤ x1 ∧ x1 ≤ 25) (k3 : (-1) ≤ x3 ∧ x3 ≤ 25) (k4 : (-1) ≤ x4 ∧ x4 ≤ 22) (k5 : 0 ≤ x5 ∧ x5 ≤ 23) (k6 : 1 ≤ x6 ∧ x6 ≤ 24) (k8 : 0 ≤ x8 ∧ x8 ≤ 0) (k9 : 1 ≤ x9 ∧ x9 ≤ 24) (d0 : x5 + 1 ≤ x9 ∧ x9 ≤ x5 + 1) (d1 : x6 + (-4294967296) ≤ x9 ∧ x9 ≤ x6 + 0) (d2 : x6 + (-4294967296) ≤ x5 ∧ x5 ≤ x6 + (-1)) (d3 : x3 + (-4294967296) ≤ x1 ∧ x1 ≤ x3 + 0) (d4 : x1 + (-4294967296) ≤ x3 ∧ x3 ≤ x1 + 0) (d5 : x5 + (-4294967296) ≤ x4 ∧ x4 ≤ x5 + (-1)) (f0 : x9 = x5 + 1) (f1 : x8 = 0) (h2 : x8 = left_0 (x5)) (f4 : x5 < x6) (f5 : 1 * x6 + ((-1) * all_0 (r_0 + 0) + 0) ≤ 0) (f6 : (-1) * x6 + (1 * all_0 (r_0 + 0) + 0) ≤ 0) (f7 : (x4 = (-1)) ∨ ((0 ≤ x4) ∧ (((x4 + 1) ≤ all_0 ((r_0 + 0))) ∧ (left_0 (x4) = 1)))) (f8 : (0 ≤ x1) ∨ ((0 ≤ x4) ∨ (∀ j0 : Int, 0 ≤ j0 → j0 < x5 → (left_0 (j0) ≤ 0)))) (hK_0_22 : ∀ j : Int, 0 ≤ j → j < 25 → 0 ≤ left_0 j ∧ left_0 j ≤ 1) : (0 ≤ x1) ∨ ((0 ≤ x4) ∨ (∀ j0 : Int, 0 ≤ j0 → j0 < x9 → (left_0 (j0) ≤ 0))) := by
  first | assumption | grind | omega
def o_Mo_fewest_2 : or_T := (4, 10, [(0, (2, 0, 0, [165])), (1, (0, -1, 25, [])), (2, (2, 0, 0, [165])), (3, (0, -1, 25, [])), (4, (0, -1, 22, [])), (5, (0, 0, 23, [])), (6, (0, 1, 24, [])), (7, (2, 0, 0, [177])), (8, (0, 0, 0, [])), (9, (0, 1, 24, []))], [(6, [9, 5], [1]), (8, [8], [0]), (10, [8, 7, 5], []), (9, [7, 2], [22]), (7, [5, 6], [2]), (20, [6, 2], [30, 0, 1, 0, 0, -1, 3, 2005000]), (20, [6, 2], [30, 0, -1, 0, 0, 1, 3, 2005000]), (20, [4, 2], [50, 1, 2, 1005, 1002, 1022, 3, 6, 1, 2, 1, 0, 0, -1, 2, 6, 0, 2, 0, 0, 1, 0, 2, 18, 0, 6, 4, 2, 1, 0, 0, 1, 3, 1, 2, 4, 3, 2, 1, 5, 0, 0, 1, 5, 3, 1, 22, 1, 0, 0, 1]), (20, [3, 4, 5, 2], [50, 0, 1, 3022, 3, 6, 0, 2, 0, 0, 1, 0, 3, 6, 0, 2, 0, 0, 1, 1, 5, 2, 1, 2, 0, 5, 3, 3, 22, 7, 0, 0, 0]), (24, [0, 2], []), (24, [1, 3], [])], [], [], [(20, [3, 4, 9, 2], [50, 0, 1, 3022, 3, 6, 0, 2, 0, 0, 1, 0, 3, 6, 0, 2, 0, 0, 1, 1, 5, 2, 1, 2, 0, 5, 3, 3, 22, 7, 0, 0, 0])], [], [(9, 5, 1, 1), (9, 6, -4294967296, 0), (5, 6, -4294967296, -1), (1, 3, -4294967296, 0), (3, 1, -4294967296, 0), (4, 5, -4294967296, -1)])
set_option maxHeartbeats 8000000 in
theorem oo_Mo_fewest_2 {kA : Nat → ClassId} : or_ok PRD kA GG o_Mo_fewest_2 := by
  refine or_mk fun A ta ws vs hD hth hl => ?_
  intro t0 r0 t1 k1 t2 r2 t3 k3 t4 k4 t5 k5 t6 k6 t7 r7 t8 k8 t9 k9 d0 d1 d2 d3 d4 d5 f0 f1 f2 f3 f4 f5 f6 f7 f8 f9 f10
  replace f0 := shm_4 f0
  replace f1 := shm_192 f1
  replace f2 := shm_107 f2
  replace f3 := shm_1026 f3
  replace f4 := shm_6 f4
  replace f5 := shm_126 f5
  replace f6 := shm_127 f6
  replace f7 := shm_1699 f7
  replace f8 := shm_1700 f8
  replace f9 := shm_5 f9
  replace f10 := shm_5 f10
  have q2 : n_v vs 2 = n_v vs 0 := f9.symm
  have q3 : n_v vs 3 = n_v vs 1 := f10.symm
  simp only [q2, q3] at f3 f5 f6 f7 f8
  have cr_0_2 := fdq_10 hD hth r0
  have cr_0_22 := fdq_240 hD hth r0
  have ad_7 : v_ad (n_v vs 7) = w_ar ws (n_v vs 0) 22 := congrArg v_ad f3
  simp only [ad_7] at f2
  have h2 : v_iv (n_v vs 8) = w_ei ws (w_ar ws (n_v vs 0) 22) (v_iv (n_v vs 5)) := f2
  have br_0_2_F5_0_0 : w_ei ws (w_ar ws (n_v vs 0) 2) (w_fi ws (n_v vs 0) 5 + 0) = w_el ws (w_ar ws (n_v vs 0) 2) (w_fi ws (n_v vs 0) 5 + 0).toNat := rfl
  have br_0_22_5_0 : w_ei ws (w_ar ws (n_v vs 0) 22) (v_iv (n_v vs 5)) = w_el ws (w_ar ws (n_v vs 0) 22) (v_iv (n_v vs 5)).toNat := rfl
  have hK_0_22 := elq_148 hD hth cr_0_22
  first | have qi1 := (all_or2 f8) (v_iv (n_v vs 5)) (by omega) (by omega) | skip
  first | have qi2 := hK_0_22 (v_iv (n_v vs 5)) (by omega) (by omega) | skip
  have nf0 : fc_1 PRD (20, [3, 4, 9, 2], [50, 0, 1, 3022, 3, 6, 0, 2, 0, 0, 1, 0, 3, 6, 0, 2, 0, 0, 1, 1, 5, 2, 1, 2, 0, 5, 3, 3, 22, 7, 0, 0, 0]) ws (vs) := by
    refine ⟨nf_in hl rfl, sgq_1700 ?_⟩
    · show (0 ≤ v_iv (n_v vs 3)) ∨ ((0 ≤ v_iv (n_v vs 4)) ∨ (∀ j0 : Int, 0 ≤ j0 → j0 < v_iv (n_v vs 9) → (w_ei ws (w_ar ws (n_v vs 2) 22) (j0) ≤ 0)))
      simp only [q2, q3]
      exact vc_Mo_fewest_2_0 (v_iv (n_v vs 1)) (v_iv (n_v vs 3)) (v_iv (n_v vs 4)) (v_iv (n_v vs 5)) (v_iv (n_v vs 6)) (v_iv (n_v vs 8)) (v_iv (n_v vs 9)) (w_ei ws (w_ar ws (n_v vs 0) 22)) (w_ei ws (w_ar ws (n_v vs 0) 2)) (w_fi ws (n_v vs 0) 5) k1 k3 k4 k5 k6 k8 k9 d0 d1 d2 d3 d4 d5 f0 f1 h2 f4 f5 f6 f7 f8 hK_0_22
  refine ⟨(fun _ h => (by cases h)), [], trivial, ?_, (fun _ h => (by cases h))⟩
  rw [List.append_nil]
  exact List.forall_mem_cons.mpr ⟨⟨show (20 : Nat) < 100 from by decide, nf0⟩, (fun _ h => (by cases h))⟩
set_option maxHeartbeats 4000000 in
theorem vc_Mo_fewest_3_0 (x1 : Int) (x3 : Int) (x4 : Int) (x5 : Int) (x6 : Int) (x8 : Int) (x9 : Int) (left_0 : Int → Int) (all_0 : Int → Int) (r_0 : Int) (k1 : (-1) ≤ x1 ∧ x1 ≤ (-1)) (k3 : (-1) ≤ x3 ∧ x3 ≤ (-1)) (k4 : (-1) ≤ x4 ∧ x4 ≤ (-1)) (k5 : 0 ≤ x5 ∧ x5 ≤ 23) (k6 : 1 ≤ x6 ∧ x6 ≤ 24) (k8 : 1 ≤ x8 ∧ x8 ≤ 1) (k9 : 1 ≤ x9 ∧ x9 ≤ 24) (d0 : x5 + 1 ≤ x9 ∧ x9 ≤ x5 + 1) (d1 : x6 + (-4294967296) ≤ x9 ∧ x9 ≤ x6 + 0) (d2 : x6 + (-4294967296) ≤ x5 ∧ x5 ≤ x6 + (-1)) (f0 : x9 = x5 + 1) (f1 : x4 < 0) (f2 : x1 < 0) (f3 : x8 ≠ 0) (h4 : x8 = left_0 (x5)) (f6 : x5 < x6) (f7 : 1 * x6 + ((-1) * all_0 (r_0 + 0) + 0) ≤ 0) (f8 : (-1) * x6 + (1 * all_0 (r_0 + 0) + 0) ≤ 0) (f9 : (x4 = (-1)) ∨ ((0 ≤ x4) ∧ (((x4 + 1) ≤ all_0 ((r_0 + 0))) ∧ (left_0 (x4) = 1)))) (f10 : (0 ≤ x1) ∨ ((0 ≤ x4) ∨ (∀ j0 : Int, 0 ≤ j0 → j0 < x5 → (left_0 (j0) ≤ 0)))) (hK_0_22 : ∀ j : Int, 0 ≤ j → j < 25 → 0 ≤ left_0 j ∧ left_0 j ≤ 1) : (x5 = (-1)) ∨ ((0 ≤ x5) ∧ (((x5 + 1) ≤ all_0 ((r_0 + 0))) ∧ (left_0 (x5) = 1))) := by
  first | assumption | (clear f9 f10 hK_0_22; omega) | (clear f10 hK_0_22; grind) | omega | grind
set_option maxHeartbeats 4000000 in
theorem vc_Mo_fewest_3_1 (x1 : Int) (x3 : Int) (x4 : Int) (x5 : Int) (x6 : Int) (x8 : Int) (x9 : Int) (left_0 : Int → Int) (all_0 : Int → Int) (r_0 : Int) (k1 : (-1) ≤ x1 ∧ x1 ≤ (-1)) (k3 : (-1) ≤ x3 ∧ x3 ≤ (-1)) (k4 : (-1) ≤ x4 ∧ x4 ≤ (-1)) (k5 : 0 ≤ x5 ∧ x5 ≤ 23) (k6 : 1 ≤ x6 ∧ x6 ≤ 24) (k8 : 1 ≤ x8 ∧ x8 ≤ 1) (k9 : 1 ≤ x9 ∧ x9 ≤ 24) (d0 : x5 + 1 ≤ x9 ∧ x9 ≤ x5 + 1) (d1 : x6 + (-4294967296) ≤ x9 ∧ x9 ≤ x6 + 0) (d2 : x6 + (-4294967296) ≤ x5 ∧ x5 ≤ x6 + (-1)) (f0 : x9 = x5 + 1) (f1 : x4 < 0) (f2 : x1 < 0) (f3 : x8 ≠ 0) (h4 : x8 = left_0 (x5)) (f6 : x5 < x6) (f7 : 1 * x6 + ((-1) * all_0 (r_0 + 0) + 0) ≤ 0) (f8 : (-1) * x6 + (1 * all_0 (r_0 + 0) + 0) ≤ 0) (f9 : (x4 = (-1)) ∨ ((0 ≤ x4) ∧ (((x4 + 1) ≤ all_0 ((r_0 + 0))) ∧ (left_0 (x4) = 1)))) (f10 : (0 ≤ x1) ∨ ((0 ≤ x4) ∨ (∀ j0 : Int, 0 ≤ j0 → j0 < x5 → (left_0 (j0) ≤ 0)))) (hK_0_22 : ∀ j : Int, 0 ≤ j → j < 25 → 0 ≤ left_0 j ∧ left_0 j ≤ 1) : (0 ≤ x1) ∨ ((0 ≤ x5) ∨ (∀ j0 : Int, 0 ≤ j0 → j0 < x9 → (left_0 (j0) ≤ 0))) := by
  first | assumption | grind | omega
def o_Mo_fewest_3 : or_T := (4, 10, [(0, (2, 0, 0, [165])), (1, (0, -1, -1, [])), (2, (2, 0, 0, [165])), (3, (0, -1, -1, [])), (4, (0, -1, -1, [])), (5, (0, 0, 23, [])), (6, (0, 1, 24, [])), (7, (2, 0, 0, [177])), (8, (0, 1, 1, [])), (9, (0, 1, 24, []))], [(6, [9, 5], [1]), (8, [4], [2]), (8, [3], [2]), (8, [8], [1]), (10, [8, 7, 5], []), (9, [7, 2], [22]), (7, [5, 6], [2]), (20, [6, 2], [30, 0, 1, 0, 0, -1, 3, 2005000]), (20, [6, 2], [30, 0, -1, 0, 0, 1, 3, 2005000]), (20, [4, 2], [50, 1, 2, 1005, 1002, 1022, 3, 6, 1, 2, 1, 0, 0, -1, 2, 6, 0, 2, 0, 0, 1, 0, 2, 18, 0, 6, 4, 2, 1, 0, 0, 1, 3, 1, 2, 4, 3, 2, 1, 5, 0, 0, 1, 5, 3, 1, 22, 1, 0, 0, 1]), (20, [3, 4, 5, 2], [50, 0, 1, 3022, 3, 6, 0, 2, 0, 0, 1, 0, 3, 6, 0, 2, 0, 0, 1, 1, 5, 2, 1, 2, 0, 5, 3, 3, 22, 7, 0, 0, 0]), (24, [0, 2], []), (24, [1, 3], [])], [], [], [(20, [5, 2], [50, 1, 2, 1005, 1002, 1022, 3, 6, 1, 2, 1, 0, 0, -1, 2, 6, 0, 2, 0, 0, 1, 0, 2, 18, 0, 6, 4, 2, 1, 0, 0, 1, 3, 1, 2, 4, 3, 2, 1, 5, 0, 0, 1, 5, 3, 1, 22, 1, 0, 0, 1]), (20, [3, 5, 9, 2], [50, 0, 1, 3022, 3, 6, 0, 2, 0, 0, 1, 0, 3, 6, 0, 2, 0, 0, 1, 1, 5, 2, 1, 2, 0, 5, 3, 3, 22, 7, 0, 0, 0])], [], [(9, 5, 1, 1), (9, 6, -4294967296, 0), (5, 6, -4294967296, -1)])
set_option maxHeartbeats 8000000 in
theorem oo_Mo_fewest_3 {kA : Nat → ClassId} : or_ok PRD kA GG o_Mo_fewest_3 := by
  refine or_mk fun A ta ws vs hD hth hl => ?_
  intro t0 r0 t1 k1 t2 r2 t3 k3 t4 k4 t5 k5 t6 k6 t7 r7 t8 k8 t9 k9 d0 d1 d2 f0 f1 f2 f3 f4 f5 f6 f7 f8 f9 f10 f11 f12
  replace f0 := shm_4 f0
  replace f1 := shm_39 f1
  replace f2 := shm_39 f2
  replace f3 := shm_142 f3
  replace f4 := shm_107 f4
  replace f5 := shm_1026 f5
  replace f6 := shm_6 f6
  replace f7 := shm_126 f7
  replace f8 := shm_127 f8
  replace f9 := shm_1699 f9
  replace f10 := shm_1700 f10
  replace f11 := shm_5 f11
  replace f12 := shm_5 f12
  have q2 : n_v vs 2 = n_v vs 0 := f11.symm
  have q3 : n_v vs 3 = n_v vs 1 := f12.symm
  simp only [q3, q2] at f2 f5 f7 f8 f9 f10
  have cr_0_2 := fdq_10 hD hth r0
  have cr_0_22 := fdq_240 hD hth r0
  have ad_7 : v_ad (n_v vs 7) = w_ar ws (n_v vs 0) 22 := congrArg v_ad f5
  simp only [ad_7] at f4
  have h4 : v_iv (n_v vs 8) = w_ei ws (w_ar ws (n_v vs 0) 22) (v_iv (n_v vs 5)) := f4
  have br_0_2_F5_0_0 : w_ei ws (w_ar ws (n_v vs 0) 2) (w_fi ws (n_v vs 0) 5 + 0) = w_el ws (w_ar ws (n_v vs 0) 2) (w_fi ws (n_v vs 0) 5 + 0).toNat := rfl
  have br_0_22_5_0 : w_ei ws (w_ar ws (n_v vs 0) 22) (v_iv (n_v vs 5)) = w_el ws (w_ar ws (n_v vs 0) 22) (v_iv (n_v vs 5)).toNat := rfl
  have hK_0_22 := elq_148 hD hth cr_0_22
  first | have qi1 := (all_or2 f10) (v_iv (n_v vs 5)) (by omega) (by omega) | skip
  first | have qi2 := hK_0_22 (v_iv (n_v vs 5)) (by omega) (by omega) | skip
  have nf0 : fc_1 PRD (20, [5, 2], [50, 1, 2, 1005, 1002, 1022, 3, 6, 1, 2, 1, 0, 0, -1, 2, 6, 0, 2, 0, 0, 1, 0, 2, 18, 0, 6, 4, 2, 1, 0, 0, 1, 3, 1, 2, 4, 3, 2, 1, 5, 0, 0, 1, 5, 3, 1, 22, 1, 0, 0, 1]) ws (vs) := by
    refine ⟨nf_in hl rfl, sgq_1699 ?_⟩
    · show (v_iv (n_v vs 5) = (-1)) ∨ ((0 ≤ v_iv (n_v vs 5)) ∧ (((v_iv (n_v vs 5) + 1) ≤ w_ei ws (w_ar ws (n_v vs 2) 2) ((w_fi ws (n_v vs 2) 5 + 0))) ∧ (w_ei ws (w_ar ws (n_v vs 2) 22) (v_iv (n_v vs 5)) = 1)))
      rw [q2]
      exact vc_Mo_fewest_3_0 (v_iv (n_v vs 1)) (v_iv (n_v vs 3)) (v_iv (n_v vs 4)) (v_iv (n_v vs 5)) (v_iv (n_v vs 6)) (v_iv (n_v vs 8)) (v_iv (n_v vs 9)) (w_ei ws (w_ar ws (n_v vs 0) 22)) (w_ei ws (w_ar ws (n_v vs 0) 2)) (w_fi ws (n_v vs 0) 5) k1 k3 k4 k5 k6 k8 k9 d0 d1 d2 f0 f1 f2 f3 h4 f6 f7 f8 f9 f10 hK_0_22
  have nf1 : fc_1 PRD (20, [3, 5, 9, 2], [50, 0, 1, 3022, 3, 6, 0, 2, 0, 0, 1, 0, 3, 6, 0, 2, 0, 0, 1, 1, 5, 2, 1, 2, 0, 5, 3, 3, 22, 7, 0, 0, 0]) ws (vs) := by
    refine ⟨nf_in hl rfl, sgq_1700 ?_⟩
    · show (0 ≤ v_iv (n_v vs 3)) ∨ ((0 ≤ v_iv (n_v vs 5)) ∨ (∀ j0 : Int, 0 ≤ j0 → j0 < v_iv (n_v vs 9) → (w_ei ws (w_ar ws (n_v vs 2) 22) (j0) ≤ 0)))
      simp only [q2, q3]
      exact vc_Mo_fewest_3_1 (v_iv (n_v vs 1)) (v_iv (n_v vs 3)) (v_iv (n_v vs 4)) (v_iv (n_v vs 5)) (v_iv (n_v vs 6)) (v_iv (n_v vs 8)) (v_iv (n_v vs 9)) (w_ei ws (w_ar ws (n_v vs 0) 22)) (w_ei ws (w_ar ws (n_v vs 0) 2)) (w_fi ws (n_v vs 0) 5) k1 k3 k4 k5 k6 k8 k9 d0 d1 d2 f0 f1 f2 f3 h4 f6 f7 f8 f9 f10 hK_0_22
  refine ⟨(fun _ h => (by cases h)), [], trivial, ?_, (fun _ h => (by cases h))⟩
  rw [List.append_nil]
  exact List.forall_mem_cons.mpr ⟨⟨show (20 : Nat) < 100 from by decide, nf0⟩, List.forall_mem_cons.mpr ⟨⟨show (20 : Nat) < 100 from by decide, nf1⟩, (fun _ h => (by cases h))⟩⟩
set_option maxHeartbeats 4000000 in
theorem vc_Mo_fewest_4_0 (x1 : Int) (x3 : Int) (x4 : Int) (x5 : Int) (x6 : Int) (x8 : Int) (x11 : Int) (left_0 : Int → Int) (all_0 : Int → Int) (r_0 : Int) (k1 : (-1) ≤ x1 ∧ x1 ≤ (-1)) (k3 : (-1) ≤ x3 ∧ x3 ≤ (-1)) (k4 : 0 ≤ x4 ∧ x4 ≤ 22) (k5 : 1 ≤ x5 ∧ x5 ≤ 23) (k6 : 1 ≤ x6 ∧ x6 ≤ 24) (k8 : 1 ≤ x8 ∧ x8 ≤ 1) (k11 : 2 ≤ x11 ∧ x11 ≤ 24) (d0 : x5 + 1 ≤ x11 ∧ x11 ≤ x5 + 1) (d1 : x6 + (-4294967296) ≤ x11 ∧ x11 ≤ x6 + 0) (d2 : x6 + (-4294967296) ≤ x5 ∧ x5 ≤ x6 + (-1)) (d3 : x5 + (-4294967296) ≤ x4 ∧ x4 ≤ x5 + (-1)) (f0 : x11 = x5 + 1) (f1 : 0 ≤ x4) (f2 : x1 < 0) (f3 : x8 ≠ 0) (h4 : x8 = left_0 (x5)) (f6 : x5 < x6) (f7 : 1 * x6 + ((-1) * all_0 (r_0 + 0) + 0) ≤ 0) (f8 : (-1) * x6 + (1 * all_0 (r_0 + 0) + 0) ≤ 0) (f9 : (x4 = (-1)) ∨ ((0 ≤ x4) ∧ (((x4 + 1) ≤ all_0 ((r_0 + 0))) ∧ (left_0 (x4) = 1)))) (f10 : (0 ≤ x1) ∨ ((0 ≤ x4) ∨ (∀ j0 : Int, 0 ≤ j0 → j0 < x5 → (left_0 (j0) ≤ 0)))) (hK_0_22 : ∀ j : Int, 0 ≤ j → j < 25 → 0 ≤ left_0 j ∧ left_0 j ≤ 1) : (0 ≤ x1) ∨ ((0 ≤ x4) ∨ (∀ j0 : Int, 0 ≤ j0 → j0 < x11 → (left_0 (j0) ≤ 0))) := by
  first | assumption | grind | omega
def o_Mo_fewest_4 : or_T := (4, 12, [(0, (2, 0, 0, [165])), (1, (0, -1, -1, [])), (2, (2, 0, 0, [165])), (3, (0, -1, -1, [])), (4, (0, 0, 22, [])), (5, (0, 1, 23, [])), (6, (0, 1, 24, [])), (7, (2, 0, 0, [177])), (8, (0, 1, 1, [])), (11, (0, 2, 24, []))], [(6, [11, 5], [1]), (8, [4], [3]), (8, [3], [2]), (8, [8], [1]), (10, [8, 7, 5], []), (9, [7, 2], [22]), (7, [5, 6], [2]), (20, [6, 2], [30, 0, 1, 0, 0, -1, 3, 2005000]), (20, [6, 2], [30, 0, -1, 0, 0, 1, 3, 2005000]), (20, [4, 2], [50, 1, 2, 1005, 1002, 1022, 3, 6, 1, 2, 1, 0, 0, -1, 2, 6, 0, 2, 0, 0, 1, 0, 2, 18, 0, 6, 4, 2, 1, 0, 0, 1, 3, 1, 2, 4, 3, 2, 1, 5, 0, 0, 1, 5, 3, 1, 22, 1, 0, 0, 1]), (20, [3, 4, 5, 2], [50, 0, 1, 3022, 3, 6, 0, 2, 0, 0, 1, 0, 3, 6, 0, 2, 0, 0, 1, 1, 5, 2, 1, 2, 0, 5, 3, 3, 22, 7, 0, 0, 0]), (24, [0, 2], []), (24, [1, 3], [])], [], [], [(20, [3, 4, 11, 2], [50, 0, 1, 3022, 3, 6, 0, 2, 0, 0, 1, 0, 3, 6, 0, 2, 0, 0, 1, 1, 5, 2, 1, 2, 0, 5, 3, 3, 22, 7, 0, 0, 0])], [], [(11, 5, 1, 1), (11, 6, -4294967296, 0), (5, 6, -4294967296, -1), (4, 5, -4294967296, -1)])
set_option maxHeartbeats 8000000 in
theorem oo_Mo_fewest_4 {kA : Nat → ClassId} : or_ok PRD kA GG o_Mo_fewest_4 := by
  refine or_mk fun A ta ws vs hD hth hl => ?_
  intro t0 r0 t1 k1 t2 r2 t3 k3 t4 k4 t5 k5 t6 k6 t7 r7 t8 k8 t11 k11 d0 d1 d2 d3 f0 f1 f2 f3 f4 f5 f6 f7 f8 f9 f10 f11 f12
  replace f0 := shm_4 f0
  replace f1 := shm_32 f1
  replace f2 := shm_39 f2
  replace f3 := shm_142 f3
  replace f4 := shm_107 f4
  replace f5 := shm_1026 f5
  replace f6 := shm_6 f6
  replace f7 := shm_126 f7
  replace f8 := shm_127 f8
  replace f9 := shm_1699 f9
  replace f10 := shm_1700 f10
  replace f11 := shm_5 f11
  replace f12 := shm_5 f12
  have q2 : n_v vs 2 = n_v vs 0 := f11.symm
  have q3 : n_v vs 3 = n_v vs 1 := f12.symm
  simp only [q3, q2] at f2 f5 f7 f8 f9 f10
  have cr_0_2 := fdq_10 hD hth r0
  have cr_0_22 := fdq_240 hD hth r0
  have ad_7 : v_ad (n_v vs 7) = w_ar ws (n_v vs 0) 22 := congrArg v_ad f5
  simp only [ad_7] at f4
  have h4 : v_iv (n_v vs 8) = w_ei ws (w_ar ws (n_v vs 0) 22) (v_iv (n_v vs 5)) := f4
  have br_0_2_F5_0_0 : w_ei ws (w_ar ws (n_v vs 0) 2) (w_fi ws (n_v vs 0) 5 + 0) = w_el ws (w_ar ws (n_v vs 0) 2) (w_fi ws (n_v vs 0) 5 + 0).toNat := rfl
  have br_0_22_5_0 : w_ei ws (w_ar ws (n_v vs 0) 22) (v_iv (n_v vs 5)) = w_el ws (w_ar ws (n_v vs 0) 22) (v_iv (n_v vs 5)).toNat := rfl
  have hK_0_22 := elq_148 hD hth cr_0_22
  first | have qi1 := (all_or2 f10) (v_iv (n_v vs 5)) (by omega) (by omega) | skip
  first | have qi2 := hK_0_22 (v_iv (n_v vs 5)) (by omega) (by omega) | skip
  have nf0 : fc_1 PRD (20, [3, 4, 11, 2], [50, 0, 1, 3022, 3, 6, 0, 2, 0, 0, 1, 0, 3, 6, 0, 2, 0, 0, 1, 1, 5, 2, 1, 2, 0, 5, 3, 3, 22, 7, 0, 0, 0]) ws (vs) := by
    refine ⟨nf_in hl rfl, sgq_1700 ?_⟩
    · show (0 ≤ v_iv (n_v vs 3)) ∨ ((0 ≤ v_iv (n_v vs 4)) ∨ (∀ j0 : Int, 0 ≤ j0 → j0 < v_iv (n_v vs 11) → (w_ei ws (w_ar ws (n_v vs 2) 22) (j0) ≤ 0)))
      simp only [q2, q3]
      exact vc_Mo_fewest_4_0 (v_iv (n_v vs 1)) (v_iv (n_v vs 3)) (v_iv (n_v vs 4)) (v_iv (n_v vs 5)) (v_iv (n_v vs 6)) (v_iv (n_v vs 8)) (v_iv (n_v vs 11)) (w_ei ws (w_ar ws (n_v vs 0) 22)) (w_ei ws (w_ar ws (n_v vs 0) 2)) (w_fi ws (n_v vs 0) 5) k1 k3 k4 k5 k6 k8 k11 d0 d1 d2 d3 f0 f1 f2 f3 h4 f6 f7 f8 f9 f10 hK_0_22
  refine ⟨(fun _ h => (by cases h)), [], trivial, ?_, (fun _ h => (by cases h))⟩
  rw [List.append_nil]
  exact List.forall_mem_cons.mpr ⟨⟨show (20 : Nat) < 100 from by decide, nf0⟩, (fun _ h => (by cases h))⟩
set_option maxHeartbeats 4000000 in
theorem vc_Mo_fewest_5_0 (x1 : Int) (x3 : Int) (x4 : Int) (x5 : Int) (x6 : Int) (x8 : Int) (x11 : Int) (left_0 : Int → Int) (all_0 : Int → Int) (r_0 : Int) (k1 : (-1) ≤ x1 ∧ x1 ≤ (-1)) (k3 : (-1) ≤ x3 ∧ x3 ≤ (-1)) (k4 : 0 ≤ x4 ∧ x4 ≤ 22) (k5 : 1 ≤ x5 ∧ x5 ≤ 23) (k6 : 1 ≤ x6 ∧ x6 ≤ 24) (k8 : 1 ≤ x8 ∧ x8 ≤ 1) (k11 : 2 ≤ x11 ∧ x11 ≤ 24) (d0 : x5 + 1 ≤ x11 ∧ x11 ≤ x5 + 1) (d1 : x6 + (-4294967296) ≤ x11 ∧ x11 ≤ x6 + 0) (d2 : x6 + (-4294967296) ≤ x5 ∧ x5 ≤ x6 + (-1)) (d3 : x5 + (-4294967296) ≤ x4 ∧ x4 ≤ x5 + (-1)) (f0 : x11 = x5 + 1) (f1 : 0 ≤ x4) (f2 : x1 < 0) (f3 : x8 ≠ 0) (h4 : x8 = left_0 (x5)) (f6 : x5 < x6) (f7 : 1 * x6 + ((-1) * all_0 (r_0 + 0) + 0) ≤ 0) (f8 : (-1) * x6 + (1 * all_0 (r_0 + 0) + 0) ≤ 0) (f9 : (x4 = (-1)) ∨ ((0 ≤ x4) ∧ (((x4 + 1) ≤ all_0 ((r_0 + 0))) ∧ (left_0 (x4) = 1)))) (f10 : (0 ≤ x1) ∨ ((0 ≤ x4) ∨ (∀ j0 : Int, 0 ≤ j0 → j0 < x5 → (left_0 (j0) ≤ 0)))) (hK_0_22 : ∀ j : Int, 0 ≤ j → j < 25 → 0 ≤ left_0 j ∧ left_0 j ≤ 1) : (x5 = (-1)) ∨ ((0 ≤ x5) ∧ (((x5 + 1) ≤ all_0 ((r_0 + 0))) ∧ (left_0 (x5) = 1))) := by
  first | assumption | (clear f9 f10 hK_0_22; omega) | (clear f10 hK_0_22; grind) | omega | grind
set_option maxHeartbeats 4000000 in
theorem vc_Mo_fewest_5_1 (x1 : Int) (x3 : Int) (x4 : Int) (x5 : Int) (x6 : Int) (x8 : Int) (x11 : Int) (left_0 : Int → Int) (all_0 : Int → Int) (r_0 : Int) (k1 : (-1) ≤ x1 ∧ x1 ≤ (-1)) (k3 : (-1) ≤ x3 ∧ x3 ≤ (-1)) (k4 : 0 ≤ x4 ∧ x4 ≤ 22) (k5 : 1 ≤ x5 ∧ x5 ≤ 23) (k6 : 1 ≤ x6 ∧ x6 ≤ 24) (k8 : 1 ≤ x8 ∧ x8 ≤ 1) (k11 : 2 ≤ x11 ∧ x11 ≤ 24) (d0 : x5 + 1 ≤ x11 ∧ x11 ≤ x5 + 1) (d1 : x6 + (-4294967296) ≤ x11 ∧ x11 ≤ x6 + 0) (d2 : x6 + (-4294967296) ≤ x5 ∧ x5 ≤ x6 + (-1)) (d3 : x5 + (-4294967296) ≤ x4 ∧ x4 ≤ x5 + (-1)) (f0 : x11 = x5 + 1) (f1 : 0 ≤ x4) (f2 : x1 < 0) (f3 : x8 ≠ 0) (h4 : x8 = left_0 (x5)) (f6 : x5 < x6) (f7 : 1 * x6 + ((-1) * all_0 (r_0 + 0) + 0) ≤ 0) (f8 : (-1) * x6 + (1 * all_0 (r_0 + 0) + 0) ≤ 0) (f9 : (x4 = (-1)) ∨ ((0 ≤ x4) ∧ (((x4 + 1) ≤ all_0 ((r_0 + 0))) ∧ (left_0 (x4) = 1)))) (f10 : (0 ≤ x1) ∨ ((0 ≤ x4) ∨ (∀ j0 : Int, 0 ≤ j0 → j0 < x5 → (left_0 (j0) ≤ 0)))) (hK_0_22 : ∀ j : Int, 0 ≤ j → j < 25 → 0 ≤ left_0 j ∧ left_0 j ≤ 1) : (0 ≤ x1) ∨ ((0 ≤ x5) ∨ (∀ j0 : Int, 0 ≤ j0 → j0 < x11 → (left_0 (j0) ≤ 0))) := by
  first | assumption | grind | omega
def o_Mo_fewest_5 : or_T := (4, 12, [(0, (2, 0, 0, [165])), (1, (0, -1, -1, [])), (2, (2, 0, 0, [165])), (3, (0, -1, -1, [])), (4, (0, 0, 22, [])), (5, (0, 1, 23, [])), (6, (0, 1, 24, [])), (7, (2, 0, 0, [177])), (8, (0, 1, 1, [])), (11, (0, 2, 24, []))], [(6, [11, 5], [1]), (8, [4], [3]), (8, [3], [2]), (8, [8], [1]), (10, [8, 7, 5], []), (9, [7, 2], [22]), (7, [5, 6], [2]), (20, [6, 2], [30, 0, 1, 0, 0, -1, 3, 2005000]), (20, [6, 2], [30, 0, -1, 0, 0, 1, 3, 2005000]), (20, [4, 2], [50, 1, 2, 1005, 1002, 1022, 3, 6, 1, 2, 1, 0, 0, -1, 2, 6, 0, 2, 0, 0, 1, 0, 2, 18, 0, 6, 4, 2, 1, 0, 0, 1, 3, 1, 2, 4, 3, 2, 1, 5, 0, 0, 1, 5, 3, 1, 22, 1, 0, 0, 1]), (20, [3, 4, 5, 2], [50, 0, 1, 3022, 3, 6, 0, 2, 0, 0, 1, 0, 3, 6, 0, 2, 0, 0, 1, 1, 5, 2, 1, 2, 0, 5, 3, 3, 22, 7, 0, 0, 0]), (24, [0, 2], []), (24, [1, 3], [])], [], [], [(20, [5, 2], [50, 1, 2, 1005, 1002, 1022, 3, 6, 1, 2, 1, 0, 0, -1, 2, 6, 0, 2, 0, 0, 1, 0, 2, 18, 0, 6, 4, 2, 1, 0, 0, 1, 3, 1, 2, 4, 3, 2, 1, 5, 0, 0, 1, 5, 3, 1, 22, 1, 0, 0, 1]), (20, [3, 5, 11, 2], [50, 0, 1, 3022, 3, 6, 0, 2, 0, 0, 1, 0, 3, 6, 0, 2, 0, 0, 1, 1, 5, 2, 1, 2, 0, 5, 3, 3, 22, 7, 0, 0, 0])], [], [(11, 5, 1, 1), (11, 6, -4294967296, 0), (5, 6, -4294967296, -1), (4, 5, -4294967296, -1)])
set_option maxHeartbeats 8000000 in
theorem oo_Mo_fewest_5 {kA : Nat → ClassId} : or_ok PRD kA GG o_Mo_fewest_5 := by
  refine or_mk fun A ta ws vs hD hth hl => ?_
  intro t0 r0 t1 k1 t2 r2 t3 k3 t4 k4 t5 k5 t6 k6 t7 r7 t8 k8 t11 k11 d0 d1 d2 d3 f0 f1 f2 f3 f4 f5 f6 f7 f8 f9 f10 f11 f12
  replace f0 := shm_4 f0
  replace f1 := shm_32 f1
  replace f2 := shm_39 f2
  replace f3 := shm_142 f3
  replace f4 := shm_107 f4
  replace f5 := shm_1026 f5
  replace f6 := shm_6 f6
  replace f7 := shm_126 f7
  replace f8 := shm_127 f8
  replace f9 := shm_1699 f9
  replace f10 := shm_1700 f10
  replace f11 := shm_5 f11
  replace f12 := shm_5 f12
  have q2 : n_v vs 2 = n_v vs 0 := f11.symm
  have q3 : n_v vs 3 = n_v vs 1 := f12.symm
  simp only [q3, q2] at f2 f5 f7 f8 f9 f10
  have cr_0_2 := fdq_10 hD hth r0
  have cr_0_22 := fdq_240 hD hth r0
  have ad_7 : v_ad (n_v vs 7) = w_ar ws (n_v vs 0) 22 := congrArg v_ad f5
  simp only [ad_7] at f4
  have h4 : v_iv (n_v vs 8) = w_ei ws (w_ar ws (n_v vs 0) 22) (v_iv (n_v vs 5)) := f4
  have br_0_2_F5_0_0 : w_ei ws (w_ar ws (n_v vs 0) 2) (w_fi ws (n_v vs 0) 5 + 0) = w_el ws (w_ar ws (n_v vs 0) 2) (w_fi ws (n_v vs 0) 5 + 0).toNat := rfl
  have br_0_22_5_0 : w_ei ws (w_ar ws (n_v vs 0) 22) (v_iv (n_v vs 5)) = w_el ws (w_ar ws (n_v vs 0) 22) (v_iv (n_v vs 5)).toNat := rfl
  have hK_0_22 := elq_148 hD hth cr_0_22
  first | have qi1 := (all_or2 f10) (v_iv (n_v vs 5)) (by omega) (by omega) | skip
  first | have qi2 := hK_0_22 (v_iv (n_v vs 5)) (by omega) (by omega) | skip
  have nf0 : fc_1 PRD (20, [5, 2], [50, 1, 2, 1005, 1002, 1022, 3, 6, 1, 2, 1, 0, 0, -1, 2, 6, 0, 2, 0, 0, 1, 0, 2, 18, 0, 6, 4, 2, 1, 0, 0, 1, 3, 1, 2, 4, 3, 2, 1, 5, 0, 0, 1, 5, 3, 1, 22, 1, 0, 0, 1]) ws (vs) := by
    refine ⟨nf_in hl rfl, sgq_1699 ?_⟩
    · show (v_iv (n_v vs 5) = (-1)) ∨ ((0 ≤ v_iv (n_v vs 5)) ∧ (((v_iv (n_v vs 5) + 1) ≤ w_ei ws (w_ar ws (n_v vs 2) 2) ((w_fi ws (n_v vs 2) 5 + 0))) ∧ (w_ei ws (w_ar ws (n_v vs 2) 22) (v_iv (n_v vs 5)) = 1)))
      rw [q2]
      exact vc_Mo_fewest_5_0 (v_iv (n_v vs 1)) (v_iv (n_v vs 3)) (v_iv (n_v vs 4)) (v_iv (n_v vs 5)) (v_iv (n_v vs 6)) (v_iv (n_v vs 8)) (v_iv (n_v vs 11)) (w_ei ws (w_ar ws (n_v vs 0) 22)) (w_ei ws (w_ar ws (n_v vs 0) 2)) (w_fi ws (n_v vs 0) 5) k1 k3 k4 k5 k6 k8 k11 d0 d1 d2 d3 f0 f1 f2 f3 h4 f6 f7 f8 f9 f10 hK_0_22
  have nf1 : fc_1 PRD (20, [3, 5, 11, 2], [50, 0, 1, 3022, 3, 6, 0, 2, 0, 0, 1, 0, 3, 6, 0, 2, 0, 0, 1, 1, 5, 2, 1, 2, 0, 5, 3, 3, 22, 7, 0, 0, 0]) ws (vs) := by
    refine ⟨nf_in hl rfl, sgq_1700 ?_⟩
    · show (0 ≤ v_iv (n_v vs 3)) ∨ ((0 ≤ v_iv (n_v vs 5)) ∨ (∀ j0 : Int, 0 ≤ j0 → j0 < v_iv (n_v vs 11) → (w_ei ws (w_ar ws (n_v vs 2) 22) (j0) ≤ 0)))
      simp only [q2, q3]
      exact vc_Mo_fewest_5_1 (v_iv (n_v vs 1)) (v_iv (n_v vs 3)) (v_iv (n_v vs 4)) (v_iv (n_v vs 5)) (v_iv (n_v vs 6)) (v_iv (n_v vs 8)) (v_iv (n_v vs 11)) (w_ei ws (w_ar ws (n_v vs 0) 22)) (w_ei ws (w_ar ws (n_v vs 0) 2)) (w_fi ws (n_v vs 0) 5) k1 k3 k4 k5 k6 k8 k11 d0 d1 d2 d3 f0 f1 f2 f3 h4 f6 f7 f8 f9 f10 hK_0_22
  refine ⟨(fun _ h => (by cases h)), [], trivial, ?_, (fun _ h => (by cases h))⟩
  rw [List.append_nil]
  exact List.forall_mem_cons.mpr ⟨⟨show (20 : Nat) < 100 from by decide, nf0⟩, List.forall_mem_cons.mpr ⟨⟨show (20 : Nat) < 100 from by decide, nf1⟩, (fun _ h => (by cases h))⟩⟩
set_option maxHeartbeats 4000000 in
theorem vc_Mo_fewest_6_0 (x1 : Int) (x4 : Int) (x10 : Int) (left_0 : Int → Int) (k1 : 0 ≤ x1 ∧ x1 ≤ 25) (k4 : (-1) ≤ x4 ∧ x4 ≤ 22) (k10 : 1 ≤ x10 ∧ x10 ≤ 24) : (0 ≤ x1) ∨ ((0 ≤ x4) ∨ (∀ j0 : Int, 0 ≤ j0 → j0 < x10 → (left_0 (j0) ≤ 0))) := by
  first | assumption | grind | omega
def o_Mo_fewest_6 : or_T := (4, 11, [(0, (2, 0, 0, [165])), (1, (0, 0, 25, [])), (2, (2, 0, 0, [165])), (3, (0, 0, 25, [])), (4, (0, -1, 22, [])), (5, (0, 0, 23, [])), (6, (0, 1, 24, [])), (7, (2, 0, 0, [177])), (8, (0, 1, 1, [])), (9, (0, -1, -1, [])), (10, (0, 1, 24, []))], [(6, [10, 5], [1]), (8, [9], [2]), (20, [2, 3, 5, 9], [60, 1, 1, 206, 5, 2]), (20, [2, 3, 5, 9], [60, 1, 1, 1034, 5, 2]), (8, [3], [3]), (8, [8], [1]), (10, [8, 7, 5], []), (9, [7, 2], [22]), (7, [5, 6], [2]), (20, [6, 2], [30, 0, 1, 0, 0, -1, 3, 2005000]), (20, [6, 2], [30, 0, -1, 0, 0, 1, 3, 2005000]), (20, [4, 2], [50, 1, 2, 1005, 1002, 1022, 3, 6, 1, 2, 1, 0, 0, -1, 2, 6, 0, 2, 0, 0, 1, 0, 2, 18, 0, 6, 4, 2, 1, 0, 0, 1, 3, 1, 2, 4, 3, 2, 1, 5, 0, 0, 1, 5, 3, 1, 22, 1, 0, 0, 1]), (20, [3, 4, 5, 2], [50, 0, 1, 3022, 3, 6, 0, 2, 0, 0, 1, 0, 3, 6, 0, 2, 0, 0, 1, 1, 5, 2, 1, 2, 0, 5, 3, 3, 22, 7, 0, 0, 0]), (24, [0, 2], []), (24, [1, 3], [])], [], [], [(20, [3, 4, 10, 2], [50, 0, 1, 3022, 3, 6, 0, 2, 0, 0, 1, 0, 3, 6, 0, 2, 0, 0, 1, 1, 5, 2, 1, 2, 0, 5, 3, 3, 22, 7, 0, 0, 0])], [], [(10, 5, 1, 1), (10, 6, -4294967296, 0), (5, 6, -4294967296, -1), (1, 3, -4294967296, 0), (3, 1, -4294967296, 0), (4, 5, -4294967296, -1)])
set_option maxHeartbeats 8000000 in
theorem oo_Mo_fewest_6 {kA : Nat → ClassId} : or_ok PRD kA GG o_Mo_fewest_6 := by
  refine or_mk fun A ta ws vs hD hth hl => ?_
  intro t0 r0 t1 k1 t2 r2 t3 k3 t4 k4 t5 k5 t6 k6 t7 r7 t8 k8 t9 k9 t10 k10 d0 d1 d2 d3 d4 d5 f0 f1 f2 f3 f4 f5 f6 f7 f8 f9 f10 f11 f12 f13 f14
  replace f0 := shm_4 f0
  replace f1 := shm_39 f1
  replace f2 := shm_1419 f2
  replace f3 := shm_1420 f3
  replace f4 := shm_32 f4
  replace f5 := shm_142 f5
  replace f6 := shm_107 f6
  replace f7 := shm_1026 f7
  replace f8 := shm_6 f8
  replace f9 := shm_126 f9
  replace f10 := shm_127 f10
  replace f11 := shm_1699 f11
  replace f12 := shm_1700 f12
  replace f13 := shm_5 f13
  replace f14 := shm_5 f14
  have q2 : n_v vs 2 = n_v vs 0 := f13.symm
  have q3 : n_v vs 3 = n_v vs 1 := f14.symm
  simp only [q2, q3] at f2 f3 f4 f7 f9 f10 f11 f12
  have cr_0_2 := fdq_10 hD hth r0
  have cr_0_22 := fdq_240 hD hth r0
  have ad_7 : v_ad (n_v vs 7) = w_ar ws (n_v vs 0) 22 := congrArg v_ad f7
  simp only [ad_7] at f6
  have h6 : v_iv (n_v vs 8) = w_ei ws (w_ar ws (n_v vs 0) 22) (v_iv (n_v vs 5)) := f6
  have br_0_2_F5_0_0 : w_ei ws (w_ar ws (n_v vs 0) 2) (w_fi ws (n_v vs 0) 5 + 0) = w_el ws (w_ar ws (n_v vs 0) 2) (w_fi ws (n_v vs 0) 5 + 0).toNat := rfl
  have br_0_22_5_0 : w_ei ws (w_ar ws (n_v vs 0) 22) (v_iv (n_v vs 5)) = w_el ws (w_ar ws (n_v vs 0) 22) (v_iv (n_v vs 5)).toNat := rfl
  have hK_0_22 := elq_148 hD hth cr_0_22
  first | have qi1 := (all_or2 f12) (v_iv (n_v vs 5)) (by omega) (by omega) | skip
  first | have qi2 := hK_0_22 (v_iv (n_v vs 5)) (by omega) (by omega) | skip
  have nf0 : fc_1 PRD (20, [3, 4, 10, 2], [50, 0, 1, 3022, 3, 6, 0, 2, 0, 0, 1, 0, 3, 6, 0, 2, 0, 0, 1, 1, 5, 2, 1, 2, 0, 5, 3, 3, 22, 7, 0, 0, 0]) ws (vs) := by
    refine ⟨nf_in hl rfl, sgq_1700 ?_⟩
    · show (0 ≤ v_iv (n_v vs 3)) ∨ ((0 ≤ v_iv (n_v vs 4)) ∨ (∀ j0 : Int, 0 ≤ j0 → j0 < v_iv (n_v vs 10) → (w_ei ws (w_ar ws (n_v vs 2) 22) (j0) ≤ 0)))
      simp only [q2, q3]
      exact vc_Mo_fewest_6_0 (v_iv (n_v vs 1)) (v_iv (n_v vs 4)) (v_iv (n_v vs 10)) (w_ei ws (w_ar ws (n_v vs 0) 22)) k1 k4 k10
  refine ⟨(fun _ h => (by cases h)), [], trivial, ?_, (fun _ h => (by cases h))⟩
  rw [List.append_nil]
  exact List.forall_mem_cons.mpr ⟨⟨show (20 : Nat) < 100 from by decide, nf0⟩, (fun _ h => (by cases h))⟩
set_option maxHeartbeats 4000000 in
theorem vc_Mo_fewest_7_0 (x5 : Int) (x6 : Int) (x8 : Int) (x10 : Int) (all_0 : Int → Int) (r_0 : Int) (left_0 : Int → Int) (k5 : 0 ≤ x5 ∧ x5 ≤ 23) (k6 : 1 ≤ x6 ∧ x6 ≤ 24) (k8 : 1 ≤ x8 ∧ x8 ≤ 1) (k10 : 1 ≤ x10 ∧ x10 ≤ 24) (d0 : x5 + 1 ≤ x10 ∧ x10 ≤ x5 + 1) (d1 : x6 + (-4294967296) ≤ x10 ∧ x10 ≤ x6 + 0) (d2 : x6 + (-4294967296) ≤ x5 ∧ x5 ≤ x6 + (-1)) (h7 : x8 = left_0 (x5)) (f10 : 1 * x6 + ((-1) * all_0 (r_0 + 0) + 0) ≤ 0) (f11 : (-1) * x6 + (1 * all_0 (r_0 + 0) + 0) ≤ 0) : (x5 = (-1)) ∨ ((0 ≤ x5) ∧ (((x5 + 1) ≤ all_0 ((r_0 + 0))) ∧ (left_0 (x5) = 1))) := by
  first | assumption | omega | grind
set_option maxHeartbeats 4000000 in
theorem vc_Mo_fewest_7_1 (x1 : Int) (x5 : Int) (x10 : Int) (left_0 : Int → Int) (k1 : 0 ≤ x1 ∧ x1 ≤ 25) (k5 : 0 ≤ x5 ∧ x5 ≤ 23) (k10 : 1 ≤ x10 ∧ x10 ≤ 24) : (0 ≤ x1) ∨ ((0 ≤ x5) ∨ (∀ j0 : Int, 0 ≤ j0 → j0 < x10 → (left_0 (j0) ≤ 0))) := by
  first | assumption | grind | omega
def o_Mo_fewest_7 : or_T := (4, 11, [(0, (2, 0, 0, [165])), (1, (0, 0, 25, [])), (2, (2, 0, 0, [165])), (3, (0, 0, 25, [])), (4, (0, -1, -1, [])), (5, (0, 0, 23, [])), (6, (0, 1, 24, [])), (7, (2, 0, 0, [177])), (8, (0, 1, 1, [])), (9, (0, 0, 47, [])), (10, (0, 1, 24, []))], [(6, [10, 5], [1]), (8, [4], [2]), (8, [9], [3]), (20, [2, 3, 5, 9], [60, 1, 1, 206, 5, 2]), (20, [2, 3, 5, 9], [60, 1, 1, 1034, 5, 2]), (8, [3], [3]), (8, [8], [1]), (10, [8, 7, 5], []), (9, [7, 2], [22]), (7, [5, 6], [2]), (20, [6, 2], [30, 0, 1, 0, 0, -1, 3, 2005000]), (20, [6, 2], [30, 0, -1, 0, 0, 1, 3, 2005000]), (20, [4, 2], [50, 1, 2, 1005, 1002, 1022, 3, 6, 1, 2, 1, 0, 0, -1, 2, 6, 0, 2, 0, 0, 1, 0, 2, 18, 0, 6, 4, 2, 1, 0, 0, 1, 3, 1, 2, 4, 3, 2, 1, 5, 0, 0, 1, 5, 3, 1, 22, 1, 0, 0, 1]), (20, [3, 4, 5, 2], [50, 0, 1, 3022, 3, 6, 0, 2, 0, 0, 1, 0, 3, 6, 0, 2, 0, 0, 1, 1, 5, 2, 1, 2, 0, 5, 3, 3, 22, 7, 0, 0, 0]), (24, [0, 2], []), (24, [1, 3], [])], [], [], [(20, [5, 2], [50, 1, 2, 1005, 1002, 1022, 3, 6, 1, 2, 1, 0, 0, -1, 2, 6, 0, 2, 0, 0, 1, 0, 2, 18, 0, 6, 4, 2, 1, 0, 0, 1, 3, 1, 2, 4, 3, 2, 1, 5, 0, 0, 1, 5, 3, 1, 22, 1, 0, 0, 1]), (20, [3, 5, 10, 2], [50, 0, 1, 3022, 3, 6, 0, 2, 0, 0, 1, 0, 3, 6, 0, 2, 0, 0, 1, 1, 5, 2, 1, 2, 0, 5, 3, 3, 22, 7, 0, 0, 0])], [], [(10, 5, 1, 1), (10, 6, -4294967296, 0), (5, 6, -4294967296, -1), (1, 3, -4294967296, 0), (3, 1, -4294967296, 0)])
set_option maxHeartbeats 8000000 in
theorem oo_Mo_fewest_7 {kA : Nat → ClassId} : or_ok PRD kA GG o_Mo_fewest_7 := by
  refine or_mk fun A ta ws vs hD hth hl => ?_
  intro t0 r0 t1 k1 t2 r2 t3 k3 t4 k4 t5 k5 t6 k6 t7 r7 t8 k8 t9 k9 t10 k10 d0 d1 d2 d3 d4 f0 f1 f2 f3 f4 f5 f6 f7 f8 f9 f10 f11 f12 f13 f14 f15
  replace f0 := shm_4 f0
  replace f1 := shm_39 f1
  replace f2 := shm_32 f2
  replace f3 := shm_1419 f3
  replace f4 := shm_1420 f4
  replace f5 := shm_32 f5
  replace f6 := shm_142 f6
  replace f7 := shm_107 f7
  replace f8 := shm_1026 f8
  replace f9 := shm_6 f9
  replace f10 := shm_126 f10
  replace f11 := shm_127 f11
  replace f12 := shm_1699 f12
  replace f13 := shm_1700 f13
  replace f14 := shm_5 f14
  replace f15 := shm_5 f15
  have q2 : n_v vs 2 = n_v vs 0 := f14.symm
  have q3 : n_v vs 3 = n_v vs 1 := f15.symm
  simp only [q2, q3] at f3 f4 f5 f8 f10 f11 f12 f13
  have cr_0_2 := fdq_10 hD hth r0
  have cr_0_22 := fdq_240 hD hth r0
  have ad_7 : v_ad (n_v vs 7) = w_ar ws (n_v vs 0) 22 := congrArg v_ad f8
  simp only [ad_7] at f7
  have h7 : v_iv (n_v vs 8) = w_ei ws (w_ar ws (n_v vs 0) 22) (v_iv (n_v vs 5)) := f7
  have br_0_2_F5_0_0 : w_ei ws (w_ar ws (n_v vs 0) 2) (w_fi ws (n_v vs 0) 5 + 0) = w_el ws (w_ar ws (n_v vs 0) 2) (w_fi ws (n_v vs 0) 5 + 0).toNat := rfl
  have br_0_22_5_0 : w_ei ws (w_ar ws (n_v vs 0) 22) (v_iv (n_v vs 5)) = w_el ws (w_ar ws (n_v vs 0) 22) (v_iv (n_v vs 5)).toNat := rfl
  have hK_0_22 := elq_148 hD hth cr_0_22
  first | have qi1 := (all_or2 f13) (v_iv (n_v vs 5)) (by omega) (by omega) | skip
  first | have qi2 := hK_0_22 (v_iv (n_v vs 5)) (by omega) (by omega) | skip
  have nf0 : fc_1 PRD (20, [5, 2], [50, 1, 2, 1005, 1002, 1022, 3, 6, 1, 2, 1, 0, 0, -1, 2, 6, 0, 2, 0, 0, 1, 0, 2, 18, 0, 6, 4, 2, 1, 0, 0, 1, 3, 1, 2, 4, 3, 2, 1, 5, 0, 0, 1, 5, 3, 1, 22, 1, 0, 0, 1]) ws (vs) := by
    refine ⟨nf_in hl rfl, sgq_1699 ?_⟩
    · show (v_iv (n_v vs 5) = (-1)) ∨ ((0 ≤ v_iv (n_v vs 5)) ∧ (((v_iv (n_v vs 5) + 1) ≤ w_ei ws (w_ar ws (n_v vs 2) 2) ((w_fi ws (n_v vs 2) 5 + 0))) ∧ (w_ei ws (w_ar ws (n_v vs 2) 22) (v_iv (n_v vs 5)) = 1)))
      rw [q2]
      exact vc_Mo_fewest_7_0 (v_iv (n_v vs 5)) (v_iv (n_v vs 6)) (v_iv (n_v vs 8)) (v_iv (n_v vs 10)) (w_ei ws (w_ar ws (n_v vs 0) 2)) (w_fi ws (n_v vs 0) 5) (w_ei ws (w_ar ws (n_v vs 0) 22)) k5 k6 k8 k10 d0 d1 d2 h7 f10 f11
  have nf1 : fc_1 PRD (20, [3, 5, 10, 2], [50, 0, 1, 3022, 3, 6, 0, 2, 0, 0, 1, 0, 3, 6, 0, 2, 0, 0, 1, 1, 5, 2, 1, 2, 0, 5, 3, 3, 22, 7, 0, 0, 0]) ws (vs) := by
    refine ⟨nf_in hl rfl, sgq_1700 ?_⟩
    · show (0 ≤ v_iv (n_v vs 3)) ∨ ((0 ≤ v_iv (n_v vs 5)) ∨ (∀ j0 : Int, 0 ≤ j0 → j0 < v_iv (n_v vs 10) → (w_ei ws (w_ar ws (n_v vs 2) 22) (j0) ≤ 0)))
      simp only [q2, q3]
      exact vc_Mo_fewest_7_1 (v_iv (n_v vs 1)) (v_iv (n_v vs 5)) (v_iv (n_v vs 10)) (w_ei ws (w_ar ws (n_v vs 0) 22)) k1 k5 k10
  refine ⟨(fun _ h => (by cases h)), [], trivial, ?_, (fun _ h => (by cases h))⟩
  rw [List.append_nil]
  exact List.forall_mem_cons.mpr ⟨⟨show (20 : Nat) < 100 from by decide, nf0⟩, List.forall_mem_cons.mpr ⟨⟨show (20 : Nat) < 100 from by decide, nf1⟩, (fun _ h => (by cases h))⟩⟩
set_option maxHeartbeats 4000000 in
theorem vc_Mo_fewest_8_0 (x1 : Int) (x4 : Int) (x12 : Int) (left_0 : Int → Int) (k1 : 0 ≤ x1 ∧ x1 ≤ 25) (k4 : 0 ≤ x4 ∧ x4 ≤ 22) (k12 : 2 ≤ x12 ∧ x12 ≤ 24) : (0 ≤ x1) ∨ ((0 ≤ x4) ∨ (∀ j0 : Int, 0 ≤ j0 → j0 < x12 → (left_0 (j0) ≤ 0))) := by
  first | assumption | grind | omega
def o_Mo_fewest_8 : or_T := (4, 13, [(0, (2, 0, 0, [165])), (1, (0, 0, 25, [])), (2, (2, 0, 0, [165])), (3, (0, 0, 25, [])), (4, (0, 0, 22, [])), (5, (0, 1, 23, [])), (6, (0, 1, 24, [])), (7, (2, 0, 0, [177])), (8, (0, 1, 1, [])), (9, (0, 0, 47, [])), (12, (0, 2, 24, []))], [(6, [12, 5], [1]), (8, [4], [3]), (8, [9], [3]), (20, [2, 3, 5, 9], [60, 1, 1, 206, 5, 2]), (20, [2, 3, 5, 9], [60, 1, 1, 1034, 5, 2]), (8, [3], [3]), (8, [8], [1]), (10, [8, 7, 5], []), (9, [7, 2], [22]), (7, [5, 6], [2]), (20, [6, 2], [30, 0, 1, 0, 0, -1, 3, 2005000]), (20, [6, 2], [30, 0, -1, 0, 0, 1, 3, 2005000]), (20, [4, 2], [50, 1, 2, 1005, 1002, 1022, 3, 6, 1, 2, 1, 0, 0, -1, 2, 6, 0, 2, 0, 0, 1, 0, 2, 18, 0, 6, 4, 2, 1, 0, 0, 1, 3, 1, 2, 4, 3, 2, 1, 5, 0, 0, 1, 5, 3, 1, 22, 1, 0, 0, 1]), (20, [3, 4, 5, 2], [50, 0, 1, 3022, 3, 6, 0, 2, 0, 0, 1, 0, 3, 6, 0, 2, 0, 0, 1, 1, 5, 2, 1, 2, 0, 5, 3, 3, 22, 7, 0, 0, 0]), (24, [0, 2], []), (24, [1, 3], [])], [], [], [(20, [3, 4, 12, 2], [50, 0, 1, 3022, 3, 6, 0, 2, 0, 0, 1, 0, 3, 6, 0, 2, 0, 0, 1, 1, 5, 2, 1, 2, 0, 5, 3, 3, 22, 7, 0, 0, 0])], [], [(12, 5, 1, 1), (12, 6, -4294967296, 0), (5, 6, -4294967296, -1), (1, 3, -4294967296, 0), (3, 1, -4294967296, 0), (4, 5, -4294967296, -1)])
set_option maxHeartbeats 8000000 in
theorem oo_Mo_fewest_8 {kA : Nat → ClassId} : or_ok PRD kA GG o_Mo_fewest_8 := by
  refine or_mk fun A ta ws vs hD hth hl => ?_
  intro t0 r0 t1 k1 t2 r2 t3 k3 t4 k4 t5 k5 t6 k6 t7 r7 t8 k8 t9 k9 t12 k12 d0 d1 d2 d3 d4 d5 f0 f1 f2 f3 f4 f5 f6 f7 f8 f9 f10 f11 f12 f13 f14 f15
  replace f0 := shm_4 f0
  replace f1 := shm_32 f1
  replace f2 := shm_32 f2
  replace f3 := shm_1419 f3
  replace f4 := shm_1420 f4
  replace f5 := shm_32 f5
  replace f6 := shm_142 f6
  replace f7 := shm_107 f7
  replace f8 := shm_1026 f8
  replace f9 := shm_6 f9
  replace f10 := shm_126 f10
  replace f11 := shm_127 f11
  replace f12 := shm_1699 f12
  replace f13 := shm_1700 f13
  replace f14 := shm_5 f14
  replace f15 := shm_5 f15
  have q2 : n_v vs 2 = n_v vs 0 := f14.symm
  have q3 : n_v vs 3 = n_v vs 1 := f15.symm
  simp only [q2, q3] at f3 f4 f5 f8 f10 f11 f12 f13
  have cr_0_2 := fdq_10 hD hth r0
  have cr_0_22 := fdq_240 hD hth r0
  have ad_7 : v_ad (n_v vs 7) = w_ar ws (n_v vs 0) 22 := congrArg v_ad f8
  simp only [ad_7] at f7
  have h7 : v_iv (n_v vs 8) = w_ei ws (w_ar ws (n_v vs 0) 22) (v_iv (n_v vs 5)) := f7
  have br_0_2_F5_0_0 : w_ei ws (w_ar ws (n_v vs 0) 2) (w_fi ws (n_v vs 0) 5 + 0) = w_el ws (w_ar ws (n_v vs 0) 2) (w_fi ws (n_v vs 0) 5 + 0).toNat := rfl
  have br_0_22_5_0 : w_ei ws (w_ar ws (n_v vs 0) 22) (v_iv (n_v vs 5)) = w_el ws (w_ar ws (n_v vs 0) 22) (v_iv (n_v vs 5)).toNat := rfl
  have hK_0_22 := elq_148 hD hth cr_0_22
  first | have qi1 := (all_or2 f13) (v_iv (n_v vs 5)) (by omega) (by omega) | skip
  first | have qi2 := hK_0_22 (v_iv (n_v vs 5)) (by omega) (by omega) | skip
  have nf0 : fc_1 PRD (20, [3, 4, 12, 2], [50, 0, 1, 3022, 3, 6, 0, 2, 0, 0, 1, 0, 3, 6, 0, 2, 0, 0, 1, 1, 5, 2, 1, 2, 0, 5, 3, 3, 22, 7, 0, 0, 0]) ws (vs) := by
    refine ⟨nf_in hl rfl, sgq_1700 ?_⟩
    · show (0 ≤ v_iv (n_v vs 3)) ∨ ((0 ≤ v_iv (n_v vs 4)) ∨ (∀ j0 : Int, 0 ≤ j0 → j0 < v_iv (n_v vs 12) → (w_ei ws (w_ar ws (n_v vs 2) 22) (j0) ≤ 0)))
      simp only [q2, q3]
      exact vc_Mo_fewest_8_0 (v_iv (n_v vs 1)) (v_iv (n_v vs 4)) (v_iv (n_v vs 12)) (w_ei ws (w_ar ws (n_v vs 0) 22)) k1 k4 k12
  refine ⟨(fun _ h => (by cases h)), [], trivial, ?_, (fun _ h => (by cases h))⟩
  rw [List.append_nil]
  exact List.forall_mem_cons.mpr ⟨⟨show (20 : Nat) < 100 from by decide, nf0⟩, (fun _ h => (by cases h))⟩
set_option maxHeartbeats 4000000 in
theorem vc_Mo_fewest_9_0 (x5 : Int) (x6 : Int) (x8 : Int) (x12 : Int) (all_0 : Int → Int) (r_0 : Int) (left_0 : Int → Int) (k5 : 1 ≤ x5 ∧ x5 ≤ 23) (k6 : 1 ≤ x6 ∧ x6 ≤ 24) (k8 : 1 ≤ x8 ∧ x8 ≤ 1) (k12 : 2 ≤ x12 ∧ x12 ≤ 24) (d0 : x5 + 1 ≤ x12 ∧ x12 ≤ x5 + 1) (d1 : x6 + (-4294967296) ≤ x12 ∧ x12 ≤ x6 + 0) (d2 : x6 + (-4294967296) ≤ x5 ∧ x5 ≤ x6 + (-1)) (h7 : x8 = left_0 (x5)) (f10 : 1 * x6 + ((-1) * all_0 (r_0 + 0) + 0) ≤ 0) (f11 : (-1) * x6 + (1 * all_0 (r_0 + 0) + 0) ≤ 0) : (x5 = (-1)) ∨ ((0 ≤ x5) ∧ (((x5 + 1) ≤ all_0 ((r_0 + 0))) ∧ (left_0 (x5) = 1))) := by
  first | assumption | omega | grind
set_option maxHeartbeats 4000000 in
theorem vc_Mo_fewest_9_1 (x1 : Int) (x5 : Int) (x12 : Int) (left_0 : Int → Int) (k1 : 0 ≤ x1 ∧ x1 ≤ 25) (k5 : 1 ≤ x5 ∧ x5 ≤ 23) (k12 : 2 ≤ x12 ∧ x12 ≤ 24) : (0 ≤ x1) ∨ ((0 ≤ x5) ∨ (∀ j0 : Int, 0 ≤ j0 → j0 < x12 → (left_0 (j0) ≤ 0))) := by
  first | assumption | grind | omega
def o_Mo_fewest_9 : or_T := (4, 13, [(0, (2, 0, 0, [165])), (1, (0, 0, 25, [])), (2, (2, 0, 0, [165])), (3, (0, 0, 25, [])), (4, (0, 0, 22, [])), (5, (0, 1, 23, [])), (6, (0, 1, 24, [])), (7, (2, 0, 0, [177])), (8, (0, 1, 1, [])), (9, (0, 0, 47, [])), (12, (0, 2, 24, []))], [(6, [12, 5], [1]), (8, [4], [3]), (8, [9], [3]), (20, [2, 3, 5, 9], [60, 1, 1, 206, 5, 2]), (20, [2, 3, 5, 9], [60, 1, 1, 1034, 5, 2]), (8, [3], [3]), (8, [8], [1]), (10, [8, 7, 5], []), (9, [7, 2], [22]), (7, [5, 6], [2]), (20, [6, 2], [30, 0, 1, 0, 0, -1, 3, 2005000]), (20, [6, 2], [30, 0, -1, 0, 0, 1, 3, 2005000]), (20, [4, 2], [50, 1, 2, 1005, 1002, 1022, 3, 6, 1, 2, 1, 0, 0, -1, 2, 6, 0, 2, 0, 0, 1, 0, 2, 18, 0, 6, 4, 2, 1, 0, 0, 1, 3, 1, 2, 4, 3, 2, 1, 5, 0, 0, 1, 5, 3, 1, 22, 1, 0, 0, 1]), (20, [3, 4, 5, 2], [50, 0, 1, 3022, 3, 6, 0, 2, 0, 0, 1, 0, 3, 6, 0, 2, 0, 0, 1, 1, 5, 2, 1, 2, 0, 5, 3, 3, 22, 7, 0, 0, 0]), (24, [0, 2], []), (24, [1, 3], [])], [], [], [(20, [5, 2], [50, 1, 2, 1005, 1002, 1022, 3, 6, 1, 2, 1, 0, 0, -1, 2, 6, 0, 2, 0, 0, 1, 0, 2, 18, 0, 6, 4, 2, 1, 0, 0, 1, 3, 1, 2, 4, 3, 2, 1, 5, 0, 0, 1, 5, 3, 1, 22, 1, 0, 0, 1]), (20, [3, 5, 12, 2], [50, 0, 1, 3022, 3, 6, 0, 2, 0, 0, 1, 0, 3, 6, 0, 2, 0, 0, 1, 1, 5, 2, 1, 2, 0, 5, 3, 3, 22, 7, 0, 0, 0])], [], [(12, 5, 1, 1), (12, 6, -4294967296, 0), (5, 6, -4294967296, -1), (1, 3, -4294967296, 0), (3, 1, -4294967296, 0), (4, 5, -4294967296, -1)])
set_option maxHeartbeats 8000000 in
theorem oo_Mo_fewest_9 {kA : Nat → ClassId} : or_ok PRD kA GG o_Mo_fewest_9 := by
  refine or_mk fun A ta ws vs hD hth hl => ?_
  intro t0 r0 t1 k1 t2 r2 t3 k3 t4 k4 t5 k5 t6 k6 t7 r7 t8 k8 t9 k9 t12 k12 d0 d1 d2 d3 d4 d5 f0 f1 f2 f3 f4 f5 f6 f7 f8 f9 f10 f11 f12 f13 f14 f15
  replace f0 := shm_4 f0
  replace f1 := shm_32 f1
  replace f2 := shm_32 f2
  replace f3 := shm_1419 f3
  replace f4 := shm_1420 f4
  replace f5 := shm_32 f5
  replace f6 := shm_142 f6
  replace f7 := shm_107 f7
  replace f8 := shm_1026 f8
  replace f9 := shm_6 f9
  replace f10 := shm_126 f10
  replace f11 := shm_127 f11
  replace f12 := shm_1699 f12
  replace f13 := shm_1700 f13
  replace f14 := shm_5 f14
  replace f15 := shm_5 f15
  have q2 : n_v vs 2 = n_v vs 0 := f14.symm
  have q3 : n_v vs 3 = n_v vs 1 := f15.symm
  simp only [q2, q3] at f3 f4 f5 f8 f10 f11 f12 f13
  have cr_0_2 := fdq_10 hD hth r0
  have cr_0_22 := fdq_240 hD hth r0
  have ad_7 : v_ad (n_v vs 7) = w_ar ws (n_v vs 0) 22 := congrArg v_ad f8
  simp only [ad_7] at f7
  have h7 : v_iv (n_v vs 8) = w_ei ws (w_ar ws (n_v vs 0) 22) (v_iv (n_v vs 5)) := f7
  have br_0_2_F5_0_0 : w_ei ws (w_ar ws (n_v vs 0) 2) (w_fi ws (n_v vs 0) 5 + 0) = w_el ws (w_ar ws (n_v vs 0) 2) (w_fi ws (n_v vs 0) 5 + 0).toNat := rfl
  have br_0_22_5_0 : w_ei ws (w_ar ws (n_v vs 0) 22) (v_iv (n_v vs 5)) = w_el ws (w_ar ws (n_v vs 0) 22) (v_iv (n_v vs 5)).toNat := rfl
  have hK_0_22 := elq_148 hD hth cr_0_22
  first | have qi1 := (all_or2 f13) (v_iv (n_v vs 5)) (by omega) (by omega) | skip
  first | have qi2 := hK_0_22 (v_iv (n_v vs 5)) (by omega) (by omega) | skip
  have nf0 : fc_1 PRD (20, [5, 2], [50, 1, 2, 1005, 1002, 1022, 3, 6, 1, 2, 1, 0, 0, -1, 2, 6, 0, 2, 0, 0, 1, 0, 2, 18, 0, 6, 4, 2, 1, 0, 0, 1, 3, 1, 2, 4, 3, 2, 1, 5, 0, 0, 1, 5, 3, 1, 22, 1, 0, 0, 1]) ws (vs) := by
    refine ⟨nf_in hl rfl, sgq_1699 ?_⟩
    · show (v_iv (n_v vs 5) = (-1)) ∨ ((0 ≤ v_iv (n_v vs 5)) ∧ (((v_iv (n_v vs 5) + 1) ≤ w_ei ws (w_ar ws (n_v vs 2) 2) ((w_fi ws (n_v vs 2) 5 + 0))) ∧ (w_ei ws (w_ar ws (n_v vs 2) 22) (v_iv (n_v vs 5)) = 1)))
      rw [q2]
      exact vc_Mo_fewest_9_0 (v_iv (n_v vs 5)) (v_iv (n_v vs 6)) (v_iv (n_v vs 8)) (v_iv (n_v vs 12)) (w_ei ws (w_ar ws (n_v vs 0) 2)) (w_fi ws (n_v vs 0) 5) (w_ei ws (w_ar ws (n_v vs 0) 22)) k5 k6 k8 k12 d0 d1 d2 h7 f10 f11
  have nf1 : fc_1 PRD (20, [3, 5, 12, 2], [50, 0, 1, 3022, 3, 6, 0, 2, 0, 0, 1, 0, 3, 6, 0, 2, 0, 0, 1, 1, 5, 2, 1, 2, 0, 5, 3, 3, 22, 7, 0, 0, 0]) ws (vs) := by
    refine ⟨nf_in hl rfl, sgq_1700 ?_⟩
    · show (0 ≤ v_iv (n_v vs 3)) ∨ ((0 ≤ v_iv (n_v vs 5)) ∨ (∀ j0 : Int, 0 ≤ j0 → j0 < v_iv (n_v vs 12) → (w_ei ws (w_ar ws (n_v vs 2) 22) (j0) ≤ 0)))
      simp only [q2, q3]
      exact vc_Mo_fewest_9_1 (v_iv (n_v vs 1)) (v_iv (n_v vs 5)) (v_iv (n_v vs 12)) (w_ei ws (w_ar ws (n_v vs 0) 22)) k1 k5 k12
  refine ⟨(fun _ h => (by cases h)), [], trivial, ?_, (fun _ h => (by cases h))⟩
  rw [List.append_nil]
  exact List.forall_mem_cons.mpr ⟨⟨show (20 : Nat) < 100 from by decide, nf0⟩, List.forall_mem_cons.mpr ⟨⟨show (20 : Nat) < 100 from by decide, nf1⟩, (fun _ h => (by cases h))⟩⟩
def n_Mo_fewest_an : List an_T := [(4, [(0, (2, 0, 0, [165])), (1, (0, (Int.negSucc 0), 25, [])), (2, (0, (Int.negSucc 0), 23, [])), (3, (0, 0, 24, []))], [], (0, 0), [(0, 0, 99996), (1, 5, 24), (0, 0, 100000)], [(1, 3, (Int.negSucc 999999999999), 0), (3, 1, (Int.negSucc 999999999999), 0), (4, 5, (Int.negSucc 999999999999), (Int.negSucc 0))], [], [(2, 0, 0, [165]), (0, (Int.negSucc 0), 25, [])], 0, [], [(20, [4, 2], [50, 1, 2, 1005, 1002, 1022, 3, 6, 1, 2, 1, 0, 0, (Int.negSucc 0), 2, 6, 0, 2, 0, 0, 1, 0, 2, 18, 0, 6, 4, 2, 1, 0, 0, 1, 3, 1, 2, 4, 3, 2, 1, 5, 0, 0, 1, 5, 3, 1, 22, 1, 0, 0, 1]), (20, [3, 4, 5, 2], [50, 0, 1, 3022, 3, 6, 0, 2, 0, 0, 1, 0, 3, 6, 0, 2, 0, 0, 1, 1, 5, 2, 1, 2, 0, 5, 3, 3, 22, 7, 0, 0, 0]), (24, [0, 2], []), (24, [1, 3], [])])]
def t_Mo_fewest_ct : ct_L := [(1, 475, e_Mo_nodes), (1, 488, e_Mo_between), (1, 728, e_Mo_neighbours)]
set_option maxRecDepth 100000 in
theorem c_Mo_fewest {l : Launch} {D : va_G} {kA : Nat → ClassId} (h_Mo_between : ct_ok PRD l D kA GG y_Mo_between z_Mo_between e_Mo_between) (h_Mo_neighbours : ct_ok PRD l D kA GG y_Mo_neighbours z_Mo_neighbours e_Mo_neighbours) (h_Mo_nodes : ct_ok PRD l D kA GG y_Mo_nodes z_Mo_nodes e_Mo_nodes) : ct_ok PRD l D kA GG y_Mo_fewest z_Mo_fewest e_Mo_fewest := chk_all_ok (FT := [(48, 13, 22)]) (PT := []) (CT := t_Mo_fewest_ct) (KT := []) (NT := []) (AN := n_Mo_fewest_an) (OT := [o_Mo_fewest_0, o_Mo_fewest_1, o_Mo_fewest_2, o_Mo_fewest_3, o_Mo_fewest_4, o_Mo_fewest_5, o_Mo_fewest_6, o_Mo_fewest_7, o_Mo_fewest_8, o_Mo_fewest_9]) 3 256 (List.forall_mem_cons.mpr ⟨oo_Mo_fewest_0, List.forall_mem_cons.mpr ⟨oo_Mo_fewest_1, List.forall_mem_cons.mpr ⟨oo_Mo_fewest_2, List.forall_mem_cons.mpr ⟨oo_Mo_fewest_3, List.forall_mem_cons.mpr ⟨oo_Mo_fewest_4, List.forall_mem_cons.mpr ⟨oo_Mo_fewest_5, List.forall_mem_cons.mpr ⟨oo_Mo_fewest_6, List.forall_mem_cons.mpr ⟨oo_Mo_fewest_7, List.forall_mem_cons.mpr ⟨oo_Mo_fewest_8, List.forall_mem_cons.mpr ⟨oo_Mo_fewest_9, List.forall_mem_nil _⟩⟩⟩⟩⟩⟩⟩⟩⟩⟩) (by decide +kernel) ⟨List.forall_mem_cons.mpr ⟨gf_Mo_48, List.forall_mem_nil _⟩, List.forall_mem_nil _, List.forall_mem_cons.mpr ⟨cl_virtual (y := y_Mo_nodes) (ci := 13) rfl rfl ⟨_, _, rfl⟩ (by decide +kernel) h_Mo_nodes wm_3025 wm_9 wm_3022 wm_3024 wv_13_3 ⟨by decide, by decide, by decide +kernel⟩ (by decide), List.forall_mem_cons.mpr ⟨cl_virtual (y := y_Mo_between) (ci := 13) rfl rfl ⟨_, _, rfl⟩ (by decide +kernel) h_Mo_between wm_3033 wm_9 wm_3030 wm_3032 wv_13_5 ⟨by decide, by decide, by decide +kernel⟩ (by decide), List.forall_mem_cons.mpr ⟨cl_virtual (y := y_Mo_neighbours) (ci := 13) rfl rfl ⟨_, _, rfl⟩ (by decide +kernel) h_Mo_neighbours wm_3315 wm_9 wm_3312 wm_3314 wv_17_2 ⟨by decide, by decide, by decide +kernel⟩ (by decide), List.forall_mem_nil _⟩⟩⟩, List.forall_mem_nil _, List.forall_mem_nil _, GG_pl⟩ (by decide +kernel)
set_option maxHeartbeats 4000000 in
theorem vc_Mo_gather_0_0 (x2 : Int) (x3 : Int) (all_0 : Int → Int) (r_0 : Int) (all_1 : Int → Int) (r_1 : Int) (itemMany_0 : Int) (itemOf_0 : Int → Int) (itemOf_1 : Int → Int) (itemSize_0 : Int → Int) (itemSize_1 : Int → Int) (k2 : 0 ≤ x2 ∧ x2 ≤ 0) (k3 : 1 ≤ x3 ∧ x3 ≤ 1) (fe_0_5_1 : r_0 = r_1) (fe_0_132_1 : itemMany_0 = x2) (hE_0_2_1 : ∀ j : Int, all_0 j = all_1 j) (hE_0_130_1 : ∀ j : Int, itemOf_0 j = itemOf_1 j) (hE_0_131_1 : ∀ j : Int, itemSize_0 j = itemSize_1 j) (kz_0_132 : 0 ≤ itemMany_0 ∧ itemMany_0 ≤ 40) : 1 * itemMany_0 + ((-1) * x3 + 0) ≤ 0 := by
  subst fe_0_5_1
  have e_hE_0_2_1 := funext hE_0_2_1; subst e_hE_0_2_1
  have e_hE_0_130_1 := funext hE_0_130_1; subst e_hE_0_130_1
  have e_hE_0_131_1 := funext hE_0_131_1; subst e_hE_0_131_1
  first
    | omega
    | (have e : x12 = x15 := sog_det (by assumption) (by assumption)
       omega)
    | (have z : all_0 (r_0 + 0) = all_0 r_0 := by rw [show r_0 + 0 = r_0 by omega]
       have q := ‹SZ1 _ _› x4 (by omega) (by omega)
       omega)
  
set_option maxHeartbeats 4000000 in
theorem vc_Mo_gather_0_1 (x2 : Int) (all_0 : Int → Int) (r_0 : Int) (all_1 : Int → Int) (r_1 : Int) (itemMany_0 : Int) (itemOf_0 : Int → Int) (itemOf_1 : Int → Int) (itemSize_0 : Int → Int) (itemSize_1 : Int → Int) (k2 : 0 ≤ x2 ∧ x2 ≤ 0) (fe_0_5_1 : r_0 = r_1) (fe_0_132_1 : itemMany_0 = x2) (hE_0_2_1 : ∀ j : Int, all_0 j = all_1 j) (hE_0_130_1 : ∀ j : Int, itemOf_0 j = itemOf_1 j) (hE_0_131_1 : ∀ j : Int, itemSize_0 j = itemSize_1 j) (kz_0_132 : 0 ≤ itemMany_0 ∧ itemMany_0 ≤ 40) : ITM (itemMany_0) (itemOf_0) (itemSize_0) := by
  subst fe_0_5_1
  have e_hE_0_2_1 := funext hE_0_2_1; subst e_hE_0_2_1
  have e_hE_0_130_1 := funext hE_0_130_1; subst e_hE_0_130_1
  have e_hE_0_131_1 := funext hE_0_131_1; subst e_hE_0_131_1
  first
    | assumption
    | exact itm_none (by omega)
  
def o_Mo_gather_0 : or_T := (7, 4, [(0, (2, 0, 0, [165])), (2, (0, 0, 0, [])), (3, (0, 1, 1, []))], [(101, [0, 2], [132])], [], [], [(20, [0, 3], [30, 0, 1, 1, 132, -1, 0, 0]), (20, [0], [60, 1, 2, 773, 132, 130, 131]), (24, [0, 0], [])], [], [])
theorem oo_Mo_gather_0 {kA : Nat → ClassId} : or_ok PRD kA GG o_Mo_gather_0 := by
  refine or_mk fun A ta ws vs hD hth hl => ?_
  intro t0 r0 t2 k2 t3 k3 ta1 w1 le1 s1
  have s1 : (∀ b j, w_el ws b j = w_el w1 b j) ∧ ∀ b j, w_fd ws b j = if b = v_ad (n_v vs 0) ∧ j = 132 then n_v vs 2 else w_fd w1 b j := s1.2
  have fe_0_5_1 : w_fi ws (n_v vs 0) 5 = w_fi w1 (n_v vs 0) 5 := by show v_iv (w_fd _ _ _) = v_iv (w_fd _ _ _); rw [s1.2, if_neg (fun e => absurd e.2 (by decide))]
  have fe_0_132_1 : w_fi ws (n_v vs 0) 132 = v_iv (n_v vs 2) := by show v_iv (w_fd _ _ _) = _; rw [s1.2, if_pos ⟨rfl, rfl⟩]
  have hE_0_2_1 : ∀ j : Int, w_ei ws (w_ar ws (n_v vs 0) 2) j = w_ei w1 (w_ar ws (n_v vs 0) 2) j := fun j => s1.1 _ _
  have hE_0_130_1 : ∀ j : Int, w_ei ws (w_ar ws (n_v vs 0) 130) j = w_ei w1 (w_ar ws (n_v vs 0) 130) j := fun j => s1.1 _ _
  have hE_0_131_1 : ∀ j : Int, w_ei ws (w_ar ws (n_v vs 0) 131) j = w_ei w1 (w_ar ws (n_v vs 0) 131) j := fun j => s1.1 _ _
  have kz_0_132 := fdq_152 hD hth r0
  have nf0 : fc_1 PRD (20, [0, 3], [30, 0, 1, 1, 132, -1, 0, 0]) ws (vs) := ⟨nf_in hl rfl, sgq_588 (vc_Mo_gather_0_0 (v_iv (n_v vs 2)) (v_iv (n_v vs 3)) (w_ei ws (w_ar ws (n_v vs 0) 2)) (w_fi ws (n_v vs 0) 5) (w_ei w1 (w_ar ws (n_v vs 0) 2)) (w_fi w1 (n_v vs 0) 5) (w_fi ws (n_v vs 0) 132) (w_ei ws (w_ar ws (n_v vs 0) 130)) (w_ei w1 (w_ar ws (n_v vs 0) 130)) (w_ei ws (w_ar ws (n_v vs 0) 131)) (w_ei w1 (w_ar ws (n_v vs 0) 131)) k2 k3 fe_0_5_1 fe_0_132_1 hE_0_2_1 hE_0_130_1 hE_0_131_1 kz_0_132)⟩
  have nf1 : fc_1 PRD (20, [0], [60, 1, 2, 773, 132, 130, 131]) ws (vs) := ⟨nf_in hl rfl, sgq_589 (vc_Mo_gather_0_1 (v_iv (n_v vs 2)) (w_ei ws (w_ar ws (n_v vs 0) 2)) (w_fi ws (n_v vs 0) 5) (w_ei w1 (w_ar ws (n_v vs 0) 2)) (w_fi w1 (n_v vs 0) 5) (w_fi ws (n_v vs 0) 132) (w_ei ws (w_ar ws (n_v vs 0) 130)) (w_ei w1 (w_ar ws (n_v vs 0) 130)) (w_ei ws (w_ar ws (n_v vs 0) 131)) (w_ei w1 (w_ar ws (n_v vs 0) 131)) k2 fe_0_5_1 fe_0_132_1 hE_0_2_1 hE_0_130_1 hE_0_131_1 kz_0_132)⟩
  have nf2 : fc_1 PRD (24, [0, 0], []) ws (vs) := by
    refine ⟨nf_in hl rfl, sgq_1 ?_⟩
    · show n_v vs 0 = n_v vs 0
      first | rfl | simp only [true_and]
  refine ⟨(fun _ h => (by cases h)), [], trivial, ?_, (fun _ h => (by cases h))⟩
  rw [List.append_nil]
  exact List.forall_mem_cons.mpr ⟨⟨show (20 : Nat) < 100 from by decide, nf0⟩, List.forall_mem_cons.mpr ⟨⟨show (20 : Nat) < 100 from by decide, nf1⟩, List.forall_mem_cons.mpr ⟨⟨show (24 : Nat) < 100 from by decide, nf2⟩, (fun _ h => (by cases h))⟩⟩⟩
set_option maxHeartbeats 4000000 in
theorem vc_Mo_gather_1_0 (x4 : Int) (x6 : Int) (all_0 : Int → Int) (r_0 : Int) (itemMany_0 : Int) (k4 : 1 ≤ x4 ∧ x4 ≤ 8) (k6 : 0 ≤ x6 ∧ x6 ≤ 0) (f3 : 1 * itemMany_0 + ((-1) * x4 + 0) ≤ 0) (kz_0_132 : 0 ≤ itemMany_0 ∧ itemMany_0 ≤ 40) : 1 * itemMany_0 + ((-1) * x6 + 0) ≤ 8 := by
  first
    | omega
    | (have e : x12 = x15 := sog_det (by assumption) (by assumption)
       omega)
    | (have z : all_0 (r_0 + 0) = all_0 r_0 := by rw [show r_0 + 0 = r_0 by omega]
       have q := ‹SZ1 _ _› x4 (by omega) (by omega)
       omega)
  
def o_Mo_gather_1 : or_T := (63, 7, [(0, (2, 0, 0, [165])), (4, (0, 1, 8, [])), (6, (0, 0, 0, []))], [(20, [2, 4], [30, 0, 1, 1, 132, -1, 0, 0]), (24, [0, 2], [])], [], [], [(20, [2, 6], [30, 8, 1, 1, 132, -1, 0, 0])], [], [])
theorem oo_Mo_gather_1 {kA : Nat → ClassId} : or_ok PRD kA GG o_Mo_gather_1 := by
  refine or_mk fun A ta ws vs hD hth hl => ?_
  intro t0 r0 t4 k4 t6 k6 f3 f6
  replace f3 := shm_588 f3
  replace f6 := shm_5 f6
  have q2 : n_v vs 2 = n_v vs 0 := f6.symm
  simp only [q2] at f3
  have kz_0_132 := fdq_152 hD hth r0
  have nf0 : fc_1 PRD (20, [2, 6], [30, 8, 1, 1, 132, -1, 0, 0]) ws (vs) := by
    refine ⟨nf_in hl rfl, sgq_1703 ?_⟩
    · show 1 * w_fi ws (n_v vs 2) 132 + ((-1) * v_iv (n_v vs 6) + 0) ≤ 8
      rw [q2]
      exact vc_Mo_gather_1_0 (v_iv (n_v vs 4)) (v_iv (n_v vs 6)) (w_ei ws (w_ar ws (n_v vs 0) 2)) (w_fi ws (n_v vs 0) 5) (w_fi ws (n_v vs 0) 132) k4 k6 f3 kz_0_132
  refine ⟨(fun _ h => (by cases h)), [], trivial, ?_, (fun _ h => (by cases h))⟩
  rw [List.append_nil]
  exact List.forall_mem_cons.mpr ⟨⟨show (20 : Nat) < 100 from by decide, nf0⟩, (fun _ h => (by cases h))⟩
set_option maxHeartbeats 4000000 in
theorem vc_Mo_gather_2_0 (x4 : Int) (x12 : Int) (all_0 : Int → Int) (r_0 : Int) (itemMany_0 : Int) (k4 : 1 ≤ x4 ∧ x4 ≤ 7) (k12 : 2 ≤ x12 ∧ x12 ≤ 8) (d0 : x4 + 1 ≤ x12 ∧ x12 ≤ x4 + 1) (f10 : 1 * itemMany_0 + ((-1) * x4 + 0) ≤ 0) (kz_0_132 : 0 ≤ itemMany_0 ∧ itemMany_0 ≤ 40) : 1 * itemMany_0 + ((-1) * x12 + 0) ≤ 0 := by
  first
    | omega
    | (have e : x12 = x15 := sog_det (by assumption) (by assumption)
       omega)
    | (have z : all_0 (r_0 + 0) = all_0 r_0 := by rw [show r_0 + 0 = r_0 by omega]
       have q := ‹SZ1 _ _› x4 (by omega) (by omega)
       omega)
  
def o_Mo_gather_2 : or_T := (7, 13, [(0, (2, 0, 0, [165])), (4, (0, 1, 7, [])), (12, (0, 2, 8, []))], [(20, [2, 4], [30, 0, 1, 1, 132, -1, 0, 0]), (24, [0, 2], [])], [], [], [(20, [2, 12], [30, 0, 1, 1, 132, -1, 0, 0])], [], [(12, 4, 1, 1)])
theorem oo_Mo_gather_2 {kA : Nat → ClassId} : or_ok PRD kA GG o_Mo_gather_2 := by
  refine or_mk fun A ta ws vs hD hth hl => ?_
  intro t0 r0 t4 k4 t12 k12 d0 f10 f13
  replace f10 := shm_588 f10
  replace f13 := shm_5 f13
  have q2 : n_v vs 2 = n_v vs 0 := f13.symm
  simp only [q2] at f10
  have kz_0_132 := fdq_152 hD hth r0
  have nf0 : fc_1 PRD (20, [2, 12], [30, 0, 1, 1, 132, -1, 0, 0]) ws (vs) := by
    refine ⟨nf_in hl rfl, sgq_588 ?_⟩
    · show 1 * w_fi ws (n_v vs 2) 132 + ((-1) * v_iv (n_v vs 12) + 0) ≤ 0
      rw [q2]
      exact vc_Mo_gather_2_0 (v_iv (n_v vs 4)) (v_iv (n_v vs 12)) (w_ei ws (w_ar ws (n_v vs 0) 2)) (w_fi ws (n_v vs 0) 5) (w_fi ws (n_v vs 0) 132) k4 k12 d0 f10 kz_0_132
  refine ⟨(fun _ h => (by cases h)), [], trivial, ?_, (fun _ h => (by cases h))⟩
  rw [List.append_nil]
  exact List.forall_mem_cons.mpr ⟨⟨show (20 : Nat) < 100 from by decide, nf0⟩, (fun _ h => (by cases h))⟩
set_option maxHeartbeats 4000000 in
theorem vc_Mo_gather_3_0 (x4 : Int) (x12 : Int) (x13 : Int) (all_0 : Int → Int) (r_0 : Int) (itemMany_0 : Int) (k4 : 1 ≤ x4 ∧ x4 ≤ 7) (k13 : 2 ≤ x13 ∧ x13 ≤ 8) (d0 : x4 + 1 ≤ x13 ∧ x13 ≤ x4 + 1) (f13 : 1 * itemMany_0 + ((-1) * x4 + 0) ≤ 0) (kz_0_132 : 0 ≤ itemMany_0 ∧ itemMany_0 ≤ 40) : 1 * itemMany_0 + ((-1) * x13 + 0) ≤ 0 := by
  first
    | omega
    | (have e : x12 = x15 := sog_det (by assumption) (by assumption)
       omega)
    | (have z : all_0 (r_0 + 0) = all_0 r_0 := by rw [show r_0 + 0 = r_0 by omega]
       have q := ‹SZ1 _ _› x4 (by omega) (by omega)
       omega)
  
def o_Mo_gather_3 : or_T := (7, 14, [(0, (2, 0, 0, [165])), (4, (0, 1, 7, [])), (13, (0, 2, 8, []))], [(20, [2, 4], [30, 0, 1, 1, 132, -1, 0, 0]), (24, [0, 2], [])], [], [], [(20, [2, 13], [30, 0, 1, 1, 132, -1, 0, 0])], [], [(13, 4, 1, 1)])
theorem oo_Mo_gather_3 {kA : Nat → ClassId} : or_ok PRD kA GG o_Mo_gather_3 := by
  refine or_mk fun A ta ws vs hD hth hl => ?_
  intro t0 r0 t4 k4 t13 k13 d0 f13 f16
  replace f13 := shm_588 f13
  replace f16 := shm_5 f16
  have q2 : n_v vs 2 = n_v vs 0 := f16.symm
  simp only [q2] at f13
  have kz_0_132 := fdq_152 hD hth r0
  have nf0 : fc_1 PRD (20, [2, 13], [30, 0, 1, 1, 132, -1, 0, 0]) ws (vs) := by
    refine ⟨nf_in hl rfl, sgq_588 ?_⟩
    · show 1 * w_fi ws (n_v vs 2) 132 + ((-1) * v_iv (n_v vs 13) + 0) ≤ 0
      rw [q2]
      exact vc_Mo_gather_3_0 (v_iv (n_v vs 4)) (v_iv (n_v vs 12)) (v_iv (n_v vs 13)) (w_ei ws (w_ar ws (n_v vs 0) 2)) (w_fi ws (n_v vs 0) 5) (w_fi ws (n_v vs 0) 132) k4 k13 d0 f13 kz_0_132
  refine ⟨(fun _ h => (by cases h)), [], trivial, ?_, (fun _ h => (by cases h))⟩
  rw [List.append_nil]
  exact List.forall_mem_cons.mpr ⟨⟨show (20 : Nat) < 100 from by decide, nf0⟩, (fun _ h => (by cases h))⟩
set_option maxHeartbeats 4000000 in
theorem vc_Mo_gather_4_0 (x4 : Int) (x12 : Int) (x15 : Int) (all_0 : Int → Int) (r_0 : Int) (itemMany_0 : Int) (gx : Int) (kz_0_132 : 0 ≤ itemMany_0 ∧ itemMany_0 ≤ 40) (ex2 : gx = itemMany_0) : 1 * itemMany_0 + ((-1) * gx + 0) ≤ 0 := by
  first
    | omega
    | (have e : x12 = x15 := sog_det (by assumption) (by assumption)
       omega)
    | (have z : all_0 (r_0 + 0) = all_0 r_0 := by rw [show r_0 + 0 = r_0 by omega]
       have q := ‹SZ1 _ _› x4 (by omega) (by omega)
       omega)
  
set_option maxHeartbeats 4000000 in
theorem vc_Mo_gather_4_1 (itemMany_0 : Int) (itemOf_0 : Int → Int) (itemSize_0 : Int → Int) (f17 : ITM (itemMany_0) (itemOf_0) (itemSize_0)) (kz_0_132 : 0 ≤ itemMany_0 ∧ itemMany_0 ≤ 40) : ITM (itemMany_0) (itemOf_0) (itemSize_0) := by
  first
    | assumption
    | exact itm_none (by omega)
  
set_option maxHeartbeats 4000000 in
theorem vc_Mo_gather_4_2 (x4 : Int) (x12 : Int) (x14 : Int) (x15 : Int) (all_0 : Int → Int) (r_0 : Int) (k14 : 101 ≤ x14 ∧ x14 ≤ 107) : ((0 ≤ x14) ∧ (x14 ≤ 23)) ∨ ((100 ≤ x14) ∧ (x14 ≤ 107)) := by
  first
    | omega
    | (have e : x12 = x15 := sog_det (by assumption) (by assumption)
       omega)
    | (have z : all_0 (r_0 + 0) = all_0 r_0 := by rw [show r_0 + 0 = r_0 by omega]
       have q := ‹SZ1 _ _› x4 (by omega) (by omega)
       omega)
  
set_option maxHeartbeats 4000000 in
theorem vc_Mo_gather_4_3 (x4 : Int) (x12 : Int) (x15 : Int) (all_0 : Int → Int) (r_0 : Int) (k4 : 1 ≤ x4 ∧ x4 ≤ 7) (k12 : 1 ≤ x12 ∧ x12 ≤ 4095) (k15 : 0 ≤ x15 ∧ x15 ≤ 4095) (f0 : SOG (r_0) (all_0) (x4) (x15)) (f4 : SOG (r_0) (all_0) (x4) (x12)) (f5 : (0 ≤ x12) ∧ (x12 ≤ 2376)) : (1 ≤ x15) ∧ (x15 ≤ 2400) := by
  first
    | omega
    | (have e : x12 = x15 := sog_det (by assumption) (by assumption)
       omega)
    | (have z : all_0 (r_0 + 0) = all_0 r_0 := by rw [show r_0 + 0 = r_0 by omega]
       have q := ‹SZ1 _ _› x4 (by omega) (by omega)
       omega)
  
set_option maxHeartbeats 4000000 in
theorem vc_Mo_gather_4_4 (x4 : Int) (x12 : Int) (x14 : Int) (x15 : Int) (all_0 : Int → Int) (r_0 : Int) (itemMany_0 : Int) (gx : Int) (k4 : 1 ≤ x4 ∧ x4 ≤ 7) (k14 : 101 ≤ x14 ∧ x14 ≤ 107) (d0 : x4 + 100 ≤ x14 ∧ x14 ≤ x4 + 100) (f15 : 1 * itemMany_0 + ((-1) * x4 + 0) ≤ 0) (kz_0_132 : 0 ≤ itemMany_0 ∧ itemMany_0 ≤ 40) (ex2 : gx = itemMany_0) : 1 * gx + ((-1) * x4 + 0) ≤ 0 := by
  first
    | omega
    | (have e : x12 = x15 := sog_det (by assumption) (by assumption)
       omega)
    | (have z : all_0 (r_0 + 0) = all_0 r_0 := by rw [show r_0 + 0 = r_0 by omega]
       have q := ‹SZ1 _ _› x4 (by omega) (by omega)
       omega)
  
def o_Mo_gather_4 : or_T := (52, 16, [(0, (2, 0, 0, [165])), (2, (2, 0, 0, [165])), (3, (0, 0, 6, [])), (4, (0, 1, 7, [])), (5, (0, 2, 8, [])), (6, (2, 0, 0, [167])), (7, (0, 0, 66297, [])), (8, (0, 531, 531, [])), (9, (0, 531, 66828, [])), (10, (0, 532, 66835, [])), (11, (0, 0, 6, [])), (12, (0, 1, 4095, [])), (13, (0, 100, 100, [])), (14, (0, 101, 107, [])), (15, (0, 0, 4095, []))], [(20, [2, 4, 15], [60, 1, 1, 781, 5, 2]), (20, [15], [50, 0, 0, 2, 6, 0, 2, 0, 0, 1, 0, 0, 2, 1, 0, 0, 2376]), (1, [14, 13, 4], []), (8, [12], [4]), (20, [2, 4, 12], [60, 1, 1, 781, 5, 2]), (20, [12], [50, 0, 0, 2, 6, 0, 2, 0, 0, 1, 0, 0, 2, 1, 0, 0, 2376]), (7, [11, 3], [0]), (10, [11, 6, 10], []), (1, [10, 9, 4], []), (1, [9, 7, 8], []), (9, [7, 2], [5]), (9, [6, 2], [2]), (7, [4, 5], [2]), (20, [5, 2], [30, 0, 1, 0, 0, -1, 3, 2005002]), (20, [5, 2], [30, 0, -1, 0, 0, 1, 3, 2005002]), (20, [2, 4], [30, 0, 1, 1, 132, -1, 0, 0]), (20, [2], [60, 1, 1, 782, 5, 2]), (20, [2], [60, 1, 2, 773, 132, 130, 131]), (24, [0, 2], [])], [], [(0, 0, 39, [])], [(20, [2, 16], [30, 0, 1, 1, 132, -1, 0, 0]), (20, [2], [60, 1, 2, 773, 132, 130, 131]), (20, [14], [50, 0, 0, 3, 14, 2, 6, 0, 2, 0, 0, 1, 0, 0, 2, 1, 0, 0, 23, 2, 6, 0, 2, 0, 100, 1, 0, 0, 2, 1, 0, 0, 107]), (20, [15], [50, 0, 0, 2, 6, 0, 2, 0, 1, 1, 0, 0, 2, 1, 0, 0, 2400]), (23, [16, 4], [0, 1, -1])], [], [(14, 4, 100, 100), (14, 5, -4294967296, 99), (11, 3, 0, 0), (10, 4, 531, 66828), (10, 5, -4294967296, 66827), (10, 9, 1, 7), (10, 7, 532, 538), (9, 7, 531, 531), (4, 5, -4294967296, -1)])
theorem oo_Mo_gather_4 {kA : Nat → ClassId} : or_ok PRD kA GG o_Mo_gather_4 := by
  refine or_mk fun A ta ws vs hD hth hl => ?_
  intro t0 r0 t2 r2 t3 k3 t4 k4 t5 k5 t6 r6 t7 k7 t8 k8 t9 k9 t10 k10 t11 k11 t12 k12 t13 k13 t14 k14 t15 k15 d0 d1 d2 d3 d4 d5 d6 d7 d8 f0 f1 f2 f3 f4 f5 f6 f7 f8 f9 f10 f11 f12 f13 f14 f15 f16 f17 f18
  replace f0 := shm_1472 f0
  replace f1 := shm_1473 f1
  replace f2 := shm_12 f2
  replace f3 := shm_308 f3
  replace f4 := shm_1472 f4
  replace f5 := shm_1473 f5
  replace f6 := shm_37 f6
  replace f7 := shm_107 f7
  replace f8 := shm_12 f8
  replace f9 := shm_12 f9
  replace f10 := shm_110 f10
  replace f11 := shm_120 f11
  replace f12 := shm_6 f12
  replace f13 := shm_123 f13
  replace f14 := shm_124 f14
  replace f15 := shm_588 f15
  replace f16 := shm_1702 f16
  replace f17 := shm_589 f17
  replace f18 := shm_5 f18
  have q2 : n_v vs 2 = n_v vs 0 := f18.symm
  simp only [q2] at f0 f4 f10 f11 f13 f14 f15 f16 f17
  have cr_0_2 := fdq_10 hD hth r0
  have cr_0_130 := fdq_150 hD hth r0
  have cr_0_131 := fdq_151 hD hth r0
  have ad_6 : v_ad (n_v vs 6) = w_ar ws (n_v vs 0) 2 := congrArg v_ad f11
  simp only [ad_6] at f7
  have h7 : v_iv (n_v vs 11) = w_ei ws (w_ar ws (n_v vs 0) 2) (v_iv (n_v vs 10)) := f7
  have g10 : v_iv (n_v vs 7) = w_fi ws (n_v vs 0) 5 := congrArg v_iv f10
  have hK_0_130 := elq_84 hD hth cr_0_130
  have hK_0_131 := elq_85 hD hth cr_0_131
  have kz_0_132 := fdq_152 hD hth r0
  have kv0 := fdq_152 hD hth r0
  obtain ⟨x, ex, hx⟩ := iv_ex (ta := ta) (lo := 0) (hi := 39) (z := w_fi ws (n_v vs 0) 132) (by omega) (by omega) (by omega) (by omega)
  have ex2 : v_iv (Value.int x) = w_fi ws (n_v vs 0) 132 := ex
  have ex3 : 0 ≤ v_iv (Value.int x) ∧ v_iv (Value.int x) ≤ 39 := tv_rng hx
  have e_2 : n_v (vs ++ [Value.int x]) 2 = n_v vs 2 := n_v_old (by rw [hl]; decide)
  have e_4 : n_v (vs ++ [Value.int x]) 4 = n_v vs 4 := n_v_old (by rw [hl]; decide)
  have e_14 : n_v (vs ++ [Value.int x]) 14 = n_v vs 14 := n_v_old (by rw [hl]; decide)
  have e_15 : n_v (vs ++ [Value.int x]) 15 = n_v vs 15 := n_v_old (by rw [hl]; decide)
  have e_16 : n_v (vs ++ [Value.int x]) 16 = Value.int x := n_v_new hl
  have nf0 : fc_1 PRD (20, [2, 16], [30, 0, 1, 1, 132, -1, 0, 0]) ws (vs ++ [Value.int x]) := by
    refine ⟨nf_inA hl rfl, sgq_588 ?_⟩
    · show 1 * w_fi ws (n_v (vs ++ [Value.int x]) 2) 132 + ((-1) * v_iv (n_v (vs ++ [Value.int x]) 16) + 0) ≤ 0
      simp only [e_2, e_16, q2]
      exact vc_Mo_gather_4_0 (v_iv (n_v vs 4)) (v_iv (n_v vs 12)) (v_iv (n_v vs 15)) (w_ei ws (w_ar ws (n_v vs 0) 2)) (w_fi ws (n_v vs 0) 5) (w_fi ws (n_v vs 0) 132) (v_iv (Value.int x)) kz_0_132 ex2
  have nf1 : fc_1 PRD (20, [2], [60, 1, 2, 773, 132, 130, 131]) ws (vs ++ [Value.int x]) := by
    refine ⟨nf_inA hl rfl, sgq_589 ?_⟩
    · show ITM (w_fi ws (n_v (vs ++ [Value.int x]) 2) 132) (w_ei ws (w_ar ws (n_v (vs ++ [Value.int x]) 2) 130)) (w_ei ws (w_ar ws (n_v (vs ++ [Value.int x]) 2) 131))
      simp only [e_2, q2]
      exact vc_Mo_gather_4_1 (w_fi ws (n_v vs 0) 132) (w_ei ws (w_ar ws (n_v vs 0) 130)) (w_ei ws (w_ar ws (n_v vs 0) 131)) f17 kz_0_132
  have nf2 : fc_1 PRD (20, [14], [50, 0, 0, 3, 14, 2, 6, 0, 2, 0, 0, 1, 0, 0, 2, 1, 0, 0, 23, 2, 6, 0, 2, 0, 100, 1, 0, 0, 2, 1, 0, 0, 107]) ws (vs ++ [Value.int x]) := by
    refine ⟨nf_inA hl rfl, sgq_590 ?_⟩
    · show ((0 ≤ v_iv (n_v (vs ++ [Value.int x]) 14)) ∧ (v_iv (n_v (vs ++ [Value.int x]) 14) ≤ 23)) ∨ ((100 ≤ v_iv (n_v (vs ++ [Value.int x]) 14)) ∧ (v_iv (n_v (vs ++ [Value.int x]) 14) ≤ 107))
      rw [e_14]
      exact vc_Mo_gather_4_2 (v_iv (n_v vs 4)) (v_iv (n_v vs 12)) (v_iv (n_v vs 14)) (v_iv (n_v vs 15)) (w_ei ws (w_ar ws (n_v vs 0) 2)) (w_fi ws (n_v vs 0) 5) k14
  have nf3 : fc_1 PRD (20, [15], [50, 0, 0, 2, 6, 0, 2, 0, 1, 1, 0, 0, 2, 1, 0, 0, 2400]) ws (vs ++ [Value.int x]) := by
    refine ⟨nf_inA hl rfl, sgq_591 ?_⟩
    · show (1 ≤ v_iv (n_v (vs ++ [Value.int x]) 15)) ∧ (v_iv (n_v (vs ++ [Value.int x]) 15) ≤ 2400)
      rw [e_15]
      exact vc_Mo_gather_4_3 (v_iv (n_v vs 4)) (v_iv (n_v vs 12)) (v_iv (n_v vs 15)) (w_ei ws (w_ar ws (n_v vs 0) 2)) (w_fi ws (n_v vs 0) 5) k4 k12 k15 f0 f4 f5
  have nf4 : fc_1 PRD (23, [16, 4], [0, 1, -1]) ws (vs ++ [Value.int x]) := by
    refine ⟨nf_inA hl rfl, sgq_7 ?_⟩
    · show 1 * v_iv (n_v (vs ++ [Value.int x]) 16) + ((-1) * v_iv (n_v (vs ++ [Value.int x]) 4) + 0) ≤ 0
      simp only [e_4, e_16]
      exact vc_Mo_gather_4_4 (v_iv (n_v vs 4)) (v_iv (n_v vs 12)) (v_iv (n_v vs 14)) (v_iv (n_v vs 15)) (w_ei ws (w_ar ws (n_v vs 0) 2)) (w_fi ws (n_v vs 0) 5) (w_fi ws (n_v vs 0) 132) (v_iv (Value.int x)) k4 k14 d0 f15 kz_0_132 ex2
  exact ⟨(fun _ h => (by cases h)), [Value.int x], ag_one hx, List.forall_mem_cons.mpr ⟨⟨show (20 : Nat) < 100 from by decide, nf0⟩, List.forall_mem_cons.mpr ⟨⟨show (20 : Nat) < 100 from by decide, nf1⟩, List.forall_mem_cons.mpr ⟨⟨show (20 : Nat) < 100 from by decide, nf2⟩, List.forall_mem_cons.mpr ⟨⟨show (20 : Nat) < 100 from by decide, nf3⟩, List.forall_mem_cons.mpr ⟨⟨show (23 : Nat) < 100 from by decide, nf4⟩, (fun _ h => (by cases h))⟩⟩⟩⟩⟩, (fun _ h => (by cases h))⟩
set_option maxHeartbeats 4000000 in
theorem vc_Mo_gather_5_0 (x4 : Int) (x12 : Int) (x15 : Int) (x16 : Int) (x17 : Int) (all_0 : Int → Int) (r_0 : Int) (itemMany_0 : Int) (k4 : 1 ≤ x4 ∧ x4 ≤ 7) (k16 : 0 ≤ x16 ∧ x16 ≤ 39) (k17 : 2 ≤ x17 ∧ x17 ≤ 8) (d0 : x4 + 1 ≤ x17 ∧ x17 ≤ x4 + 1) (f3 : 1 * x16 + ((-1) * x4 + 0) ≤ 0) (f12 : 1 * itemMany_0 + ((-1) * x16 + 0) ≤ 1) (kz_0_132 : 0 ≤ itemMany_0 ∧ itemMany_0 ≤ 40) : 1 * itemMany_0 + ((-1) * x17 + 0) ≤ 0 := by
  first
    | omega
    | (have e : x12 = x15 := sog_det (by assumption) (by assumption)
       omega)
    | (have z : all_0 (r_0 + 0) = all_0 r_0 := by rw [show r_0 + 0 = r_0 by omega]
       have q := ‹SZ1 _ _› x4 (by omega) (by omega)
       omega)
  
def o_Mo_gather_5 : or_T := (7, 18, [(0, (2, 0, 0, [165])), (4, (0, 1, 7, [])), (16, (0, 0, 39, [])), (17, (0, 2, 8, []))], [(23, [16, 4], [0, 1, -1]), (24, [0, 2], []), (20, [2, 16], [30, 1, 1, 1, 132, -1, 0, 0])], [], [], [(20, [2, 17], [30, 0, 1, 1, 132, -1, 0, 0])], [], [(17, 4, 1, 1)])
theorem oo_Mo_gather_5 {kA : Nat → ClassId} : or_ok PRD kA GG o_Mo_gather_5 := by
  refine or_mk fun A ta ws vs hD hth hl => ?_
  intro t0 r0 t4 k4 t16 k16 t17 k17 d0 f3 f11 f12
  replace f3 := shm_7 f3
  replace f11 := shm_5 f11
  replace f12 := shm_596 f12
  have q2 : n_v vs 2 = n_v vs 0 := f11.symm
  simp only [q2] at f12
  have kz_0_132 := fdq_152 hD hth r0
  have nf0 : fc_1 PRD (20, [2, 17], [30, 0, 1, 1, 132, -1, 0, 0]) ws (vs) := by
    refine ⟨nf_in hl rfl, sgq_588 ?_⟩
    · show 1 * w_fi ws (n_v vs 2) 132 + ((-1) * v_iv (n_v vs 17) + 0) ≤ 0
      rw [q2]
      exact vc_Mo_gather_5_0 (v_iv (n_v vs 4)) (v_iv (n_v vs 12)) (v_iv (n_v vs 15)) (v_iv (n_v vs 16)) (v_iv (n_v vs 17)) (w_ei ws (w_ar ws (n_v vs 0) 2)) (w_fi ws (n_v vs 0) 5) (w_fi ws (n_v vs 0) 132) k4 k16 k17 d0 f3 f12 kz_0_132
  refine ⟨(fun _ h => (by cases h)), [], trivial, ?_, (fun _ h => (by cases h))⟩
  rw [List.append_nil]
  exact List.forall_mem_cons.mpr ⟨⟨show (20 : Nat) < 100 from by decide, nf0⟩, (fun _ h => (by cases h))⟩
set_option maxHeartbeats 4000000 in
theorem vc_Mo_gather_6_0 (itemMany_0 : Int) (itemOf_0 : Int → Int) (itemSize_0 : Int → Int) (f5 : ITM (itemMany_0) (itemOf_0) (itemSize_0)) (kz_0_132 : 0 ≤ itemMany_0 ∧ itemMany_0 ≤ 40) : ITM (itemMany_0) (itemOf_0) (itemSize_0) := by
  first
    | assumption
    | exact itm_none (by omega)
  
def o_Mo_gather_6 : or_T := (96, 6, [(0, (2, 0, 0, [165]))], [(20, [2], [60, 1, 2, 773, 132, 130, 131]), (24, [0, 2], [])], [], [], [(20, [0], [60, 1, 2, 773, 132, 130, 131])], [], [])
theorem oo_Mo_gather_6 {kA : Nat → ClassId} : or_ok PRD kA GG o_Mo_gather_6 := by
  refine or_mk fun A ta ws vs hD hth hl => ?_
  intro t0 r0 f5 f6
  replace f5 := shm_589 f5
  replace f6 := shm_5 f6
  have q2 : n_v vs 2 = n_v vs 0 := f6.symm
  simp only [q2] at f5
  have kz_0_132 := fdq_152 hD hth r0
  have nf0 : fc_1 PRD (20, [0], [60, 1, 2, 773, 132, 130, 131]) ws (vs) := ⟨nf_in hl rfl, sgq_589 (vc_Mo_gather_6_0 (w_fi ws (n_v vs 0) 132) (w_ei ws (w_ar ws (n_v vs 0) 130)) (w_ei ws (w_ar ws (n_v vs 0) 131)) f5 kz_0_132)⟩
  refine ⟨(fun _ h => (by cases h)), [], trivial, ?_, (fun _ h => (by cases h))⟩
  rw [List.append_nil]
  exact List.forall_mem_cons.mpr ⟨⟨show (20 : Nat) < 100 from by decide, nf0⟩, (fun _ h => (by cases h))⟩
set_option maxHeartbeats 4000000 in
theorem vc_Mo_gather_7_0 (x4 : Int) (x7 : Int) (all_0 : Int → Int) (r_0 : Int) (itemMany_0 : Int) (k4 : 0 ≤ x4 ∧ x4 ≤ 23) (k7 : 1 ≤ x7 ∧ x7 ≤ 24) (d0 : x4 + 1 ≤ x7 ∧ x7 ≤ x4 + 1) (f6 : 1 * itemMany_0 + ((-1) * x4 + 0) ≤ 8) (kz_0_132 : 0 ≤ itemMany_0 ∧ itemMany_0 ≤ 40) : 1 * itemMany_0 + ((-1) * x7 + 0) ≤ 8 := by
  first
    | omega
    | (have e : x12 = x15 := sog_det (by assumption) (by assumption)
       omega)
    | (have z : all_0 (r_0 + 0) = all_0 r_0 := by rw [show r_0 + 0 = r_0 by omega]
       have q := ‹SZ1 _ _› x4 (by omega) (by omega)
       omega)
  
def o_Mo_gather_7 : or_T := (63, 8, [(0, (2, 0, 0, [165])), (4, (0, 0, 23, [])), (7, (0, 1, 24, []))], [(20, [2, 4], [30, 8, 1, 1, 132, -1, 0, 0]), (24, [0, 2], [])], [], [], [(20, [2, 7], [30, 8, 1, 1, 132, -1, 0, 0])], [], [(7, 4, 1, 1)])
theorem oo_Mo_gather_7 {kA : Nat → ClassId} : or_ok PRD kA GG o_Mo_gather_7 := by
  refine or_mk fun A ta ws vs hD hth hl => ?_
  intro t0 r0 t4 k4 t7 k7 d0 f6 f9
  replace f6 := shm_1703 f6
  replace f9 := shm_5 f9
  have q2 : n_v vs 2 = n_v vs 0 := f9.symm
  simp only [q2] at f6
  have kz_0_132 := fdq_152 hD hth r0
  have nf0 : fc_1 PRD (20, [2, 7], [30, 8, 1, 1, 132, -1, 0, 0]) ws (vs) := by
    refine ⟨nf_in hl rfl, sgq_1703 ?_⟩
    · show 1 * w_fi ws (n_v vs 2) 132 + ((-1) * v_iv (n_v vs 7) + 0) ≤ 8
      rw [q2]
      exact vc_Mo_gather_7_0 (v_iv (n_v vs 4)) (v_iv (n_v vs 7)) (w_ei ws (w_ar ws (n_v vs 0) 2)) (w_fi ws (n_v vs 0) 5) (w_fi ws (n_v vs 0) 132) k4 k7 d0 f6 kz_0_132
  refine ⟨(fun _ h => (by cases h)), [], trivial, ?_, (fun _ h => (by cases h))⟩
  rw [List.append_nil]
  exact List.forall_mem_cons.mpr ⟨⟨show (20 : Nat) < 100 from by decide, nf0⟩, (fun _ h => (by cases h))⟩
set_option maxHeartbeats 4000000 in
theorem vc_Mo_gather_8_0 (x4 : Int) (all_0 : Int → Int) (r_0 : Int) (itemMany_0 : Int) (gx : Int) (kz_0_132 : 0 ≤ itemMany_0 ∧ itemMany_0 ≤ 40) (ex2 : gx = itemMany_0) : 1 * itemMany_0 + ((-1) * gx + 0) ≤ 0 := by
  first
    | omega
    | (have e : x12 = x15 := sog_det (by assumption) (by assumption)
       omega)
    | (have z : all_0 (r_0 + 0) = all_0 r_0 := by rw [show r_0 + 0 = r_0 by omega]
       have q := ‹SZ1 _ _› x4 (by omega) (by omega)
       omega)
  
set_option maxHeartbeats 4000000 in
theorem vc_Mo_gather_8_1 (itemMany_0 : Int) (itemOf_0 : Int → Int) (itemSize_0 : Int → Int) (f8 : ITM (itemMany_0) (itemOf_0) (itemSize_0)) (kz_0_132 : 0 ≤ itemMany_0 ∧ itemMany_0 ≤ 40) : ITM (itemMany_0) (itemOf_0) (itemSize_0) := by
  first
    | assumption
    | exact itm_none (by omega)
  
set_option maxHeartbeats 4000000 in
theorem vc_Mo_gather_8_2 (x4 : Int) (all_0 : Int → Int) (r_0 : Int) (k4 : 0 ≤ x4 ∧ x4 ≤ 23) : ((0 ≤ x4) ∧ (x4 ≤ 23)) ∨ ((100 ≤ x4) ∧ (x4 ≤ 107)) := by
  first
    | omega
    | (have e : x12 = x15 := sog_det (by assumption) (by assumption)
       omega)
    | (have z : all_0 (r_0 + 0) = all_0 r_0 := by rw [show r_0 + 0 = r_0 by omega]
       have q := ‹SZ1 _ _› x4 (by omega) (by omega)
       omega)
  
set_option maxHeartbeats 4000000 in
theorem vc_Mo_gather_8_3 (x4 : Int) (x5 : Int) (x7 : Int) (all_0 : Int → Int) (r_0 : Int) (k4 : 0 ≤ x4 ∧ x4 ≤ 23) (k5 : 1 ≤ x5 ∧ x5 ≤ 24) (k7 : 0 ≤ x7 ∧ x7 ≤ 99) (d1 : x5 + (-4294967296) ≤ x4 ∧ x4 ≤ x5 + (-1)) (f0 : x7 = all_0 (((r_0 + 219) + x4))) (f4 : 1 * x5 + ((-1) * all_0 (r_0 + 0) + 0) ≤ 0) (f5 : (-1) * x5 + (1 * all_0 (r_0 + 0) + 0) ≤ 0) (f7 : SZ1 (r_0) (all_0)) : (1 ≤ x7) ∧ (x7 ≤ 2400) := by
  first
    | omega
    | (have e : x12 = x15 := sog_det (by assumption) (by assumption)
       omega)
    | (have z : all_0 (r_0 + 0) = all_0 r_0 := by rw [show r_0 + 0 = r_0 by omega]
       have q := ‹SZ1 _ _› x4 (by omega) (by omega)
       omega)
  
set_option maxHeartbeats 4000000 in
theorem vc_Mo_gather_8_4 (x4 : Int) (all_0 : Int → Int) (r_0 : Int) (itemMany_0 : Int) (gx : Int) (k4 : 0 ≤ x4 ∧ x4 ≤ 23) (f6 : 1 * itemMany_0 + ((-1) * x4 + 0) ≤ 8) (kz_0_132 : 0 ≤ itemMany_0 ∧ itemMany_0 ≤ 40) (ex2 : gx = itemMany_0) : 1 * gx + ((-1) * x4 + 0) ≤ 8 := by
  first
    | omega
    | (have e : x12 = x15 := sog_det (by assumption) (by assumption)
       omega)
    | (have z : all_0 (r_0 + 0) = all_0 r_0 := by rw [show r_0 + 0 = r_0 by omega]
       have q := ‹SZ1 _ _› x4 (by omega) (by omega)
       omega)
  
def o_Mo_gather_8 : or_T := (87, 8, [(0, (2, 0, 0, [165])), (2, (2, 0, 0, [165])), (3, (0, 0, 7, [])), (4, (0, 0, 23, [])), (5, (0, 1, 24, [])), (6, (0, 0, 7, [])), (7, (0, 0, 99, []))], [(20, [7, 2, 4], [50, 1, 1, 1005, 1002, 1, 2, 1, 0, 3, 1, 2, 4, 7, 4, 3, 2, 1, 5, 0, 219, 1, 2]), (7, [6, 3], [0]), (20, [6, 2, 4], [50, 1, 1, 1005, 1002, 1, 2, 1, 0, 3, 1, 2, 4, 7, 4, 3, 2, 1, 5, 0, 243, 1, 2]), (7, [4, 5], [2]), (20, [5, 2], [30, 0, 1, 0, 0, -1, 3, 2005000]), (20, [5, 2], [30, 0, -1, 0, 0, 1, 3, 2005000]), (20, [2, 4], [30, 8, 1, 1, 132, -1, 0, 0]), (20, [2], [60, 1, 1, 782, 5, 2]), (20, [2], [60, 1, 2, 773, 132, 130, 131]), (24, [0, 2], [])], [], [(0, 0, 39, [])], [(20, [2, 8], [30, 0, 1, 1, 132, -1, 0, 0]), (20, [2], [60, 1, 2, 773, 132, 130, 131]), (20, [4], [50, 0, 0, 3, 14, 2, 6, 0, 2, 0, 0, 1, 0, 0, 2, 1, 0, 0, 23, 2, 6, 0, 2, 0, 100, 1, 0, 0, 2, 1, 0, 0, 107]), (20, [7], [50, 0, 0, 2, 6, 0, 2, 0, 1, 1, 0, 0, 2, 1, 0, 0, 2400]), (23, [8, 4], [8, 1, -1])], [], [(6, 3, 0, 0), (4, 5, -4294967296, -1)])
theorem oo_Mo_gather_8 {kA : Nat → ClassId} : or_ok PRD kA GG o_Mo_gather_8 := by
  refine or_mk fun A ta ws vs hD hth hl => ?_
  intro t0 r0 t2 r2 t3 k3 t4 k4 t5 k5 t6 k6 t7 k7 d0 d1 f0 f1 f2 f3 f4 f5 f6 f7 f8 f9
  replace f0 := shm_732 f0
  replace f1 := shm_37 f1
  replace f2 := shm_597 f2
  replace f3 := shm_6 f3
  replace f4 := shm_126 f4
  replace f5 := shm_127 f5
  replace f6 := shm_1703 f6
  replace f7 := shm_1702 f7
  replace f8 := shm_589 f8
  replace f9 := shm_5 f9
  have q2 : n_v vs 2 = n_v vs 0 := f9.symm
  simp only [q2] at f0 f2 f4 f5 f6 f7 f8
  have cr_0_2 := fdq_10 hD hth r0
  have cr_0_130 := fdq_150 hD hth r0
  have cr_0_131 := fdq_151 hD hth r0
  have hK_0_130 := elq_84 hD hth cr_0_130
  have hK_0_131 := elq_85 hD hth cr_0_131
  have kz_0_132 := fdq_152 hD hth r0
  have kv0 := fdq_152 hD hth r0
  obtain ⟨x, ex, hx⟩ := iv_ex (ta := ta) (lo := 0) (hi := 39) (z := w_fi ws (n_v vs 0) 132) (by omega) (by omega) (by omega) (by omega)
  have ex2 : v_iv (Value.int x) = w_fi ws (n_v vs 0) 132 := ex
  have ex3 : 0 ≤ v_iv (Value.int x) ∧ v_iv (Value.int x) ≤ 39 := tv_rng hx
  have e_2 : n_v (vs ++ [Value.int x]) 2 = n_v vs 2 := n_v_old (by rw [hl]; decide)
  have e_4 : n_v (vs ++ [Value.int x]) 4 = n_v vs 4 := n_v_old (by rw [hl]; decide)
  have e_7 : n_v (vs ++ [Value.int x]) 7 = n_v vs 7 := n_v_old (by rw [hl]; decide)
  have e_8 : n_v (vs ++ [Value.int x]) 8 = Value.int x := n_v_new hl
  have nf0 : fc_1 PRD (20, [2, 8], [30, 0, 1, 1, 132, -1, 0, 0]) ws (vs ++ [Value.int x]) := by
    refine ⟨nf_inA hl rfl, sgq_588 ?_⟩
    · show 1 * w_fi ws (n_v (vs ++ [Value.int x]) 2) 132 + ((-1) * v_iv (n_v (vs ++ [Value.int x]) 8) + 0) ≤ 0
      simp only [e_2, e_8, q2]
      exact vc_Mo_gather_8_0 (v_iv (n_v vs 4)) (w_ei ws (w_ar ws (n_v vs 0) 2)) (w_fi ws (n_v vs 0) 5) (w_fi ws (n_v vs 0) 132) (v_iv (Value.int x)) kz_0_132 ex2
  have nf1 : fc_1 PRD (20, [2], [60, 1, 2, 773, 132, 130, 131]) ws (vs ++ [Value.int x]) := by
    refine ⟨nf_inA hl rfl, sgq_589 ?_⟩
    · show ITM (w_fi ws (n_v (vs ++ [Value.int x]) 2) 132) (w_ei ws (w_ar ws (n_v (vs ++ [Value.int x]) 2) 130)) (w_ei ws (w_ar ws (n_v (vs ++ [Value.int x]) 2) 131))
      simp only [e_2, q2]
      exact vc_Mo_gather_8_1 (w_fi ws (n_v vs 0) 132) (w_ei ws (w_ar ws (n_v vs 0) 130)) (w_ei ws (w_ar ws (n_v vs 0) 131)) f8 kz_0_132
  have nf2 : fc_1 PRD (20, [4], [50, 0, 0, 3, 14, 2, 6, 0, 2, 0, 0, 1, 0, 0, 2, 1, 0, 0, 23, 2, 6, 0, 2, 0, 100, 1, 0, 0, 2, 1, 0, 0, 107]) ws (vs ++ [Value.int x]) := by
    refine ⟨nf_inA hl rfl, sgq_590 ?_⟩
    · show ((0 ≤ v_iv (n_v (vs ++ [Value.int x]) 4)) ∧ (v_iv (n_v (vs ++ [Value.int x]) 4) ≤ 23)) ∨ ((100 ≤ v_iv (n_v (vs ++ [Value.int x]) 4)) ∧ (v_iv (n_v (vs ++ [Value.int x]) 4) ≤ 107))
      rw [e_4]
      exact vc_Mo_gather_8_2 (v_iv (n_v vs 4)) (w_ei ws (w_ar ws (n_v vs 0) 2)) (w_fi ws (n_v vs 0) 5) k4
  have nf3 : fc_1 PRD (20, [7], [50, 0, 0, 2, 6, 0, 2, 0, 1, 1, 0, 0, 2, 1, 0, 0, 2400]) ws (vs ++ [Value.int x]) := by
    refine ⟨nf_inA hl rfl, sgq_591 ?_⟩
    · show (1 ≤ v_iv (n_v (vs ++ [Value.int x]) 7)) ∧ (v_iv (n_v (vs ++ [Value.int x]) 7) ≤ 2400)
      rw [e_7]
      exact vc_Mo_gather_8_3 (v_iv (n_v vs 4)) (v_iv (n_v vs 5)) (v_iv (n_v vs 7)) (w_ei ws (w_ar ws (n_v vs 0) 2)) (w_fi ws (n_v vs 0) 5) k4 k5 k7 d1 f0 f4 f5 f7
  have nf4 : fc_1 PRD (23, [8, 4], [8, 1, -1]) ws (vs ++ [Value.int x]) := by
    refine ⟨nf_inA hl rfl, sgq_164 ?_⟩
    · show 1 * v_iv (n_v (vs ++ [Value.int x]) 8) + ((-1) * v_iv (n_v (vs ++ [Value.int x]) 4) + 0) ≤ 8
      simp only [e_4, e_8]
      exact vc_Mo_gather_8_4 (v_iv (n_v vs 4)) (w_ei ws (w_ar ws (n_v vs 0) 2)) (w_fi ws (n_v vs 0) 5) (w_fi ws (n_v vs 0) 132) (v_iv (Value.int x)) k4 f6 kz_0_132 ex2
  exact ⟨(fun _ h => (by cases h)), [Value.int x], ag_one hx, List.forall_mem_cons.mpr ⟨⟨show (20 : Nat) < 100 from by decide, nf0⟩, List.forall_mem_cons.mpr ⟨⟨show (20 : Nat) < 100 from by decide, nf1⟩, List.forall_mem_cons.mpr ⟨⟨show (20 : Nat) < 100 from by decide, nf2⟩, List.forall_mem_cons.mpr ⟨⟨show (20 : Nat) < 100 from by decide, nf3⟩, List.forall_mem_cons.mpr ⟨⟨show (23 : Nat) < 100 from by decide, nf4⟩, (fun _ h => (by cases h))⟩⟩⟩⟩⟩, (fun _ h => (by cases h))⟩
set_option maxHeartbeats 4000000 in
theorem vc_Mo_gather_9_0 (x4 : Int) (x8 : Int) (x9 : Int) (all_0 : Int → Int) (r_0 : Int) (itemMany_0 : Int) (k4 : 0 ≤ x4 ∧ x4 ≤ 23) (k8 : 0 ≤ x8 ∧ x8 ≤ 39) (k9 : 1 ≤ x9 ∧ x9 ≤ 24) (d0 : x4 + 1 ≤ x9 ∧ x9 ≤ x4 + 1) (f3 : 1 * x8 + ((-1) * x4 + 0) ≤ 8) (f10 : 1 * itemMany_0 + ((-1) * x8 + 0) ≤ 1) (kz_0_132 : 0 ≤ itemMany_0 ∧ itemMany_0 ≤ 40) : 1 * itemMany_0 + ((-1) * x9 + 0) ≤ 8 := by
  first
    | omega
    | (have e : x12 = x15 := sog_det (by assumption) (by assumption)
       omega)
    | (have z : all_0 (r_0 + 0) = all_0 r_0 := by rw [show r_0 + 0 = r_0 by omega]
       have q := ‹SZ1 _ _› x4 (by omega) (by omega)
       omega)
  
def o_Mo_gather_9 : or_T := (63, 10, [(0, (2, 0, 0, [165])), (4, (0, 0, 23, [])), (8, (0, 0, 39, [])), (9, (0, 1, 24, []))], [(23, [8, 4], [8, 1, -1]), (24, [0, 2], []), (20, [2, 8], [30, 1, 1, 1, 132, -1, 0, 0])], [], [], [(20, [2, 9], [30, 8, 1, 1, 132, -1, 0, 0])], [], [(9, 4, 1, 1)])
theorem oo_Mo_gather_9 {kA : Nat → ClassId} : or_ok PRD kA GG o_Mo_gather_9 := by
  refine or_mk fun A ta ws vs hD hth hl => ?_
  intro t0 r0 t4 k4 t8 k8 t9 k9 d0 f3 f9 f10
  replace f3 := shm_164 f3
  replace f9 := shm_5 f9
  replace f10 := shm_596 f10
  have q2 : n_v vs 2 = n_v vs 0 := f9.symm
  simp only [q2] at f10
  have kz_0_132 := fdq_152 hD hth r0
  have nf0 : fc_1 PRD (20, [2, 9], [30, 8, 1, 1, 132, -1, 0, 0]) ws (vs) := by
    refine ⟨nf_in hl rfl, sgq_1703 ?_⟩
    · show 1 * w_fi ws (n_v vs 2) 132 + ((-1) * v_iv (n_v vs 9) + 0) ≤ 8
      rw [q2]
      exact vc_Mo_gather_9_0 (v_iv (n_v vs 4)) (v_iv (n_v vs 8)) (v_iv (n_v vs 9)) (w_ei ws (w_ar ws (n_v vs 0) 2)) (w_fi ws (n_v vs 0) 5) (w_fi ws (n_v vs 0) 132) k4 k8 k9 d0 f3 f10 kz_0_132
  refine ⟨(fun _ h => (by cases h)), [], trivial, ?_, (fun _ h => (by cases h))⟩
  rw [List.append_nil]
  exact List.forall_mem_cons.mpr ⟨⟨show (20 : Nat) < 100 from by decide, nf0⟩, (fun _ h => (by cases h))⟩
def n_Mo_gather_an : List an_T := [(7, [(0, (2, 0, 0, [165])), (1, (0, 0, 7, [])), (2, (0, 1, 8, []))], [], (0, 0), [(0, 0, 99993), (1, 4, 8), (0, 0, 100000)], [(1, 3, (Int.negSucc 999999999999), 0), (3, 1, (Int.negSucc 999999999999), 0)], [], [(2, 0, 0, [165]), (0, 0, 7, [])], 0, [], [(20, [2, 4], [30, 0, 1, 1, 132, (Int.negSucc 0), 0, 0]), (20, [2], [60, 1, 1, 782, 5, 2]), (20, [2], [60, 1, 2, 773, 132, 130, 131]), (24, [0, 2], [])]), (63, [(0, (2, 0, 0, [165])), (1, (0, 0, 7, [])), (2, (0, 0, 24, []))], [], (0, 0), [(0, 0, 99937), (1, 4, 24), (0, 0, 100000)], [(1, 3, (Int.negSucc 999999999999), 0), (3, 1, (Int.negSucc 999999999999), 0)], [], [(2, 0, 0, [165]), (0, 0, 7, [])], 0, [], [(20, [2, 4], [30, 8, 1, 1, 132, (Int.negSucc 0), 0, 0]), (20, [2], [60, 1, 1, 782, 5, 2]), (20, [2], [60, 1, 2, 773, 132, 130, 131]), (24, [0, 2], [])])]
def t_Mo_gather_ct : ct_L := [(1, 475, e_Mo_nodes), (1, 509, e_Mo_groups), (1, 723, e_Mo_size), (1, 725, e_Mo_groupOf), (1, 745, e_Mo_sizeOfGroup), (1, 974, e_Mo_gatherOne)]
set_option maxRecDepth 100000 in
theorem c_Mo_gather {l : Launch} {D : va_G} {kA : Nat → ClassId} (h_Mo_gatherOne : ct_ok PRD l D kA GG y_Mo_gatherOne z_Mo_gatherOne e_Mo_gatherOne) (h_Mo_groupOf : ct_ok PRD l D kA GG y_Mo_groupOf z_Mo_groupOf e_Mo_groupOf) (h_Mo_groups : ct_ok PRD l D kA GG y_Mo_groups z_Mo_groups e_Mo_groups) (h_Mo_nodes : ct_ok PRD l D kA GG y_Mo_nodes z_Mo_nodes e_Mo_nodes) (h_Mo_size : ct_ok PRD l D kA GG y_Mo_size z_Mo_size e_Mo_size) (h_Mo_sizeOfGroup : ct_ok PRD l D kA GG y_Mo_sizeOfGroup z_Mo_sizeOfGroup e_Mo_sizeOfGroup) : ct_ok PRD l D kA GG y_Mo_gather z_Mo_gather e_Mo_gather := chk_all_ok (FT := [(16, 13, 2), (391, 13, 5)]) (PT := [(971, 13, 132, .int)]) (CT := t_Mo_gather_ct) (KT := []) (NT := []) (AN := n_Mo_gather_an) (OT := [o_Mo_gather_0, o_Mo_gather_1, o_Mo_gather_2, o_Mo_gather_3, o_Mo_gather_4, o_Mo_gather_5, o_Mo_gather_6, o_Mo_gather_7, o_Mo_gather_8, o_Mo_gather_9]) 3 240 (List.forall_mem_cons.mpr ⟨oo_Mo_gather_0, List.forall_mem_cons.mpr ⟨oo_Mo_gather_1, List.forall_mem_cons.mpr ⟨oo_Mo_gather_2, List.forall_mem_cons.mpr ⟨oo_Mo_gather_3, List.forall_mem_cons.mpr ⟨oo_Mo_gather_4, List.forall_mem_cons.mpr ⟨oo_Mo_gather_5, List.forall_mem_cons.mpr ⟨oo_Mo_gather_6, List.forall_mem_cons.mpr ⟨oo_Mo_gather_7, List.forall_mem_cons.mpr ⟨oo_Mo_gather_8, List.forall_mem_cons.mpr ⟨oo_Mo_gather_9, List.forall_mem_nil _⟩⟩⟩⟩⟩⟩⟩⟩⟩⟩) (by decide +kernel) ⟨List.forall_mem_cons.mpr ⟨gf_Mo_16, List.forall_mem_cons.mpr ⟨gf_Mo_391, List.forall_mem_nil _⟩⟩, List.forall_mem_cons.mpr ⟨pf_Mo_971, List.forall_mem_nil _⟩, List.forall_mem_cons.mpr ⟨cl_virtual (y := y_Mo_nodes) (ci := 13) rfl rfl ⟨_, _, rfl⟩ (by decide +kernel) h_Mo_nodes wm_3025 wm_9 wm_3022 wm_3024 wv_13_3 ⟨by decide, by decide, by decide +kernel⟩ (by decide), List.forall_mem_cons.mpr ⟨cl_virtual (y := y_Mo_groups) (ci := 13) rfl rfl ⟨_, _, rfl⟩ (by decide +kernel) h_Mo_groups wm_3070 wm_9 wm_3067 wm_3069 wv_13_14 ⟨by decide, by decide, by decide +kernel⟩ (by decide), List.forall_mem_cons.mpr ⟨cl_virtual (y := y_Mo_size) (ci := 13) rfl rfl ⟨_, _, rfl⟩ (by decide +kernel) h_Mo_size wm_3307 wm_9 wm_3304 wm_3306 wv_17_0 ⟨by decide, by decide, by decide +kernel⟩ (by decide), List.forall_mem_cons.mpr ⟨cl_virtual (y := y_Mo_groupOf) (ci := 13) rfl rfl ⟨_, _, rfl⟩ (by decide +kernel) h_Mo_groupOf wm_3311 wm_9 wm_3308 wm_3310 wv_17_1 ⟨by decide, by decide, by decide +kernel⟩ (by decide), List.forall_mem_cons.mpr ⟨cl_virtual (y := y_Mo_sizeOfGroup) (ci := 13) rfl rfl ⟨_, _, rfl⟩ (by decide +kernel) h_Mo_sizeOfGroup wm_3351 wm_9 wm_3348 wm_3350 wv_17_9 ⟨by decide, by decide, by decide +kernel⟩ (by decide), List.forall_mem_cons.mpr ⟨cl_virtual (y := y_Mo_gatherOne) (ci := 13) rfl rfl ⟨_, _, rfl⟩ (by decide +kernel) h_Mo_gatherOne wm_3596 wm_9 wm_3593 wm_3595 wv_21_2 ⟨by decide, by decide, by decide +kernel⟩ (by decide), List.forall_mem_nil _⟩⟩⟩⟩⟩⟩, List.forall_mem_nil _, List.forall_mem_nil _, GG_pl⟩ (by decide +kernel)

set_option maxHeartbeats 4000000 in
theorem vc_Mo_list_0_0 (x1 : Int) (x3 : Int) (all_0 : Int → Int) (turned_0 : Int → Int) (itemLayer_0 : Int → Int) (r_0 : Int) (all_1 : Int → Int) (turned_1 : Int → Int) (itemLayer_1 : Int → Int) (r_1 : Int) (all_2 : Int → Int) (turned_2 : Int → Int) (itemLayer_2 : Int → Int) (r_2 : Int) (items_0 : Int) (items_1 : Int) (firstJoint_0 : Int → Int) (firstJoint_1 : Int → Int) (firstJoint_2 : Int → Int) (lineA_0 : Int → Int) (lineA_1 : Int → Int) (lineA_2 : Int → Int) (lineB_0 : Int → Int) (lineB_1 : Int → Int) (lineB_2 : Int → Int) (k1 : 0 ≤ x1 ∧ x1 ≤ 24) (k3 : 0 ≤ x3 ∧ x3 ≤ 0) (f1 : x1 = all_0 (r_0)) (f6 : LYJ (r_2) (all_2) (turned_2) (itemLayer_2)) (fe_0_5_1 : r_0 = r_1) (fe_0_100_1 : items_0 = items_1) (fe_0_5_2 : r_1 = r_2) (fe_0_100_2 : items_1 = x1) (hE_0_2_1 : ∀ j : Int, all_0 j = all_1 j) (hE_0_2_2 : ∀ j : Int, all_1 j = all_2 j) (hE_0_95_1 : ∀ j : Int, turned_0 j = turned_1 j) (hE_0_95_2 : ∀ j : Int, turned_1 j = turned_2 j) (hE_0_102_1 : ∀ j : Int, itemLayer_0 j = itemLayer_1 j) (hE_0_102_2 : ∀ j : Int, itemLayer_1 j = itemLayer_2 j) (hE_0_104_1 : ∀ j : Int, firstJoint_0 j = firstJoint_1 j) (hE_0_104_2 : ∀ j : Int, firstJoint_1 j = firstJoint_2 j) (hE_0_108_1 : ∀ j : Int, lineA_0 j = lineA_1 j) (hE_0_108_2 : ∀ j : Int, lineA_1 j = lineA_2 j) (hE_0_109_1 : ∀ j : Int, lineB_0 j = lineB_1 j) (hE_0_109_2 : ∀ j : Int, lineB_1 j = lineB_2 j) (kz_0_100 : 0 ≤ items_0 ∧ items_0 ≤ 76) : LIC (r_0) (items_0) (all_0) (turned_0) (itemLayer_0) (firstJoint_0) (x3) := by
  subst fe_0_5_1
  subst fe_0_100_1
  subst fe_0_5_2
  have e_hE_0_2_1 := funext hE_0_2_1; subst e_hE_0_2_1
  have e_hE_0_2_2 := funext hE_0_2_2; subst e_hE_0_2_2
  have e_hE_0_95_1 := funext hE_0_95_1; subst e_hE_0_95_1
  have e_hE_0_95_2 := funext hE_0_95_2; subst e_hE_0_95_2
  have e_hE_0_102_1 := funext hE_0_102_1; subst e_hE_0_102_1
  have e_hE_0_102_2 := funext hE_0_102_2; subst e_hE_0_102_2
  have e_hE_0_104_1 := funext hE_0_104_1; subst e_hE_0_104_1
  have e_hE_0_104_2 := funext hE_0_104_2; subst e_hE_0_104_2
  have e_hE_0_108_1 := funext hE_0_108_1; subst e_hE_0_108_1
  have e_hE_0_108_2 := funext hE_0_108_2; subst e_hE_0_108_2
  have e_hE_0_109_1 := funext hE_0_109_1; subst e_hE_0_109_1
  have e_hE_0_109_2 := funext hE_0_109_2; subst e_hE_0_109_2
  try simp only [Int.add_zero] at *
  first
    | exact lic_zero ‹LYJ _ _ _ _› (by omega) (by omega)
    | exact lig_next ‹LIG _ _ _ _ _ _ _ _ _› (by assumption)
set_option maxHeartbeats 4000000 in
theorem vc_Mo_list_0_1 (x2 : Int) (all_0 : Int → Int) (turned_0 : Int → Int) (itemLayer_0 : Int → Int) (r_0 : Int) (all_1 : Int → Int) (turned_1 : Int → Int) (itemLayer_1 : Int → Int) (r_1 : Int) (all_2 : Int → Int) (turned_2 : Int → Int) (itemLayer_2 : Int → Int) (r_2 : Int) (items_0 : Int) (items_1 : Int) (lines_0 : Int) (firstJoint_0 : Int → Int) (firstJoint_1 : Int → Int) (firstJoint_2 : Int → Int) (lineA_0 : Int → Int) (lineA_1 : Int → Int) (lineA_2 : Int → Int) (lineB_0 : Int → Int) (lineB_1 : Int → Int) (lineB_2 : Int → Int) (k2 : 0 ≤ x2 ∧ x2 ≤ 0) (fe_0_5_1 : r_0 = r_1) (fe_0_100_1 : items_0 = items_1) (fe_0_107_1 : lines_0 = x2) (fe_0_5_2 : r_1 = r_2) (hE_0_2_1 : ∀ j : Int, all_0 j = all_1 j) (hE_0_2_2 : ∀ j : Int, all_1 j = all_2 j) (hE_0_95_1 : ∀ j : Int, turned_0 j = turned_1 j) (hE_0_95_2 : ∀ j : Int, turned_1 j = turned_2 j) (hE_0_102_1 : ∀ j : Int, itemLayer_0 j = itemLayer_1 j) (hE_0_102_2 : ∀ j : Int, itemLayer_1 j = itemLayer_2 j) (hE_0_104_1 : ∀ j : Int, firstJoint_0 j = firstJoint_1 j) (hE_0_104_2 : ∀ j : Int, firstJoint_1 j = firstJoint_2 j) (hE_0_108_1 : ∀ j : Int, lineA_0 j = lineA_1 j) (hE_0_108_2 : ∀ j : Int, lineA_1 j = lineA_2 j) (hE_0_109_1 : ∀ j : Int, lineB_0 j = lineB_1 j) (hE_0_109_2 : ∀ j : Int, lineB_1 j = lineB_2 j) (kz_0_100 : 0 ≤ items_0 ∧ items_0 ≤ 76) (kz_0_107 : 0 ≤ lines_0 ∧ lines_0 ≤ 130) : LNP (r_0) (lines_0) (items_0) (all_0) (itemLayer_0) (lineA_0) (lineB_0) := by
  subst fe_0_5_1
  subst fe_0_100_1
  subst fe_0_5_2
  have e_hE_0_2_1 := funext hE_0_2_1; subst e_hE_0_2_1
  have e_hE_0_2_2 := funext hE_0_2_2; subst e_hE_0_2_2
  have e_hE_0_95_1 := funext hE_0_95_1; subst e_hE_0_95_1
  have e_hE_0_95_2 := funext hE_0_95_2; subst e_hE_0_95_2
  have e_hE_0_102_1 := funext hE_0_102_1; subst e_hE_0_102_1
  have e_hE_0_102_2 := funext hE_0_102_2; subst e_hE_0_102_2
  have e_hE_0_104_1 := funext hE_0_104_1; subst e_hE_0_104_1
  have e_hE_0_104_2 := funext hE_0_104_2; subst e_hE_0_104_2
  have e_hE_0_108_1 := funext hE_0_108_1; subst e_hE_0_108_1
  have e_hE_0_108_2 := funext hE_0_108_2; subst e_hE_0_108_2
  have e_hE_0_109_1 := funext hE_0_109_1; subst e_hE_0_109_1
  have e_hE_0_109_2 := funext hE_0_109_2; subst e_hE_0_109_2
  first
    | assumption
    | (intro p a b; exfalso; omega)
set_option maxHeartbeats 4000000 in
theorem vc_Mo_list_0_2 (x1 : Int) (x2 : Int) (x3 : Int) (all_0 : Int → Int) (turned_0 : Int → Int) (itemLayer_0 : Int → Int) (r_0 : Int) (all_1 : Int → Int) (turned_1 : Int → Int) (itemLayer_1 : Int → Int) (r_1 : Int) (all_2 : Int → Int) (turned_2 : Int → Int) (itemLayer_2 : Int → Int) (r_2 : Int) (items_0 : Int) (items_1 : Int) (lines_0 : Int) (firstJoint_0 : Int → Int) (firstJoint_1 : Int → Int) (firstJoint_2 : Int → Int) (lineA_0 : Int → Int) (lineA_1 : Int → Int) (lineA_2 : Int → Int) (lineB_0 : Int → Int) (lineB_1 : Int → Int) (lineB_2 : Int → Int) (k1 : 0 ≤ x1 ∧ x1 ≤ 24) (k2 : 0 ≤ x2 ∧ x2 ≤ 0) (k3 : 0 ≤ x3 ∧ x3 ≤ 0) (f1 : x1 = all_0 (r_0)) (fe_0_5_1 : r_0 = r_1) (fe_0_100_1 : items_0 = items_1) (fe_0_107_1 : lines_0 = x2) (fe_0_5_2 : r_1 = r_2) (fe_0_100_2 : items_1 = x1) (hE_0_2_1 : ∀ j : Int, all_0 j = all_1 j) (hE_0_2_2 : ∀ j : Int, all_1 j = all_2 j) (hE_0_95_1 : ∀ j : Int, turned_0 j = turned_1 j) (hE_0_95_2 : ∀ j : Int, turned_1 j = turned_2 j) (hE_0_102_1 : ∀ j : Int, itemLayer_0 j = itemLayer_1 j) (hE_0_102_2 : ∀ j : Int, itemLayer_1 j = itemLayer_2 j) (hE_0_104_1 : ∀ j : Int, firstJoint_0 j = firstJoint_1 j) (hE_0_104_2 : ∀ j : Int, firstJoint_1 j = firstJoint_2 j) (hE_0_108_1 : ∀ j : Int, lineA_0 j = lineA_1 j) (hE_0_108_2 : ∀ j : Int, lineA_1 j = lineA_2 j) (hE_0_109_1 : ∀ j : Int, lineB_0 j = lineB_1 j) (hE_0_109_2 : ∀ j : Int, lineB_1 j = lineB_2 j) (kz_0_100 : 0 ≤ items_0 ∧ items_0 ≤ 76) (kz_0_107 : 0 ≤ lines_0 ∧ lines_0 ≤ 130) : lines_0 = ((items_0 - all_0 (r_0)) + x3) := by
  subst fe_0_5_1
  subst fe_0_100_1
  subst fe_0_5_2
  have e_hE_0_2_1 := funext hE_0_2_1; subst e_hE_0_2_1
  have e_hE_0_2_2 := funext hE_0_2_2; subst e_hE_0_2_2
  have e_hE_0_95_1 := funext hE_0_95_1; subst e_hE_0_95_1
  have e_hE_0_95_2 := funext hE_0_95_2; subst e_hE_0_95_2
  have e_hE_0_102_1 := funext hE_0_102_1; subst e_hE_0_102_1
  have e_hE_0_102_2 := funext hE_0_102_2; subst e_hE_0_102_2
  have e_hE_0_104_1 := funext hE_0_104_1; subst e_hE_0_104_1
  have e_hE_0_104_2 := funext hE_0_104_2; subst e_hE_0_104_2
  have e_hE_0_108_1 := funext hE_0_108_1; subst e_hE_0_108_1
  have e_hE_0_108_2 := funext hE_0_108_2; subst e_hE_0_108_2
  have e_hE_0_109_1 := funext hE_0_109_1; subst e_hE_0_109_1
  have e_hE_0_109_2 := funext hE_0_109_2; subst e_hE_0_109_2
  try simp only [Int.add_zero] at *
  first
    | omega
    | (have h := lid_bd ‹LID _ _ _ _ _ _ _ _ _›; omega)
    | (have h := ‹LYJ _ _ _ _›.1.1.1; omega)
    | (have h := (lic_bd ‹LIC _ _ _ _ _ _ _›).1; omega)
    | (have h := (lic_bd ‹LIF _ _ _ _ _ _›).1; omega)
    | (have h := ‹LSA _ _ _ _ _ _ _ _ _ _›.2.1; omega)
    | (have h := lli_bd ‹LLI _ _ _ _ _ _›; have h2 := ‹LSA _ _ _ _ _ _ _ _ _ _›.2.1; omega)
set_option maxHeartbeats 4000000 in
theorem vc_Mo_list_0_3 (x3 : Int) (all_0 : Int → Int) (turned_0 : Int → Int) (itemLayer_0 : Int → Int) (r_0 : Int) (all_1 : Int → Int) (turned_1 : Int → Int) (itemLayer_1 : Int → Int) (r_1 : Int) (all_2 : Int → Int) (turned_2 : Int → Int) (itemLayer_2 : Int → Int) (r_2 : Int) (items_0 : Int) (items_1 : Int) (firstJoint_0 : Int → Int) (firstJoint_1 : Int → Int) (firstJoint_2 : Int → Int) (lineA_0 : Int → Int) (lineA_1 : Int → Int) (lineA_2 : Int → Int) (lineB_0 : Int → Int) (lineB_1 : Int → Int) (lineB_2 : Int → Int) (k3 : 0 ≤ x3 ∧ x3 ≤ 0) (f6 : LYJ (r_2) (all_2) (turned_2) (itemLayer_2)) (fe_0_5_1 : r_0 = r_1) (fe_0_100_1 : items_0 = items_1) (fe_0_5_2 : r_1 = r_2) (hE_0_2_1 : ∀ j : Int, all_0 j = all_1 j) (hE_0_2_2 : ∀ j : Int, all_1 j = all_2 j) (hE_0_95_1 : ∀ j : Int, turned_0 j = turned_1 j) (hE_0_95_2 : ∀ j : Int, turned_1 j = turned_2 j) (hE_0_102_1 : ∀ j : Int, itemLayer_0 j = itemLayer_1 j) (hE_0_102_2 : ∀ j : Int, itemLayer_1 j = itemLayer_2 j) (hE_0_104_1 : ∀ j : Int, firstJoint_0 j = firstJoint_1 j) (hE_0_104_2 : ∀ j : Int, firstJoint_1 j = firstJoint_2 j) (hE_0_108_1 : ∀ j : Int, lineA_0 j = lineA_1 j) (hE_0_108_2 : ∀ j : Int, lineA_1 j = lineA_2 j) (hE_0_109_1 : ∀ j : Int, lineB_0 j = lineB_1 j) (hE_0_109_2 : ∀ j : Int, lineB_1 j = lineB_2 j) (kz_0_100 : 0 ≤ items_0 ∧ items_0 ≤ 76) : x3 ≤ all_0 ((r_0 + 1)) := by
  subst fe_0_5_1
  subst fe_0_100_1
  subst fe_0_5_2
  have e_hE_0_2_1 := funext hE_0_2_1; subst e_hE_0_2_1
  have e_hE_0_2_2 := funext hE_0_2_2; subst e_hE_0_2_2
  have e_hE_0_95_1 := funext hE_0_95_1; subst e_hE_0_95_1
  have e_hE_0_95_2 := funext hE_0_95_2; subst e_hE_0_95_2
  have e_hE_0_102_1 := funext hE_0_102_1; subst e_hE_0_102_1
  have e_hE_0_102_2 := funext hE_0_102_2; subst e_hE_0_102_2
  have e_hE_0_104_1 := funext hE_0_104_1; subst e_hE_0_104_1
  have e_hE_0_104_2 := funext hE_0_104_2; subst e_hE_0_104_2
  have e_hE_0_108_1 := funext hE_0_108_1; subst e_hE_0_108_1
  have e_hE_0_108_2 := funext hE_0_108_2; subst e_hE_0_108_2
  have e_hE_0_109_1 := funext hE_0_109_1; subst e_hE_0_109_1
  have e_hE_0_109_2 := funext hE_0_109_2; subst e_hE_0_109_2
  try simp only [Int.add_zero] at *
  first
    | omega
    | (have h := lid_bd ‹LID _ _ _ _ _ _ _ _ _›; omega)
    | (have h := ‹LYJ _ _ _ _›.1.1.1; omega)
    | (have h := (lic_bd ‹LIC _ _ _ _ _ _ _›).1; omega)
    | (have h := (lic_bd ‹LIF _ _ _ _ _ _›).1; omega)
    | (have h := ‹LSA _ _ _ _ _ _ _ _ _ _›.2.1; omega)
    | (have h := lli_bd ‹LLI _ _ _ _ _ _›; have h2 := ‹LSA _ _ _ _ _ _ _ _ _ _›.2.1; omega)
set_option maxHeartbeats 4000000 in
theorem vc_Mo_list_0_4 (x1 : Int) (all_0 : Int → Int) (turned_0 : Int → Int) (itemLayer_0 : Int → Int) (r_0 : Int) (all_1 : Int → Int) (turned_1 : Int → Int) (itemLayer_1 : Int → Int) (r_1 : Int) (all_2 : Int → Int) (turned_2 : Int → Int) (itemLayer_2 : Int → Int) (r_2 : Int) (items_0 : Int) (items_1 : Int) (firstJoint_0 : Int → Int) (firstJoint_1 : Int → Int) (firstJoint_2 : Int → Int) (lineA_0 : Int → Int) (lineA_1 : Int → Int) (lineA_2 : Int → Int) (lineB_0 : Int → Int) (lineB_1 : Int → Int) (lineB_2 : Int → Int) (k1 : 0 ≤ x1 ∧ x1 ≤ 24) (f1 : x1 = all_0 (r_0)) (fe_0_5_1 : r_0 = r_1) (fe_0_100_1 : items_0 = items_1) (fe_0_5_2 : r_1 = r_2) (fe_0_100_2 : items_1 = x1) (hE_0_2_1 : ∀ j : Int, all_0 j = all_1 j) (hE_0_2_2 : ∀ j : Int, all_1 j = all_2 j) (hE_0_95_1 : ∀ j : Int, turned_0 j = turned_1 j) (hE_0_95_2 : ∀ j : Int, turned_1 j = turned_2 j) (hE_0_102_1 : ∀ j : Int, itemLayer_0 j = itemLayer_1 j) (hE_0_102_2 : ∀ j : Int, itemLayer_1 j = itemLayer_2 j) (hE_0_104_1 : ∀ j : Int, firstJoint_0 j = firstJoint_1 j) (hE_0_104_2 : ∀ j : Int, firstJoint_1 j = firstJoint_2 j) (hE_0_108_1 : ∀ j : Int, lineA_0 j = lineA_1 j) (hE_0_108_2 : ∀ j : Int, lineA_1 j = lineA_2 j) (hE_0_109_1 : ∀ j : Int, lineB_0 j = lineB_1 j) (hE_0_109_2 : ∀ j : Int, lineB_1 j = lineB_2 j) (kz_0_100 : 0 ≤ items_0 ∧ items_0 ≤ 76) : 0 ≤ all_0 (r_0) := by
  subst fe_0_5_1
  subst fe_0_100_1
  subst fe_0_5_2
  have e_hE_0_2_1 := funext hE_0_2_1; subst e_hE_0_2_1
  have e_hE_0_2_2 := funext hE_0_2_2; subst e_hE_0_2_2
  have e_hE_0_95_1 := funext hE_0_95_1; subst e_hE_0_95_1
  have e_hE_0_95_2 := funext hE_0_95_2; subst e_hE_0_95_2
  have e_hE_0_102_1 := funext hE_0_102_1; subst e_hE_0_102_1
  have e_hE_0_102_2 := funext hE_0_102_2; subst e_hE_0_102_2
  have e_hE_0_104_1 := funext hE_0_104_1; subst e_hE_0_104_1
  have e_hE_0_104_2 := funext hE_0_104_2; subst e_hE_0_104_2
  have e_hE_0_108_1 := funext hE_0_108_1; subst e_hE_0_108_1
  have e_hE_0_108_2 := funext hE_0_108_2; subst e_hE_0_108_2
  have e_hE_0_109_1 := funext hE_0_109_1; subst e_hE_0_109_1
  have e_hE_0_109_2 := funext hE_0_109_2; subst e_hE_0_109_2
  try simp only [Int.add_zero] at *
  first
    | omega
    | (have h := lid_bd ‹LID _ _ _ _ _ _ _ _ _›; omega)
    | (have h := ‹LYJ _ _ _ _›.1.1.1; omega)
    | (have h := (lic_bd ‹LIC _ _ _ _ _ _ _›).1; omega)
    | (have h := (lic_bd ‹LIF _ _ _ _ _ _›).1; omega)
    | (have h := ‹LSA _ _ _ _ _ _ _ _ _ _›.2.1; omega)
    | (have h := lli_bd ‹LLI _ _ _ _ _ _›; have h2 := ‹LSA _ _ _ _ _ _ _ _ _ _›.2.1; omega)
def o_Mo_list_0 : or_T := (12, 4, [(0, (2, 0, 0, [165])), (1, (0, 0, 24, [])), (2, (0, 0, 0, [])), (3, (0, 0, 0, []))], [(20, [1, 0], [50, 1, 1, 1005, 1002, 1, 2, 1, 0, 3, 1, 2, 2, 1, 5]), (101, [0, 2], [107]), (101, [0, 1], [100]), (20, [0], [60, 1, 3, 438, 5, 2, 95, 102])], [], [], [(20, [0, 3], [60, 2, 4, 441, 5, 100, 2, 95, 102, 104]), (20, [0], [60, 3, 4, 439, 5, 107, 100, 2, 102, 108, 109]), (20, [0, 3], [50, 3, 1, 107, 100, 5, 2, 1, 3, 2, 0, 107, 4, 11, 5, 3, 2, 0, 100, 3, 0, 2, 2, 0, 5, 1, 1]), (20, [3, 0], [50, 1, 1, 1005, 1002, 0, 2, 1, 0, 3, 1, 2, 4, 3, 2, 1, 5, 0, 1]), (20, [0], [50, 1, 1, 5, 2, 0, 2, 0, 0, 3, 0, 2, 2, 0, 5]), (24, [0, 0], [])], [], [])
theorem oo_Mo_list_0 {kA : Nat → ClassId} : or_ok PRD kA GG o_Mo_list_0 := by
  refine or_mk fun A ta ws vs hD hth hl => ?_
  intro t0 r0 t1 k1 t2 k2 t3 k3 f1 ta1 w1 le1 s1 ta2 w2 le2 s2 f6
  have s1 : (∀ b j, w_el ws b j = w_el w1 b j) ∧ ∀ b j, w_fd ws b j = if b = v_ad (n_v vs 0) ∧ j = 107 then n_v vs 2 else w_fd w1 b j := s1.2
  have s2 : (∀ b j, w_el w1 b j = w_el w2 b j) ∧ ∀ b j, w_fd w1 b j = if b = v_ad (n_v vs 0) ∧ j = 100 then n_v vs 1 else w_fd w2 b j := s2.2
  replace f6 := shm_1704 f6
  have ar_0_2_1 : w_ar w1 (n_v vs 0) 2 = w_ar ws (n_v vs 0) 2 := by show v_ad (w_fd w1 _ _) = v_ad (w_fd ws _ _); rw [s1.2, if_neg (fun e => absurd e.2 (by decide))]
  have ar_0_2_2 : w_ar w2 (n_v vs 0) 2 = w_ar ws (n_v vs 0) 2 := by rw [← ar_0_2_1]; show v_ad (w_fd w2 _ _) = v_ad (w_fd w1 _ _); rw [s2.2, if_neg (fun e => absurd e.2 (by decide))]
  have ar_0_95_1 : w_ar w1 (n_v vs 0) 95 = w_ar ws (n_v vs 0) 95 := by show v_ad (w_fd w1 _ _) = v_ad (w_fd ws _ _); rw [s1.2, if_neg (fun e => absurd e.2 (by decide))]
  have ar_0_95_2 : w_ar w2 (n_v vs 0) 95 = w_ar ws (n_v vs 0) 95 := by rw [← ar_0_95_1]; show v_ad (w_fd w2 _ _) = v_ad (w_fd w1 _ _); rw [s2.2, if_neg (fun e => absurd e.2 (by decide))]
  have ar_0_102_1 : w_ar w1 (n_v vs 0) 102 = w_ar ws (n_v vs 0) 102 := by show v_ad (w_fd w1 _ _) = v_ad (w_fd ws _ _); rw [s1.2, if_neg (fun e => absurd e.2 (by decide))]
  have ar_0_102_2 : w_ar w2 (n_v vs 0) 102 = w_ar ws (n_v vs 0) 102 := by rw [← ar_0_102_1]; show v_ad (w_fd w2 _ _) = v_ad (w_fd w1 _ _); rw [s2.2, if_neg (fun e => absurd e.2 (by decide))]
  simp only [ar_0_2_1, ar_0_95_1, ar_0_102_1, ar_0_2_2, ar_0_95_2, ar_0_102_2] at f6
  have fe_0_5_1 : w_fi ws (n_v vs 0) 5 = w_fi w1 (n_v vs 0) 5 := by show v_iv (w_fd _ _ _) = v_iv (w_fd _ _ _); rw [s1.2, if_neg (fun e => absurd e.2 (by decide))]
  have fe_0_100_1 : w_fi ws (n_v vs 0) 100 = w_fi w1 (n_v vs 0) 100 := by show v_iv (w_fd _ _ _) = v_iv (w_fd _ _ _); rw [s1.2, if_neg (fun e => absurd e.2 (by decide))]
  have fe_0_107_1 : w_fi ws (n_v vs 0) 107 = v_iv (n_v vs 2) := by show v_iv (w_fd _ _ _) = _; rw [s1.2, if_pos ⟨rfl, rfl⟩]
  have fe_0_5_2 : w_fi w1 (n_v vs 0) 5 = w_fi w2 (n_v vs 0) 5 := by show v_iv (w_fd _ _ _) = v_iv (w_fd _ _ _); rw [s2.2, if_neg (fun e => absurd e.2 (by decide))]
  have fe_0_100_2 : w_fi w1 (n_v vs 0) 100 = v_iv (n_v vs 1) := by show v_iv (w_fd _ _ _) = _; rw [s2.2, if_pos ⟨rfl, rfl⟩]
  have hE_0_2_1 : ∀ j : Int, w_ei ws (w_ar ws (n_v vs 0) 2) j = w_ei w1 (w_ar ws (n_v vs 0) 2) j := fun j => s1.1 _ _
  have hE_0_2_2 : ∀ j : Int, w_ei w1 (w_ar ws (n_v vs 0) 2) j = w_ei w2 (w_ar ws (n_v vs 0) 2) j := fun j => s2.1 _ _
  have hE_0_95_1 : ∀ j : Int, w_ei ws (w_ar ws (n_v vs 0) 95) j = w_ei w1 (w_ar ws (n_v vs 0) 95) j := fun j => s1.1 _ _
  have hE_0_95_2 : ∀ j : Int, w_ei w1 (w_ar ws (n_v vs 0) 95) j = w_ei w2 (w_ar ws (n_v vs 0) 95) j := fun j => s2.1 _ _
  have hE_0_102_1 : ∀ j : Int, w_ei ws (w_ar ws (n_v vs 0) 102) j = w_ei w1 (w_ar ws (n_v vs 0) 102) j := fun j => s1.1 _ _
  have hE_0_102_2 : ∀ j : Int, w_ei w1 (w_ar ws (n_v vs 0) 102) j = w_ei w2 (w_ar ws (n_v vs 0) 102) j := fun j => s2.1 _ _
  have hE_0_104_1 : ∀ j : Int, w_ei ws (w_ar ws (n_v vs 0) 104) j = w_ei w1 (w_ar ws (n_v vs 0) 104) j := fun j => s1.1 _ _
  have hE_0_104_2 : ∀ j : Int, w_ei w1 (w_ar ws (n_v vs 0) 104) j = w_ei w2 (w_ar ws (n_v vs 0) 104) j := fun j => s2.1 _ _
  have hE_0_108_1 : ∀ j : Int, w_ei ws (w_ar ws (n_v vs 0) 108) j = w_ei w1 (w_ar ws (n_v vs 0) 108) j := fun j => s1.1 _ _
  have hE_0_108_2 : ∀ j : Int, w_ei w1 (w_ar ws (n_v vs 0) 108) j = w_ei w2 (w_ar ws (n_v vs 0) 108) j := fun j => s2.1 _ _
  have hE_0_109_1 : ∀ j : Int, w_ei ws (w_ar ws (n_v vs 0) 109) j = w_ei w1 (w_ar ws (n_v vs 0) 109) j := fun j => s1.1 _ _
  have hE_0_109_2 : ∀ j : Int, w_ei w1 (w_ar ws (n_v vs 0) 109) j = w_ei w2 (w_ar ws (n_v vs 0) 109) j := fun j => s2.1 _ _
  have kz_0_100 := fdq_162 hD hth r0
  have kz_0_107 := fdq_163 hD hth r0
  have nf0 : fc_1 PRD (20, [0, 3], [60, 2, 4, 441, 5, 100, 2, 95, 102, 104]) ws (vs) := ⟨nf_in hl rfl, sgq_1705 (vc_Mo_list_0_0 (v_iv (n_v vs 1)) (v_iv (n_v vs 3)) (w_ei ws (w_ar ws (n_v vs 0) 2)) (w_ei ws (w_ar ws (n_v vs 0) 95)) (w_ei ws (w_ar ws (n_v vs 0) 102)) (w_fi ws (n_v vs 0) 5) (w_ei w1 (w_ar ws (n_v vs 0) 2)) (w_ei w1 (w_ar ws (n_v vs 0) 95)) (w_ei w1 (w_ar ws (n_v vs 0) 102)) (w_fi w1 (n_v vs 0) 5) (w_ei w2 (w_ar ws (n_v vs 0) 2)) (w_ei w2 (w_ar ws (n_v vs 0) 95)) (w_ei w2 (w_ar ws (n_v vs 0) 102)) (w_fi w2 (n_v vs 0) 5) (w_fi ws (n_v vs 0) 100) (w_fi w1 (n_v vs 0) 100) (w_ei ws (w_ar ws (n_v vs 0) 104)) (w_ei w1 (w_ar ws (n_v vs 0) 104)) (w_ei w2 (w_ar ws (n_v vs 0) 104)) (w_ei ws (w_ar ws (n_v vs 0) 108)) (w_ei w1 (w_ar ws (n_v vs 0) 108)) (w_ei w2 (w_ar ws (n_v vs 0) 108)) (w_ei ws (w_ar ws (n_v vs 0) 109)) (w_ei w1 (w_ar ws (n_v vs 0) 109)) (w_ei w2 (w_ar ws (n_v vs 0) 109)) k1 k3 (shm_1581 f1) f6 fe_0_5_1 fe_0_100_1 fe_0_5_2 fe_0_100_2 hE_0_2_1 hE_0_2_2 hE_0_95_1 hE_0_95_2 hE_0_102_1 hE_0_102_2 hE_0_104_1 hE_0_104_2 hE_0_108_1 hE_0_108_2 hE_0_109_1 hE_0_109_2 kz_0_100)⟩
  have nf1 : fc_1 PRD (20, [0], [60, 3, 4, 439, 5, 107, 100, 2, 102, 108, 109]) ws (vs) := ⟨nf_in hl rfl, sgq_630 (vc_Mo_list_0_1 (v_iv (n_v vs 2)) (w_ei ws (w_ar ws (n_v vs 0) 2)) (w_ei ws (w_ar ws (n_v vs 0) 95)) (w_ei ws (w_ar ws (n_v vs 0) 102)) (w_fi ws (n_v vs 0) 5) (w_ei w1 (w_ar ws (n_v vs 0) 2)) (w_ei w1 (w_ar ws (n_v vs 0) 95)) (w_ei w1 (w_ar ws (n_v vs 0) 102)) (w_fi w1 (n_v vs 0) 5) (w_ei w2 (w_ar ws (n_v vs 0) 2)) (w_ei w2 (w_ar ws (n_v vs 0) 95)) (w_ei w2 (w_ar ws (n_v vs 0) 102)) (w_fi w2 (n_v vs 0) 5) (w_fi ws (n_v vs 0) 100) (w_fi w1 (n_v vs 0) 100) (w_fi ws (n_v vs 0) 107) (w_ei ws (w_ar ws (n_v vs 0) 104)) (w_ei w1 (w_ar ws (n_v vs 0) 104)) (w_ei w2 (w_ar ws (n_v vs 0) 104)) (w_ei ws (w_ar ws (n_v vs 0) 108)) (w_ei w1 (w_ar ws (n_v vs 0) 108)) (w_ei w2 (w_ar ws (n_v vs 0) 108)) (w_ei ws (w_ar ws (n_v vs 0) 109)) (w_ei w1 (w_ar ws (n_v vs 0) 109)) (w_ei w2 (w_ar ws (n_v vs 0) 109)) k2 fe_0_5_1 fe_0_100_1 fe_0_107_1 fe_0_5_2 hE_0_2_1 hE_0_2_2 hE_0_95_1 hE_0_95_2 hE_0_102_1 hE_0_102_2 hE_0_104_1 hE_0_104_2 hE_0_108_1 hE_0_108_2 hE_0_109_1 hE_0_109_2 kz_0_100 kz_0_107)⟩
  have nf2 : fc_1 PRD (20, [0, 3], [50, 3, 1, 107, 100, 5, 2, 1, 3, 2, 0, 107, 4, 11, 5, 3, 2, 0, 100, 3, 0, 2, 2, 0, 5, 1, 1]) ws (vs) := ⟨nf_in hl rfl, sgq_1706 (vc_Mo_list_0_2 (v_iv (n_v vs 1)) (v_iv (n_v vs 2)) (v_iv (n_v vs 3)) (w_ei ws (w_ar ws (n_v vs 0) 2)) (w_ei ws (w_ar ws (n_v vs 0) 95)) (w_ei ws (w_ar ws (n_v vs 0) 102)) (w_fi ws (n_v vs 0) 5) (w_ei w1 (w_ar ws (n_v vs 0) 2)) (w_ei w1 (w_ar ws (n_v vs 0) 95)) (w_ei w1 (w_ar ws (n_v vs 0) 102)) (w_fi w1 (n_v vs 0) 5) (w_ei w2 (w_ar ws (n_v vs 0) 2)) (w_ei w2 (w_ar ws (n_v vs 0) 95)) (w_ei w2 (w_ar ws (n_v vs 0) 102)) (w_fi w2 (n_v vs 0) 5) (w_fi ws (n_v vs 0) 100) (w_fi w1 (n_v vs 0) 100) (w_fi ws (n_v vs 0) 107) (w_ei ws (w_ar ws (n_v vs 0) 104)) (w_ei w1 (w_ar ws (n_v vs 0) 104)) (w_ei w2 (w_ar ws (n_v vs 0) 104)) (w_ei ws (w_ar ws (n_v vs 0) 108)) (w_ei w1 (w_ar ws (n_v vs 0) 108)) (w_ei w2 (w_ar ws (n_v vs 0) 108)) (w_ei ws (w_ar ws (n_v vs 0) 109)) (w_ei w1 (w_ar ws (n_v vs 0) 109)) (w_ei w2 (w_ar ws (n_v vs 0) 109)) k1 k2 k3 (shm_1581 f1) fe_0_5_1 fe_0_100_1 fe_0_107_1 fe_0_5_2 fe_0_100_2 hE_0_2_1 hE_0_2_2 hE_0_95_1 hE_0_95_2 hE_0_102_1 hE_0_102_2 hE_0_104_1 hE_0_104_2 hE_0_108_1 hE_0_108_2 hE_0_109_1 hE_0_109_2 kz_0_100 kz_0_107)⟩
  have nf3 : fc_1 PRD (20, [3, 0], [50, 1, 1, 1005, 1002, 0, 2, 1, 0, 3, 1, 2, 4, 3, 2, 1, 5, 0, 1]) ws (vs) := ⟨nf_in hl rfl, sgq_1707 (vc_Mo_list_0_3 (v_iv (n_v vs 3)) (w_ei ws (w_ar ws (n_v vs 0) 2)) (w_ei ws (w_ar ws (n_v vs 0) 95)) (w_ei ws (w_ar ws (n_v vs 0) 102)) (w_fi ws (n_v vs 0) 5) (w_ei w1 (w_ar ws (n_v vs 0) 2)) (w_ei w1 (w_ar ws (n_v vs 0) 95)) (w_ei w1 (w_ar ws (n_v vs 0) 102)) (w_fi w1 (n_v vs 0) 5) (w_ei w2 (w_ar ws (n_v vs 0) 2)) (w_ei w2 (w_ar ws (n_v vs 0) 95)) (w_ei w2 (w_ar ws (n_v vs 0) 102)) (w_fi w2 (n_v vs 0) 5) (w_fi ws (n_v vs 0) 100) (w_fi w1 (n_v vs 0) 100) (w_ei ws (w_ar ws (n_v vs 0) 104)) (w_ei w1 (w_ar ws (n_v vs 0) 104)) (w_ei w2 (w_ar ws (n_v vs 0) 104)) (w_ei ws (w_ar ws (n_v vs 0) 108)) (w_ei w1 (w_ar ws (n_v vs 0) 108)) (w_ei w2 (w_ar ws (n_v vs 0) 108)) (w_ei ws (w_ar ws (n_v vs 0) 109)) (w_ei w1 (w_ar ws (n_v vs 0) 109)) (w_ei w2 (w_ar ws (n_v vs 0) 109)) k3 f6 fe_0_5_1 fe_0_100_1 fe_0_5_2 hE_0_2_1 hE_0_2_2 hE_0_95_1 hE_0_95_2 hE_0_102_1 hE_0_102_2 hE_0_104_1 hE_0_104_2 hE_0_108_1 hE_0_108_2 hE_0_109_1 hE_0_109_2 kz_0_100)⟩
  have nf4 : fc_1 PRD (20, [0], [50, 1, 1, 5, 2, 0, 2, 0, 0, 3, 0, 2, 2, 0, 5]) ws (vs) := ⟨nf_in hl rfl, sgq_1708 (vc_Mo_list_0_4 (v_iv (n_v vs 1)) (w_ei ws (w_ar ws (n_v vs 0) 2)) (w_ei ws (w_ar ws (n_v vs 0) 95)) (w_ei ws (w_ar ws (n_v vs 0) 102)) (w_fi ws (n_v vs 0) 5) (w_ei w1 (w_ar ws (n_v vs 0) 2)) (w_ei w1 (w_ar ws (n_v vs 0) 95)) (w_ei w1 (w_ar ws (n_v vs 0) 102)) (w_fi w1 (n_v vs 0) 5) (w_ei w2 (w_ar ws (n_v vs 0) 2)) (w_ei w2 (w_ar ws (n_v vs 0) 95)) (w_ei w2 (w_ar ws (n_v vs 0) 102)) (w_fi w2 (n_v vs 0) 5) (w_fi ws (n_v vs 0) 100) (w_fi w1 (n_v vs 0) 100) (w_ei ws (w_ar ws (n_v vs 0) 104)) (w_ei w1 (w_ar ws (n_v vs 0) 104)) (w_ei w2 (w_ar ws (n_v vs 0) 104)) (w_ei ws (w_ar ws (n_v vs 0) 108)) (w_ei w1 (w_ar ws (n_v vs 0) 108)) (w_ei w2 (w_ar ws (n_v vs 0) 108)) (w_ei ws (w_ar ws (n_v vs 0) 109)) (w_ei w1 (w_ar ws (n_v vs 0) 109)) (w_ei w2 (w_ar ws (n_v vs 0) 109)) k1 (shm_1581 f1) fe_0_5_1 fe_0_100_1 fe_0_5_2 fe_0_100_2 hE_0_2_1 hE_0_2_2 hE_0_95_1 hE_0_95_2 hE_0_102_1 hE_0_102_2 hE_0_104_1 hE_0_104_2 hE_0_108_1 hE_0_108_2 hE_0_109_1 hE_0_109_2 kz_0_100)⟩
  have nf5 : fc_1 PRD (24, [0, 0], []) ws (vs) := by
    refine ⟨nf_in hl rfl, sgq_1 ?_⟩
    · show n_v vs 0 = n_v vs 0
      first | rfl | simp only [true_and]
  refine ⟨(fun _ h => (by cases h)), [], trivial, ?_, (fun _ h => (by cases h))⟩
  rw [List.append_nil]
  exact List.forall_mem_cons.mpr ⟨⟨show (20 : Nat) < 100 from by decide, nf0⟩, List.forall_mem_cons.mpr ⟨⟨show (20 : Nat) < 100 from by decide, nf1⟩, List.forall_mem_cons.mpr ⟨⟨show (20 : Nat) < 100 from by decide, nf2⟩, List.forall_mem_cons.mpr ⟨⟨show (20 : Nat) < 100 from by decide, nf3⟩, List.forall_mem_cons.mpr ⟨⟨show (20 : Nat) < 100 from by decide, nf4⟩, List.forall_mem_cons.mpr ⟨⟨show (24 : Nat) < 100 from by decide, nf5⟩, (fun _ h => (by cases h))⟩⟩⟩⟩⟩⟩
set_option maxHeartbeats 4000000 in
theorem vc_Mo_list_1_0 (x4 : Int) (x6 : Int) (all_0 : Int → Int) (r_0 : Int) (turned_0 : Int → Int) (itemLayer_0 : Int → Int) (firstJoint_0 : Int → Int) (items_0 : Int) (lineA_0 : Int → Int) (lineB_0 : Int → Int) (lines_0 : Int) (all_1 : Int → Int) (turned_1 : Int → Int) (itemLayer_1 : Int → Int) (firstJoint_1 : Int → Int) (r_1 : Int) (items_1 : Int) (lineA_1 : Int → Int) (lineB_1 : Int → Int) (lines_1 : Int) (k4 : 0 ≤ x4 ∧ x4 ≤ 48) (k6 : 0 ≤ x6 ∧ x6 ≤ 48) (d0 : x6 + 0 ≤ x4 ∧ x4 ≤ x6 + 4294967296) (f0 : 1 * x6 + ((-1) * all_0 (r_0 + 1) + 0) ≤ 0) (f1 : (-1) * x6 + (1 * all_0 (r_0 + 1) + 0) ≤ 0) (f4 : lines_0 = ((items_0 - all_0 (r_0)) + x4)) (f5 : x4 ≤ all_0 ((r_0 + 1))) (f12 : LIC (r_1) (items_1) (all_1) (turned_1) (itemLayer_1) (firstJoint_1) (x4)) (fe_0_5_1 : r_0 = r_1) (fe_0_100_1 : items_0 = items_1) (fe_0_107_1 : lines_0 = lines_1) (hE_0_2_1 : ∀ j : Int, all_0 j = all_1 j) (hE_0_95_1 : ∀ j : Int, turned_0 j = turned_1 j) (hE_0_102_1 : ∀ j : Int, itemLayer_0 j = itemLayer_1 j) (hE_0_104_1 : ∀ j : Int, firstJoint_0 j = firstJoint_1 j) (hE_0_108_1 : ∀ j : Int, lineA_0 j = lineA_1 j) (hE_0_109_1 : ∀ j : Int, lineB_0 j = lineB_1 j) (kz_0_100 : 0 ≤ items_0 ∧ items_0 ≤ 76) (kz_0_107 : 0 ≤ lines_0 ∧ lines_0 ≤ 130) : LIF (r_0) (items_0) (all_0) (turned_0) (itemLayer_0) (firstJoint_0) := by
  subst fe_0_5_1
  subst fe_0_100_1
  subst fe_0_107_1
  have e_hE_0_2_1 := funext hE_0_2_1; subst e_hE_0_2_1
  have e_hE_0_95_1 := funext hE_0_95_1; subst e_hE_0_95_1
  have e_hE_0_102_1 := funext hE_0_102_1; subst e_hE_0_102_1
  have e_hE_0_104_1 := funext hE_0_104_1; subst e_hE_0_104_1
  have e_hE_0_108_1 := funext hE_0_108_1; subst e_hE_0_108_1
  have e_hE_0_109_1 := funext hE_0_109_1; subst e_hE_0_109_1
  have h := ‹LIC _ _ _ _ _ _ _›
  have e := h.2.1
  unfold LIF
  rw [show all_0 (r_0 + 1) = x4 by omega]
  exact h
set_option maxHeartbeats 4000000 in
theorem vc_Mo_list_1_1 (x7 : Int) (x8 : Int) (all_0 : Int → Int) (r_0 : Int) (turned_0 : Int → Int) (itemLayer_0 : Int → Int) (firstJoint_0 : Int → Int) (items_0 : Int) (lineA_0 : Int → Int) (lineB_0 : Int → Int) (lines_0 : Int) (all_1 : Int → Int) (turned_1 : Int → Int) (itemLayer_1 : Int → Int) (firstJoint_1 : Int → Int) (r_1 : Int) (items_1 : Int) (lineA_1 : Int → Int) (lineB_1 : Int → Int) (lines_1 : Int) (layerMany_0 : Int) (k7 : 0 ≤ x7 ∧ x7 ≤ 0) (k8 : 0 ≤ x8 ∧ x8 ≤ 0) (fe_0_5_1 : r_0 = r_1) (fe_0_100_1 : items_0 = items_1) (fe_0_101_1 : layerMany_0 = x7) (fe_0_107_1 : lines_0 = lines_1) (hE_0_2_1 : ∀ j : Int, all_0 j = all_1 j) (hE_0_95_1 : ∀ j : Int, turned_0 j = turned_1 j) (hE_0_102_1 : ∀ j : Int, itemLayer_0 j = itemLayer_1 j) (hE_0_104_1 : ∀ j : Int, firstJoint_0 j = firstJoint_1 j) (hE_0_108_1 : ∀ j : Int, lineA_0 j = lineA_1 j) (hE_0_109_1 : ∀ j : Int, lineB_0 j = lineB_1 j) (kz_0_100 : 0 ≤ items_0 ∧ items_0 ≤ 76) (kz_0_101 : 0 ≤ layerMany_0 ∧ layerMany_0 ≤ 76) (kz_0_107 : 0 ≤ lines_0 ∧ lines_0 ≤ 130) : LMF (layerMany_0) (itemLayer_0) (x8) := by
  subst fe_0_5_1
  subst fe_0_100_1
  subst fe_0_107_1
  have e_hE_0_2_1 := funext hE_0_2_1; subst e_hE_0_2_1
  have e_hE_0_95_1 := funext hE_0_95_1; subst e_hE_0_95_1
  have e_hE_0_102_1 := funext hE_0_102_1; subst e_hE_0_102_1
  have e_hE_0_104_1 := funext hE_0_104_1; subst e_hE_0_104_1
  have e_hE_0_108_1 := funext hE_0_108_1; subst e_hE_0_108_1
  have e_hE_0_109_1 := funext hE_0_109_1; subst e_hE_0_109_1
  first
    | exact ⟨by omega, fun j a b => by exfalso; omega⟩
    | exact lm1_step ‹LMF _ _ _› ‹LIF _ _ _ _ _ _› (by omega) (by omega) (by assumption) (by assumption) (by omega)
set_option maxHeartbeats 4000000 in
theorem vc_Mo_list_1_2 (x4 : Int) (x6 : Int) (all_0 : Int → Int) (r_0 : Int) (turned_0 : Int → Int) (itemLayer_0 : Int → Int) (firstJoint_0 : Int → Int) (items_0 : Int) (lineA_0 : Int → Int) (lineB_0 : Int → Int) (lines_0 : Int) (all_1 : Int → Int) (turned_1 : Int → Int) (itemLayer_1 : Int → Int) (firstJoint_1 : Int → Int) (r_1 : Int) (items_1 : Int) (lineA_1 : Int → Int) (lineB_1 : Int → Int) (lines_1 : Int) (k4 : 0 ≤ x4 ∧ x4 ≤ 48) (k6 : 0 ≤ x6 ∧ x6 ≤ 48) (d0 : x6 + 0 ≤ x4 ∧ x4 ≤ x6 + 4294967296) (f0 : 1 * x6 + ((-1) * all_0 (r_0 + 1) + 0) ≤ 0) (f1 : (-1) * x6 + (1 * all_0 (r_0 + 1) + 0) ≤ 0) (f4 : lines_0 = ((items_0 - all_0 (r_0)) + x4)) (f5 : x4 ≤ all_0 ((r_0 + 1))) (f9 : x6 ≤ x4) (fe_0_5_1 : r_0 = r_1) (fe_0_100_1 : items_0 = items_1) (fe_0_107_1 : lines_0 = lines_1) (hE_0_2_1 : ∀ j : Int, all_0 j = all_1 j) (hE_0_95_1 : ∀ j : Int, turned_0 j = turned_1 j) (hE_0_102_1 : ∀ j : Int, itemLayer_0 j = itemLayer_1 j) (hE_0_104_1 : ∀ j : Int, firstJoint_0 j = firstJoint_1 j) (hE_0_108_1 : ∀ j : Int, lineA_0 j = lineA_1 j) (hE_0_109_1 : ∀ j : Int, lineB_0 j = lineB_1 j) (kz_0_100 : 0 ≤ items_0 ∧ items_0 ≤ 76) (kz_0_107 : 0 ≤ lines_0 ∧ lines_0 ≤ 130) : lines_0 = ((items_0 - all_0 (r_0)) + all_0 ((r_0 + 1))) := by
  subst fe_0_5_1
  subst fe_0_100_1
  subst fe_0_107_1
  have e_hE_0_2_1 := funext hE_0_2_1; subst e_hE_0_2_1
  have e_hE_0_95_1 := funext hE_0_95_1; subst e_hE_0_95_1
  have e_hE_0_102_1 := funext hE_0_102_1; subst e_hE_0_102_1
  have e_hE_0_104_1 := funext hE_0_104_1; subst e_hE_0_104_1
  have e_hE_0_108_1 := funext hE_0_108_1; subst e_hE_0_108_1
  have e_hE_0_109_1 := funext hE_0_109_1; subst e_hE_0_109_1
  try simp only [Int.add_zero] at *
  first
    | omega
    | (have h := lid_bd ‹LID _ _ _ _ _ _ _ _ _›; omega)
    | (have h := ‹LYJ _ _ _ _›.1.1.1; omega)
    | (have h := (lic_bd ‹LIC _ _ _ _ _ _ _›).1; omega)
    | (have h := (lic_bd ‹LIF _ _ _ _ _ _›).1; omega)
    | (have h := ‹LSA _ _ _ _ _ _ _ _ _ _›.2.1; omega)
    | (have h := lli_bd ‹LLI _ _ _ _ _ _›; have h2 := ‹LSA _ _ _ _ _ _ _ _ _ _›.2.1; omega)
def o_Mo_list_1 : or_T := (139, 9, [(0, (2, 0, 0, [165])), (4, (0, 0, 48, [])), (6, (0, 0, 48, [])), (7, (0, 0, 0, [])), (8, (0, 0, 0, []))], [(20, [6, 2], [30, 0, 1, 0, 0, -1, 3, 2005001]), (20, [6, 2], [30, 0, -1, 0, 0, 1, 3, 2005001]), (20, [2, 4], [50, 3, 1, 107, 100, 5, 2, 1, 3, 2, 0, 107, 4, 11, 5, 3, 2, 0, 100, 3, 0, 2, 2, 0, 5, 1, 1]), (20, [4, 2], [50, 1, 1, 1005, 1002, 0, 2, 1, 0, 3, 1, 2, 4, 3, 2, 1, 5, 0, 1]), (24, [0, 2], []), (101, [2, 7], [101]), (7, [4, 6], [3]), (20, [2, 4], [60, 2, 4, 441, 5, 100, 2, 95, 102, 104])], [], [], [(20, [2], [60, 2, 4, 443, 5, 100, 2, 95, 102, 104]), (20, [2, 8], [60, 1, 1, 444, 101, 102]), (20, [2], [50, 3, 1, 107, 100, 5, 2, 1, 3, 2, 0, 107, 4, 11, 5, 3, 2, 0, 100, 3, 0, 2, 2, 0, 5, 3, 0, 2, 4, 3, 2, 0, 5, 0, 1])], [], [(4, 6, 0, 4294967296)])
theorem oo_Mo_list_1 {kA : Nat → ClassId} : or_ok PRD kA GG o_Mo_list_1 := by
  refine or_mk fun A ta ws vs hD hth hl => ?_
  intro t0 r0 t4 k4 t6 k6 t7 k7 t8 k8 d0 f0 f1 f4 f5 f7 ta1 w1 le1 s1 f9 f12
  replace f0 := shm_121 f0
  replace f1 := shm_122 f1
  replace f4 := shm_1706 f4
  replace f5 := shm_1707 f5
  replace f7 := shm_5 f7
  have s1 : (∀ b j, w_el ws b j = w_el w1 b j) ∧ ∀ b j, w_fd ws b j = if b = v_ad (n_v vs 2) ∧ j = 101 then n_v vs 7 else w_fd w1 b j := s1.2
  replace f9 := shm_2 f9
  replace f12 := shm_1705 f12
  have q2 : n_v vs 2 = n_v vs 0 := f7.symm
  simp only [q2] at f0 f1 f4 f5
  rw [q2] at s1
  simp only [q2] at f12
  have ar_0_2_1 : w_ar w1 (n_v vs 0) 2 = w_ar ws (n_v vs 0) 2 := by show v_ad (w_fd w1 _ _) = v_ad (w_fd ws _ _); rw [s1.2, if_neg (fun e => absurd e.2 (by decide))]
  have ar_0_95_1 : w_ar w1 (n_v vs 0) 95 = w_ar ws (n_v vs 0) 95 := by show v_ad (w_fd w1 _ _) = v_ad (w_fd ws _ _); rw [s1.2, if_neg (fun e => absurd e.2 (by decide))]
  have ar_0_102_1 : w_ar w1 (n_v vs 0) 102 = w_ar ws (n_v vs 0) 102 := by show v_ad (w_fd w1 _ _) = v_ad (w_fd ws _ _); rw [s1.2, if_neg (fun e => absurd e.2 (by decide))]
  have ar_0_104_1 : w_ar w1 (n_v vs 0) 104 = w_ar ws (n_v vs 0) 104 := by show v_ad (w_fd w1 _ _) = v_ad (w_fd ws _ _); rw [s1.2, if_neg (fun e => absurd e.2 (by decide))]
  have ar_0_108_1 : w_ar w1 (n_v vs 0) 108 = w_ar ws (n_v vs 0) 108 := by show v_ad (w_fd w1 _ _) = v_ad (w_fd ws _ _); rw [s1.2, if_neg (fun e => absurd e.2 (by decide))]
  have ar_0_109_1 : w_ar w1 (n_v vs 0) 109 = w_ar ws (n_v vs 0) 109 := by show v_ad (w_fd w1 _ _) = v_ad (w_fd ws _ _); rw [s1.2, if_neg (fun e => absurd e.2 (by decide))]
  simp only [ar_0_2_1, ar_0_95_1, ar_0_102_1, ar_0_104_1, ar_0_108_1, ar_0_109_1] at f12
  have fe_0_5_1 : w_fi ws (n_v vs 0) 5 = w_fi w1 (n_v vs 0) 5 := by show v_iv (w_fd _ _ _) = v_iv (w_fd _ _ _); rw [s1.2, if_neg (fun e => absurd e.2 (by decide))]
  have fe_0_100_1 : w_fi ws (n_v vs 0) 100 = w_fi w1 (n_v vs 0) 100 := by show v_iv (w_fd _ _ _) = v_iv (w_fd _ _ _); rw [s1.2, if_neg (fun e => absurd e.2 (by decide))]
  have fe_0_101_1 : w_fi ws (n_v vs 0) 101 = v_iv (n_v vs 7) := by show v_iv (w_fd _ _ _) = _; rw [s1.2, if_pos ⟨rfl, rfl⟩]
  have fe_0_107_1 : w_fi ws (n_v vs 0) 107 = w_fi w1 (n_v vs 0) 107 := by show v_iv (w_fd _ _ _) = v_iv (w_fd _ _ _); rw [s1.2, if_neg (fun e => absurd e.2 (by decide))]
  have hE_0_2_1 : ∀ j : Int, w_ei ws (w_ar ws (n_v vs 0) 2) j = w_ei w1 (w_ar ws (n_v vs 0) 2) j := fun j => s1.1 _ _
  have hE_0_95_1 : ∀ j : Int, w_ei ws (w_ar ws (n_v vs 0) 95) j = w_ei w1 (w_ar ws (n_v vs 0) 95) j := fun j => s1.1 _ _
  have hE_0_102_1 : ∀ j : Int, w_ei ws (w_ar ws (n_v vs 0) 102) j = w_ei w1 (w_ar ws (n_v vs 0) 102) j := fun j => s1.1 _ _
  have hE_0_104_1 : ∀ j : Int, w_ei ws (w_ar ws (n_v vs 0) 104) j = w_ei w1 (w_ar ws (n_v vs 0) 104) j := fun j => s1.1 _ _
  have hE_0_108_1 : ∀ j : Int, w_ei ws (w_ar ws (n_v vs 0) 108) j = w_ei w1 (w_ar ws (n_v vs 0) 108) j := fun j => s1.1 _ _
  have hE_0_109_1 : ∀ j : Int, w_ei ws (w_ar ws (n_v vs 0) 109) j = w_ei w1 (w_ar ws (n_v vs 0) 109) j := fun j => s1.1 _ _
  have kz_0_100 := fdq_162 hD hth r0
  have kz_0_101 := fdq_125 hD hth r0
  have kz_0_107 := fdq_163 hD hth r0
  have nf0 : fc_1 PRD (20, [2], [60, 2, 4, 443, 5, 100, 2, 95, 102, 104]) ws (vs) := by
    refine ⟨nf_in hl rfl, sgq_1709 ?_⟩
    · show LIF (w_fi ws (n_v vs 2) 5) (w_fi ws (n_v vs 2) 100) (w_ei ws (w_ar ws (n_v vs 2) 2)) (w_ei ws (w_ar ws (n_v vs 2) 95)) (w_ei ws (w_ar ws (n_v vs 2) 102)) (w_ei ws (w_ar ws (n_v vs 2) 104))
      rw [q2]
      exact vc_Mo_list_1_0 (v_iv (n_v vs 4)) (v_iv (n_v vs 6)) (w_ei ws (w_ar ws (n_v vs 0) 2)) (w_fi ws (n_v vs 0) 5) (w_ei ws (w_ar ws (n_v vs 0) 95)) (w_ei ws (w_ar ws (n_v vs 0) 102)) (w_ei ws (w_ar ws (n_v vs 0) 104)) (w_fi ws (n_v vs 0) 100) (w_ei ws (w_ar ws (n_v vs 0) 108)) (w_ei ws (w_ar ws (n_v vs 0) 109)) (w_fi ws (n_v vs 0) 107) (w_ei w1 (w_ar ws (n_v vs 0) 2)) (w_ei w1 (w_ar ws (n_v vs 0) 95)) (w_ei w1 (w_ar ws (n_v vs 0) 102)) (w_ei w1 (w_ar ws (n_v vs 0) 104)) (w_fi w1 (n_v vs 0) 5) (w_fi w1 (n_v vs 0) 100) (w_ei w1 (w_ar ws (n_v vs 0) 108)) (w_ei w1 (w_ar ws (n_v vs 0) 109)) (w_fi w1 (n_v vs 0) 107) k4 k6 d0 f0 f1 f4 f5 f12 fe_0_5_1 fe_0_100_1 fe_0_107_1 hE_0_2_1 hE_0_95_1 hE_0_102_1 hE_0_104_1 hE_0_108_1 hE_0_109_1 kz_0_100 kz_0_107
  have nf1 : fc_1 PRD (20, [2, 8], [60, 1, 1, 444, 101, 102]) ws (vs) := by
    refine ⟨nf_in hl rfl, sgq_1710 ?_⟩
    · show LMF (w_fi ws (n_v vs 2) 101) (w_ei ws (w_ar ws (n_v vs 2) 102)) (v_iv (n_v vs 8))
      rw [q2]
      exact vc_Mo_list_1_1 (v_iv (n_v vs 7)) (v_iv (n_v vs 8)) (w_ei ws (w_ar ws (n_v vs 0) 2)) (w_fi ws (n_v vs 0) 5) (w_ei ws (w_ar ws (n_v vs 0) 95)) (w_ei ws (w_ar ws (n_v vs 0) 102)) (w_ei ws (w_ar ws (n_v vs 0) 104)) (w_fi ws (n_v vs 0) 100) (w_ei ws (w_ar ws (n_v vs 0) 108)) (w_ei ws (w_ar ws (n_v vs 0) 109)) (w_fi ws (n_v vs 0) 107) (w_ei w1 (w_ar ws (n_v vs 0) 2)) (w_ei w1 (w_ar ws (n_v vs 0) 95)) (w_ei w1 (w_ar ws (n_v vs 0) 102)) (w_ei w1 (w_ar ws (n_v vs 0) 104)) (w_fi w1 (n_v vs 0) 5) (w_fi w1 (n_v vs 0) 100) (w_ei w1 (w_ar ws (n_v vs 0) 108)) (w_ei w1 (w_ar ws (n_v vs 0) 109)) (w_fi w1 (n_v vs 0) 107) (w_fi ws (n_v vs 0) 101) k7 k8 fe_0_5_1 fe_0_100_1 fe_0_101_1 fe_0_107_1 hE_0_2_1 hE_0_95_1 hE_0_102_1 hE_0_104_1 hE_0_108_1 hE_0_109_1 kz_0_100 kz_0_101 kz_0_107
  have nf2 : fc_1 PRD (20, [2], [50, 3, 1, 107, 100, 5, 2, 1, 3, 2, 0, 107, 4, 11, 5, 3, 2, 0, 100, 3, 0, 2, 2, 0, 5, 3, 0, 2, 4, 3, 2, 0, 5, 0, 1]) ws (vs) := by
    refine ⟨nf_in hl rfl, sgq_1711 ?_⟩
    · show w_fi ws (n_v vs 2) 107 = ((w_fi ws (n_v vs 2) 100 - w_ei ws (w_ar ws (n_v vs 2) 2) (w_fi ws (n_v vs 2) 5)) + w_ei ws (w_ar ws (n_v vs 2) 2) ((w_fi ws (n_v vs 2) 5 + 1)))
      rw [q2]
      exact vc_Mo_list_1_2 (v_iv (n_v vs 4)) (v_iv (n_v vs 6)) (w_ei ws (w_ar ws (n_v vs 0) 2)) (w_fi ws (n_v vs 0) 5) (w_ei ws (w_ar ws (n_v vs 0) 95)) (w_ei ws (w_ar ws (n_v vs 0) 102)) (w_ei ws (w_ar ws (n_v vs 0) 104)) (w_fi ws (n_v vs 0) 100) (w_ei ws (w_ar ws (n_v vs 0) 108)) (w_ei ws (w_ar ws (n_v vs 0) 109)) (w_fi ws (n_v vs 0) 107) (w_ei w1 (w_ar ws (n_v vs 0) 2)) (w_ei w1 (w_ar ws (n_v vs 0) 95)) (w_ei w1 (w_ar ws (n_v vs 0) 102)) (w_ei w1 (w_ar ws (n_v vs 0) 104)) (w_fi w1 (n_v vs 0) 5) (w_fi w1 (n_v vs 0) 100) (w_ei w1 (w_ar ws (n_v vs 0) 108)) (w_ei w1 (w_ar ws (n_v vs 0) 109)) (w_fi w1 (n_v vs 0) 107) k4 k6 d0 f0 f1 f4 f5 f9 fe_0_5_1 fe_0_100_1 fe_0_107_1 hE_0_2_1 hE_0_95_1 hE_0_102_1 hE_0_104_1 hE_0_108_1 hE_0_109_1 kz_0_100 kz_0_107
  refine ⟨(fun _ h => (by cases h)), [], trivial, ?_, (fun _ h => (by cases h))⟩
  rw [List.append_nil]
  exact List.forall_mem_cons.mpr ⟨⟨show (20 : Nat) < 100 from by decide, nf0⟩, List.forall_mem_cons.mpr ⟨⟨show (20 : Nat) < 100 from by decide, nf1⟩, List.forall_mem_cons.mpr ⟨⟨show (20 : Nat) < 100 from by decide, nf2⟩, (fun _ h => (by cases h))⟩⟩⟩
set_option maxHeartbeats 4000000 in
theorem vc_Mo_list_2_r0 (x4 : Int) (x5 : Int) (items_0 : Int) (all_0 : Int → Int) (r_0 : Int) (turned_0 : Int → Int) (itemLayer_0 : Int → Int) (firstJoint_0 : Int → Int) (k4 : 0 ≤ x4 ∧ x4 ≤ 47) (k5 : 0 ≤ x5 ∧ x5 ≤ 75) (g0 : x5 = items_0) (f5 : LIC (r_0) (items_0) (all_0) (turned_0) (itemLayer_0) (firstJoint_0) (x4)) (kz_0_100 : 0 ≤ items_0 ∧ items_0 ≤ 76) : 0 ≤ x5 ∧ x5 ≤ 72 := by
  try simp only [Int.add_zero] at *
  first
    | omega
    | (have h := lid_bd ‹LID _ _ _ _ _ _ _ _ _›; omega)
    | (have h := ‹LYJ _ _ _ _›.1.1.1; omega)
    | (have h := (lic_bd ‹LIC _ _ _ _ _ _ _›).1; omega)
    | (have h := (lic_bd ‹LIF _ _ _ _ _ _›).1; omega)
    | (have h := ‹LSA _ _ _ _ _ _ _ _ _ _›.2.1; omega)
    | (have h := lli_bd ‹LLI _ _ _ _ _ _›; have h2 := ‹LSA _ _ _ _ _ _ _ _ _ _›.2.1; omega)
def o_Mo_list_2 : or_T := (29, 8, [(0, (2, 0, 0, [165])), (2, (2, 0, 0, [165])), (4, (0, 0, 47, [])), (5, (0, 0, 75, [])), (6, (0, 1, 48, [])), (7, (2, 0, 0, [237]))], [(9, [5, 2], [100]), (9, [7, 2], [104]), (7, [4, 6], [2]), (20, [6, 2], [30, 0, 1, 0, 0, -1, 3, 2005001]), (20, [6, 2], [30, 0, -1, 0, 0, 1, 3, 2005001]), (20, [2, 4], [60, 2, 4, 441, 5, 100, 2, 95, 102, 104]), (20, [2], [60, 3, 4, 439, 5, 107, 100, 2, 102, 108, 109]), (20, [2, 4], [50, 3, 1, 107, 100, 5, 2, 1, 3, 2, 0, 107, 4, 11, 5, 3, 2, 0, 100, 3, 0, 2, 2, 0, 5, 1, 1]), (20, [4, 2], [50, 1, 1, 1005, 1002, 0, 2, 1, 0, 3, 1, 2, 4, 3, 2, 1, 5, 0, 1]), (20, [2], [50, 1, 1, 5, 2, 0, 2, 0, 0, 3, 0, 2, 2, 0, 5]), (24, [0, 2], [])], [(5, (0, 0, 72, []))], [], [], [], [(4, 6, -4294967296, -1)])
theorem oo_Mo_list_2 {kA : Nat → ClassId} : or_ok PRD kA GG o_Mo_list_2 := by
  refine or_mk fun A ta ws vs hD hth hl => ?_
  intro t0 r0 t2 r2 t4 k4 t5 k5 t6 k6 t7 r7 d0 f0 f1 f2 f3 f4 f5 f6 f7 f8 f9 f10
  replace f0 := shm_1555 f0
  replace f5 := shm_1705 f5
  replace f10 := shm_5 f10
  have q2 : n_v vs 2 = n_v vs 0 := f10.symm
  simp only [q2] at f0 f5
  have g0 : v_iv (n_v vs 5) = w_fi ws (n_v vs 0) 100 := congrArg v_iv f0
  have kz_0_100 := fdq_162 hD hth r0
  have hrf0 : 0 ≤ v_iv (n_v vs 5) ∧ v_iv (n_v vs 5) ≤ 72 := vc_Mo_list_2_r0 (v_iv (n_v vs 4)) (v_iv (n_v vs 5)) (w_fi ws (n_v vs 0) 100) (w_ei ws (w_ar ws (n_v vs 0) 2)) (w_fi ws (n_v vs 0) 5) (w_ei ws (w_ar ws (n_v vs 0) 95)) (w_ei ws (w_ar ws (n_v vs 0) 102)) (w_ei ws (w_ar ws (n_v vs 0) 104)) k4 k5 g0 f5 kz_0_100
  have rf5 : tv_ok ta (0, 0, 72, []) (n_v vs 5) := tv_in t5 (by first | omega | grind) (by first | omega | grind)
  refine ⟨List.forall_mem_cons.mpr ⟨rf5, (fun _ h => (by cases h))⟩, [], trivial, ?_, (fun _ h => (by cases h))⟩
  rw [List.append_nil]
  exact (fun _ h => (by cases h))
