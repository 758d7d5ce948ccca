
def o_Mo_across2_9 : or_T := (167, 21, [(0, (2, 0, 0, [165])), (1, (2, 0, 0, [165])), (2, (0, 0, 129, [])), (3, (0, 1, 130, [])), (4, (2, 0, 0, [240])), (5, (0, 0, 75, [])), (6, (0, 0, 24, [])), (8, (2, 0, 0, [241])), (9, (0, 0, 75, [])), (10, (0, 0, 24, [])), (13, (0, 0, 75, [])), (15, (0, 0, 75, [])), (16, (0, 0, 75, []))], [(10, [16, 8, 2], []), (9, [8, 1], [109]), (10, [15, 4, 2], []), (9, [4, 1], [108]), (10, [13, 4, 2], []), (7, [9, 10], [3]), (20, [10, 1], [30, 0, 1, 0, 0, -1, 3, 2005000]), (20, [10, 1], [30, 0, -1, 0, 0, 1, 3, 2005000]), (10, [9, 8, 2], []), (7, [5, 6], [3]), (20, [6, 1], [30, 0, 1, 0, 0, -1, 3, 2005000]), (20, [6, 1], [30, 0, -1, 0, 0, 1, 3, 2005000]), (10, [5, 4, 2], []), (7, [2, 3], [2]), (9, [3, 1], [107]), (20, [1], [60, 4, 6, 445, 5, 100, 101, 107, 2, 95, 102, 104, 108, 109]), (20, [1], [60, 2, 3, 448, 100, 101, 102, 105, 106]), (20, [1], [60, 1, 1, 197, 5, 2]), (20, [1], [50, 2, 0, 79, 100, 1, 3, 2, 0, 79, 2, 0, 100]), (20, [1], [60, 2, 4, 456, 79, 80, 83, 84, 85, 86]), (20, [1, 2], [50, 1, 0, 80, 1, 3, 2, 0, 80, 1, 1]), (20, [1], [50, 1, 0, 81, 1, 3, 2, 0, 81, 0, 0]), (24, [0, 1], [])], [], [(0, 0, 199, [])], [(23, [21, 2], [0, 1, -1]), (23, [21, 2], [0, -1, 1]), (20, [1, 21], [50, 1, 0, 80, 1, 3, 2, 0, 80, 1, 1]), (20, [1], [60, 2, 4, 456, 79, 80, 83, 84, 85, 86]), (20, [15, 1], [50, 1, 0, 1079, 2, 6, 0, 2, 0, 0, 1, 0, 0, 6, 4, 2, 1, 0, 0, 1, 2, 1, 79]), (20, [16, 1], [50, 1, 0, 1079, 2, 6, 0, 2, 0, 0, 1, 0, 0, 6, 4, 2, 1, 0, 0, 1, 2, 1, 79])], [], [(9, 10, 0, 4294967296), (5, 6, 0, 4294967296), (2, 3, -4294967296, -1)])
theorem oo_Mo_across2_9 {kA : Nat → ClassId} : or_ok PRD kA GG o_Mo_across2_9 := by
  refine or_mk fun A ta ws vs hD hth hl => ?_
  intro t0 r0 t1 r1 t2 k2 t3 k3 t4 r4 t5 k5 t6 k6 t8 r8 t9 k9 t10 k10 t13 k13 t15 k15 t16 k16 d0 d1 d2 f0 f1 f2 f3 f4 f5 f6 f7 f8 f9 f10 f11 f12 f13 f14 f15 f16 f17 f18 f19 f20 f21 f22
  replace f0 := shm_107 f0
  replace f1 := shm_632 f1
  replace f2 := shm_107 f2
  replace f3 := shm_628 f3
  replace f14 := shm_627 f14
  replace f15 := shm_674 f15
  replace f18 := shm_1944 f18
  replace f19 := shm_558 f19
  replace f20 := shm_557 f20
  replace f22 := shm_5 f22
  have q1 : n_v vs 1 = n_v vs 0 := f22.symm
  simp only [q1] at f1 f3 f14 f15 f18 f19 f20
  have ad_8 : v_ad (n_v vs 8) = w_ar ws (n_v vs 0) 109 := congrArg v_ad f1
  have ad_4 : v_ad (n_v vs 4) = w_ar ws (n_v vs 0) 108 := congrArg v_ad f3
  simp only [ad_8] at f0
  have h0 : v_iv (n_v vs 16) = w_ei ws (w_ar ws (n_v vs 0) 109) (v_iv (n_v vs 2)) := f0
  simp only [ad_4] at f2
  have h2 : v_iv (n_v vs 15) = w_ei ws (w_ar ws (n_v vs 0) 108) (v_iv (n_v vs 2)) := f2
  have g14 : v_iv (n_v vs 3) = w_fi ws (n_v vs 0) 107 := congrArg v_iv f14
  have kz_0_79 := fdq_147 hD hth r0
  have kz_0_80 := fdq_131 hD hth r0
  have kz_0_100 := fdq_162 hD hth r0
  have kz_0_101 := fdq_125 hD hth r0
  have kz_0_107 := fdq_163 hD hth r0
  obtain ⟨x, ex, hx⟩ := iv_ex (ta := ta) (lo := 0) (hi := 199) (z := v_iv (n_v vs 2)) (by omega) (by omega) (by omega) (by omega)
  have ex2 : v_iv (Value.int x) = v_iv (n_v vs 2) := ex
  have ex3 : 0 ≤ v_iv (Value.int x) ∧ v_iv (Value.int x) ≤ 199 := tv_rng hx
  have e_1 : n_v (vs ++ [Value.int x]) 1 = n_v vs 1 := n_v_old (by rw [hl]; decide)
  have e_2 : n_v (vs ++ [Value.int x]) 2 = n_v vs 2 := n_v_old (by rw [hl]; decide)
  have e_15 : n_v (vs ++ [Value.int x]) 15 = n_v vs 15 := n_v_old (by rw [hl]; decide)
  have e_16 : n_v (vs ++ [Value.int x]) 16 = n_v vs 16 := n_v_old (by rw [hl]; decide)
  have e_21 : n_v (vs ++ [Value.int x]) 21 = Value.int x := n_v_new hl
  have nf0 : fc_1 PRD (23, [21, 2], [0, 1, -1]) ws (vs ++ [Value.int x]) := by
    refine ⟨nf_inA hl rfl, sgq_7 ?_⟩
    · show 1 * v_iv (n_v (vs ++ [Value.int x]) 21) + ((-1) * v_iv (n_v (vs ++ [Value.int x]) 2) + 0) ≤ 0
      simp only [e_2, e_21]
      exact vc_Mo_across2_9_0 (v_iv (n_v vs 2)) (v_iv (n_v vs 15)) (v_iv (n_v vs 16)) (w_fi ws (n_v vs 0) 80) (v_iv (Value.int x)) k2 f20 kz_0_80 ex2
  have nf1 : fc_1 PRD (23, [21, 2], [0, -1, 1]) ws (vs ++ [Value.int x]) := by
    refine ⟨nf_inA hl rfl, sgq_22 ?_⟩
    · show (-1) * v_iv (n_v (vs ++ [Value.int x]) 21) + (1 * v_iv (n_v (vs ++ [Value.int x]) 2) + 0) ≤ 0
      simp only [e_2, e_21]
      exact vc_Mo_across2_9_1 (v_iv (n_v vs 2)) (v_iv (n_v vs 15)) (v_iv (n_v vs 16)) (w_fi ws (n_v vs 0) 80) (v_iv (Value.int x)) k2 f20 kz_0_80 ex2
  have nf2 : fc_1 PRD (20, [1, 21], [50, 1, 0, 80, 1, 3, 2, 0, 80, 1, 1]) ws (vs ++ [Value.int x]) := by
    refine ⟨nf_inA hl rfl, sgq_557 ?_⟩
    · show w_fi ws (n_v (vs ++ [Value.int x]) 1) 80 = v_iv (n_v (vs ++ [Value.int x]) 21)
      simp only [e_1, e_21, q1]
      exact vc_Mo_across2_9_2 (v_iv (n_v vs 2)) (v_iv (n_v vs 15)) (v_iv (n_v vs 16)) (w_fi ws (n_v vs 0) 80) (v_iv (Value.int x)) k2 f20 kz_0_80 ex2
  have nf3 : fc_1 PRD (20, [1], [60, 2, 4, 456, 79, 80, 83, 84, 85, 86]) ws (vs ++ [Value.int x]) := by
    refine ⟨nf_inA hl rfl, sgq_558 ?_⟩
    · show PCQ (w_fi ws (n_v (vs ++ [Value.int x]) 1) 79) (w_fi ws (n_v (vs ++ [Value.int x]) 1) 80) (w_ei ws (w_ar ws (n_v (vs ++ [Value.int x]) 1) 83)) (w_ei ws (w_ar ws (n_v (vs ++ [Value.int x]) 1) 84)) (w_ei ws (w_ar ws (n_v (vs ++ [Value.int x]) 1) 85)) (w_ei ws (w_ar ws (n_v (vs ++ [Value.int x]) 1) 86))
      simp only [e_1, q1]
      exact vc_Mo_across2_9_3 (w_fi ws (n_v vs 0) 79) (w_ei ws (w_ar ws (n_v vs 0) 83)) (w_ei ws (w_ar ws (n_v vs 0) 84)) (w_ei ws (w_ar ws (n_v vs 0) 85)) (w_ei ws (w_ar ws (n_v vs 0) 86)) (w_fi ws (n_v vs 0) 80) f19 kz_0_79 kz_0_80
  have nf4 : fc_1 PRD (20, [15, 1], [50, 1, 0, 1079, 2, 6, 0, 2, 0, 0, 1, 0, 0, 6, 4, 2, 1, 0, 0, 1, 2, 1, 79]) ws (vs ++ [Value.int x]) := by
    refine ⟨nf_inA hl rfl, sgq_559 ?_⟩
    · show (0 ≤ v_iv (n_v (vs ++ [Value.int x]) 15)) ∧ ((v_iv (n_v (vs ++ [Value.int x]) 15) + 1) ≤ w_fi ws (n_v (vs ++ [Value.int x]) 1) 79)
      simp only [e_1, e_15, q1]
      exact vc_Mo_across2_9_4 (v_iv (n_v vs 2)) (v_iv (n_v vs 3)) (v_iv (n_v vs 15)) (v_iv (n_v vs 16)) (w_ei ws (w_ar ws (n_v vs 0) 109)) (w_ei ws (w_ar ws (n_v vs 0) 108)) (w_ei ws (w_ar ws (n_v vs 0) 2)) (w_fi ws (n_v vs 0) 5) (w_fi ws (n_v vs 0) 107) (w_ei ws (w_ar ws (n_v vs 0) 95)) (w_ei ws (w_ar ws (n_v vs 0) 102)) (w_ei ws (w_ar ws (n_v vs 0) 104)) (w_fi ws (n_v vs 0) 100) (w_fi ws (n_v vs 0) 101) (w_fi ws (n_v vs 0) 79) (w_fi ws (n_v vs 0) 80) (v_iv (Value.int x)) k2 k3 k15 d2 h2 g14 f15 f18 f20 kz_0_79 kz_0_80 kz_0_100 kz_0_101 kz_0_107 ex2
  have nf5 : fc_1 PRD (20, [16, 1], [50, 1, 0, 1079, 2, 6, 0, 2, 0, 0, 1, 0, 0, 6, 4, 2, 1, 0, 0, 1, 2, 1, 79]) ws (vs ++ [Value.int x]) := by
    refine ⟨nf_inA hl rfl, sgq_559 ?_⟩
    · show (0 ≤ v_iv (n_v (vs ++ [Value.int x]) 16)) ∧ ((v_iv (n_v (vs ++ [Value.int x]) 16) + 1) ≤ w_fi ws (n_v (vs ++ [Value.int x]) 1) 79)
      simp only [e_1, e_16, q1]
      exact vc_Mo_across2_9_5 (v_iv (n_v vs 2)) (v_iv (n_v vs 3)) (v_iv (n_v vs 15)) (v_iv (n_v vs 16)) (w_ei ws (w_ar ws (n_v vs 0) 109)) (w_ei ws (w_ar ws (n_v vs 0) 108)) (w_ei ws (w_ar ws (n_v vs 0) 2)) (w_fi ws (n_v vs 0) 5) (w_fi ws (n_v vs 0) 107) (w_ei ws (w_ar ws (n_v vs 0) 95)) (w_ei ws (w_ar ws (n_v vs 0) 102)) (w_ei ws (w_ar ws (n_v vs 0) 104)) (w_fi ws (n_v vs 0) 100) (w_fi ws (n_v vs 0) 101) (w_fi ws (n_v vs 0) 79) (w_fi ws (n_v vs 0) 80) (v_iv (Value.int x)) k2 k3 k16 d2 h0 g14 f15 f18 f20 kz_0_79 kz_0_80 kz_0_100 kz_0_101 kz_0_107 ex2
  exact ⟨(fun _ h => (by cases h)), [Value.int x], ag_one hx, List.forall_mem_cons.mpr ⟨⟨show (23 : Nat) < 100 from by decide, nf0⟩, List.forall_mem_cons.mpr ⟨⟨show (23 : Nat) < 100 from by decide, nf1⟩, List.forall_mem_cons.mpr ⟨⟨show (20 : Nat) < 100 from by decide, nf2⟩, List.forall_mem_cons.mpr ⟨⟨show (20 : Nat) < 100 from by decide, nf3⟩, List.forall_mem_cons.mpr ⟨⟨show (20 : Nat) < 100 from by decide, nf4⟩, List.forall_mem_cons.mpr ⟨⟨show (20 : Nat) < 100 from by decide, nf5⟩, (fun _ h => (by cases h))⟩⟩⟩⟩⟩⟩, (fun _ h => (by cases h))⟩
set_option maxHeartbeats 4000000 in
theorem vc_Mo_across2_10_0 (x2 : Int) (x15 : Int) (x16 : Int) (x21 : Int) (x22 : Int) (costMany_0 : Int) (k2 : 0 ≤ x2 ∧ x2 ≤ 129) (k21 : 0 ≤ x21 ∧ x21 ≤ 199) (k22 : 1 ≤ x22 ∧ x22 ≤ 130) (d0 : x2 + 1 ≤ x22 ∧ x22 ≤ x2 + 1) (f1 : 1 * x21 + ((-1) * x2 + 0) ≤ 0) (f2 : (-1) * x21 + (1 * x2 + 0) ≤ 0) (f15 : costMany_0 = (x21 + 1)) (kz_0_80 : 0 ≤ costMany_0 ∧ costMany_0 ≤ 200) : costMany_0 = x22 := by
  try simp only [Int.add_zero] at *
  first
    | omega
    | (have h := ‹LSA _ _ _ _ _ _ _ _ _ _›.2.1; omega)
def o_Mo_across2_10 : or_T := (20, 23, [(0, (2, 0, 0, [165])), (1, (2, 0, 0, [165])), (2, (0, 0, 129, [])), (3, (0, 1, 130, [])), (5, (0, 0, 75, [])), (6, (0, 0, 24, [])), (9, (0, 0, 75, [])), (10, (0, 0, 24, [])), (15, (0, 0, 75, [])), (16, (0, 0, 75, [])), (21, (0, 0, 199, [])), (22, (0, 1, 130, []))], [(6, [22, 2], [1]), (23, [21, 2], [0, 1, -1]), (23, [21, 2], [0, -1, 1]), (20, [15, 1], [50, 1, 0, 1079, 2, 6, 0, 2, 0, 0, 1, 0, 0, 6, 4, 2, 1, 0, 0, 1, 2, 1, 79]), (20, [16, 1], [50, 1, 0, 1079, 2, 6, 0, 2, 0, 0, 1, 0, 0, 6, 4, 2, 1, 0, 0, 1, 2, 1, 79]), (20, [10, 1], [30, 0, 1, 0, 0, -1, 3, 2005000]), (20, [10, 1], [30, 0, -1, 0, 0, 1, 3, 2005000]), (20, [6, 1], [30, 0, 1, 0, 0, -1, 3, 2005000]), (20, [6, 1], [30, 0, -1, 0, 0, 1, 3, 2005000]), (20, [1], [60, 4, 6, 445, 5, 100, 101, 107, 2, 95, 102, 104, 108, 109]), (20, [1], [60, 2, 3, 448, 100, 101, 102, 105, 106]), (20, [1], [60, 1, 1, 197, 5, 2]), (20, [1], [50, 2, 0, 79, 100, 1, 3, 2, 0, 79, 2, 0, 100]), (20, [1], [50, 1, 0, 81, 1, 3, 2, 0, 81, 0, 0]), (24, [0, 1], []), (20, [1, 21], [50, 1, 0, 80, 1, 3, 2, 0, 80, 4, 2, 1, 1, 0, 1]), (20, [1], [60, 2, 4, 456, 79, 80, 83, 84, 85, 86]), (102, [21], [25274950000453724807500326644080903756534822896131786701034634608640, 165080]), (23, [21, 2], [0, 1, -1]), (23, [21, 2], [0, -1, 1]), (7, [9, 10], [3]), (7, [5, 6], [3]), (7, [2, 3], [2])], [], [], [(20, [1, 22], [50, 1, 0, 80, 1, 3, 2, 0, 80, 1, 1])], [], [(22, 2, 1, 1), (22, 3, -4294967296, 0), (9, 10, 0, 4294967296), (5, 6, 0, 4294967296), (2, 3, -4294967296, -1)])
theorem oo_Mo_across2_10 {kA : Nat → ClassId} : or_ok PRD kA GG o_Mo_across2_10 := by
  refine or_mk fun A ta ws vs hD hth hl => ?_
  intro t0 r0 t1 r1 t2 k2 t3 k3 t5 k5 t6 k6 t9 k9 t10 k10 t15 k15 t16 k16 t21 k21 t22 k22 d0 d1 d2 d3 d4 f0 f1 f2 f3 f4 f5 f6 f7 f8 f9 f10 f11 f12 f13 f14 f15 f16 ta1 w1 le1 s1 f18 f19 f20 f21 f22
  replace f1 := shm_7 f1
  replace f2 := shm_22 f2
  replace f14 := shm_5 f14
  replace f15 := shm_563 f15
  have q1 : n_v vs 1 = n_v vs 0 := f14.symm
  simp only [q1] at f15
  have kz_0_80 := fdq_131 hD hth r0
  have nf0 : fc_1 PRD (20, [1, 22], [50, 1, 0, 80, 1, 3, 2, 0, 80, 1, 1]) ws (vs) := by
    refine ⟨nf_in hl rfl, sgq_557 ?_⟩
    · show w_fi ws (n_v vs 1) 80 = v_iv (n_v vs 22)
      rw [q1]
      exact vc_Mo_across2_10_0 (v_iv (n_v vs 2)) (v_iv (n_v vs 15)) (v_iv (n_v vs 16)) (v_iv (n_v vs 21)) (v_iv (n_v vs 22)) (w_fi ws (n_v vs 0) 80) k2 k21 k22 d0 f1 f2 f15 kz_0_80
  refine ⟨(fun _ h => (by cases h)), [], trivial, ?_, (fun _ h => (by cases h))⟩
  rw [List.append_nil]
  exact List.forall_mem_cons.mpr ⟨⟨show (20 : Nat) < 100 from by decide, nf0⟩, (fun _ h => (by cases h))⟩
set_option maxHeartbeats 4000000 in
theorem vc_Mo_across2_11_0 (x2 : Int) (layerMany_0 : Int) (all_0 : Int → Int) (turned_0 : Int → Int) (itemLayer_0 : Int → Int) (firstJoint_0 : Int → Int) (lineA_0 : Int → Int) (lineB_0 : Int → Int) (r_0 : Int) (items_0 : Int) (lines_0 : Int) (layerSize_0 : Int → Int) (layerItem_0 : Int → Int) (pointMany_0 : Int) (costA_0 : Int → Int) (costB_0 : Int → Int) (costW_0 : Int → Int) (costPlain_0 : Int → Int) (costMany_0 : Int) (apartA_0 : Int → Int) (apartB_0 : Int → Int) (apart_0 : Int → Int) (apartMany_0 : Int) (k2 : 0 ≤ x2 ∧ x2 ≤ 76) (f2 : LSA (r_0) (items_0) (layerMany_0) (lines_0) (all_0) (turned_0) (itemLayer_0) (firstJoint_0) (lineA_0) (lineB_0)) (f3 : LSB (items_0) (layerMany_0) (itemLayer_0) (layerSize_0) (layerItem_0)) (f5 : pointMany_0 = items_0) (f6 : PCQ (pointMany_0) (costMany_0) (costA_0) (costB_0) (costW_0) (costPlain_0)) (f8 : PAL1 (apartMany_0) (layerMany_0) (layerSize_0) (layerItem_0) (apartA_0) (apartB_0) (apart_0) (x2)) (f9 : apartMany_0 ≤ 76) (kz_0_79 : 0 ≤ pointMany_0 ∧ pointMany_0 ≤ 76) (kz_0_80 : 0 ≤ costMany_0 ∧ costMany_0 ≤ 200) (kz_0_81 : 0 ≤ apartMany_0 ∧ apartMany_0 ≤ 200) (kz_0_100 : 0 ≤ items_0 ∧ items_0 ≤ 76) (kz_0_101 : 0 ≤ layerMany_0 ∧ layerMany_0 ≤ 76) (kz_0_107 : 0 ≤ lines_0 ∧ lines_0 ≤ 130) : PBR (pointMany_0) (costMany_0) (apartMany_0) (costA_0) (costB_0) (costW_0) (costPlain_0) (apartA_0) (apartB_0) (apart_0) := by
  exact pbr_across ‹LSA _ _ _ _ _ _ _ _ _ _› ‹LSB _ _ _ _ _› (by omega) ‹PCQ _ _ _ _ _ _› (by omega) (by omega) ‹PAL1 _ _ _ _ _ _ _ _›
def o_Mo_across2_11 : or_T := (259, 4, [(0, (2, 0, 0, [165])), (2, (0, 0, 76, []))], [(20, [1], [60, 4, 6, 445, 5, 100, 101, 107, 2, 95, 102, 104, 108, 109]), (20, [1], [60, 2, 3, 448, 100, 101, 102, 105, 106]), (20, [1], [50, 2, 0, 79, 100, 1, 3, 2, 0, 79, 2, 0, 100]), (20, [1], [60, 2, 4, 456, 79, 80, 83, 84, 85, 86]), (20, [1, 2], [60, 2, 5, 468, 81, 101, 105, 106, 87, 88, 89]), (20, [1], [50, 1, 0, 81, 0, 3, 2, 0, 81, 0, 76]), (24, [0, 1], [])], [], [], [(20, [1], [60, 3, 7, 396, 79, 80, 81, 83, 84, 85, 86, 87, 88, 89])], [], [])
theorem oo_Mo_across2_11 {kA : Nat → ClassId} : or_ok PRD kA GG o_Mo_across2_11 := by
  refine or_mk fun A ta ws vs hD hth hl => ?_
  intro t0 r0 t2 k2 f2 f3 f5 f6 f8 f9 f10
  replace f2 := shm_674 f2
  replace f3 := shm_675 f3
  replace f5 := shm_1944 f5
  replace f6 := shm_558 f6
  replace f8 := shm_1947 f8
  replace f9 := shm_1948 f9
  replace f10 := shm_5 f10
  have q1 : n_v vs 1 = n_v vs 0 := f10.symm
  simp only [q1] at f2 f3 f5 f6 f8 f9
  have kz_0_79 := fdq_147 hD hth r0
  have kz_0_80 := fdq_131 hD hth r0
  have kz_0_81 := fdq_124 hD hth r0
  have kz_0_100 := fdq_162 hD hth r0
  have kz_0_101 := fdq_125 hD hth r0
  have kz_0_107 := fdq_163 hD hth r0
  have nf0 : fc_1 PRD (20, [1], [60, 3, 7, 396, 79, 80, 81, 83, 84, 85, 86, 87, 88, 89]) ws (vs) := by
    refine ⟨nf_in hl rfl, sgq_1236 ?_⟩
    · show PBR (w_fi ws (n_v vs 1) 79) (w_fi ws (n_v vs 1) 80) (w_fi ws (n_v vs 1) 81) (w_ei ws (w_ar ws (n_v vs 1) 83)) (w_ei ws (w_ar ws (n_v vs 1) 84)) (w_ei ws (w_ar ws (n_v vs 1) 85)) (w_ei ws (w_ar ws (n_v vs 1) 86)) (w_ei ws (w_ar ws (n_v vs 1) 87)) (w_ei ws (w_ar ws (n_v vs 1) 88)) (w_ei ws (w_ar ws (n_v vs 1) 89))
      rw [q1]
      exact vc_Mo_across2_11_0 (v_iv (n_v vs 2)) (w_fi ws (n_v vs 0) 101) (w_ei ws (w_ar ws (n_v vs 0) 2)) (w_ei ws (w_ar ws (n_v vs 0) 95)) (w_ei ws (w_ar ws (n_v vs 0) 102)) (w_ei ws (w_ar ws (n_v vs 0) 104)) (w_ei ws (w_ar ws (n_v vs 0) 108)) (w_ei ws (w_ar ws (n_v vs 0) 109)) (w_fi ws (n_v vs 0) 5) (w_fi ws (n_v vs 0) 100) (w_fi ws (n_v vs 0) 107) (w_ei ws (w_ar ws (n_v vs 0) 105)) (w_ei ws (w_ar ws (n_v vs 0) 106)) (w_fi ws (n_v vs 0) 79) (w_ei ws (w_ar ws (n_v vs 0) 83)) (w_ei ws (w_ar ws (n_v vs 0) 84)) (w_ei ws (w_ar ws (n_v vs 0) 85)) (w_ei ws (w_ar ws (n_v vs 0) 86)) (w_fi ws (n_v vs 0) 80) (w_ei ws (w_ar ws (n_v vs 0) 87)) (w_ei ws (w_ar ws (n_v vs 0) 88)) (w_ei ws (w_ar ws (n_v vs 0) 89)) (w_fi ws (n_v vs 0) 81) k2 f2 f3 f5 f6 f8 f9 kz_0_79 kz_0_80 kz_0_81 kz_0_100 kz_0_101 kz_0_107
  refine ⟨(fun _ h => (by cases h)), [], trivial, ?_, (fun _ h => (by cases h))⟩
  rw [List.append_nil]
  exact List.forall_mem_cons.mpr ⟨⟨show (20 : Nat) < 100 from by decide, nf0⟩, (fun _ h => (by cases h))⟩
set_option maxHeartbeats 4000000 in
theorem vc_Mo_across2_12_0 (costA_0 : Int → Int) (costB_0 : Int → Int) (costW_0 : Int → Int) (costPlain_0 : Int → Int) (apartA_0 : Int → Int) (apartB_0 : Int → Int) (apart_0 : Int → Int) (pointMany_0 : Int) (costMany_0 : Int) (apartMany_0 : Int) (spot_0 : Int → Int) (f10 : RIP (pointMany_0) (costMany_0) (apartMany_0) (spot_0) (costA_0) (costB_0) (costW_0) (costPlain_0) (apartA_0) (apartB_0) (apart_0)) (kz_0_79 : 0 ≤ pointMany_0 ∧ pointMany_0 ≤ 76) (kz_0_80 : 0 ≤ costMany_0 ∧ costMany_0 ≤ 200) (kz_0_81 : 0 ≤ apartMany_0 ∧ apartMany_0 ≤ 200) : RIP (pointMany_0) (costMany_0) (apartMany_0) (spot_0) (costA_0) (costB_0) (costW_0) (costPlain_0) (apartA_0) (apartB_0) (apart_0) := by
  assumption
set_option maxHeartbeats 4000000 in
theorem vc_Mo_across2_12_1 (x2 : Int) (pointMany_0 : Int) (items_0 : Int) (f4 : pointMany_0 = items_0) (kz_0_79 : 0 ≤ pointMany_0 ∧ pointMany_0 ≤ 76) (kz_0_100 : 0 ≤ items_0 ∧ items_0 ≤ 76) : pointMany_0 = items_0 := by
  try simp only [Int.add_zero] at *
  first
    | omega
    | (have h := ‹LSA _ _ _ _ _ _ _ _ _ _›.2.1; omega)
def o_Mo_across2_12 : or_T := (262, 4, [(0, (2, 0, 0, [165]))], [(20, [1], [50, 2, 0, 79, 100, 1, 3, 2, 0, 79, 2, 0, 100]), (24, [0, 1], []), (20, [1], [60, 3, 8, 424, 79, 80, 81, 82, 83, 84, 85, 86, 87, 88, 89])], [], [], [(20, [0], [60, 3, 8, 424, 79, 80, 81, 82, 83, 84, 85, 86, 87, 88, 89]), (20, [0], [50, 2, 0, 79, 100, 1, 3, 2, 0, 79, 2, 0, 100])], [], [])
theorem oo_Mo_across2_12 {kA : Nat → ClassId} : or_ok PRD kA GG o_Mo_across2_12 := by
  refine or_mk fun A ta ws vs hD hth hl => ?_
  intro t0 r0 f4 f9 f10
  replace f4 := shm_1944 f4
  replace f9 := shm_5 f9
  replace f10 := shm_1243 f10
  have q1 : n_v vs 1 = n_v vs 0 := f9.symm
  simp only [q1] at f4 f10
  have kz_0_79 := fdq_147 hD hth r0
  have kz_0_80 := fdq_131 hD hth r0
  have kz_0_81 := fdq_124 hD hth r0
  have kz_0_100 := fdq_162 hD hth r0
  have nf0 : fc_1 PRD (20, [0], [60, 3, 8, 424, 79, 80, 81, 82, 83, 84, 85, 86, 87, 88, 89]) ws (vs) := ⟨nf_in hl rfl, sgq_1243 (vc_Mo_across2_12_0 (w_ei ws (w_ar ws (n_v vs 0) 83)) (w_ei ws (w_ar ws (n_v vs 0) 84)) (w_ei ws (w_ar ws (n_v vs 0) 85)) (w_ei ws (w_ar ws (n_v vs 0) 86)) (w_ei ws (w_ar ws (n_v vs 0) 87)) (w_ei ws (w_ar ws (n_v vs 0) 88)) (w_ei ws (w_ar ws (n_v vs 0) 89)) (w_fi ws (n_v vs 0) 79) (w_fi ws (n_v vs 0) 80) (w_fi ws (n_v vs 0) 81) (w_ei ws (w_ar ws (n_v vs 0) 82)) f10 kz_0_79 kz_0_80 kz_0_81)⟩
  have nf1 : fc_1 PRD (20, [0], [50, 2, 0, 79, 100, 1, 3, 2, 0, 79, 2, 0, 100]) ws (vs) := ⟨nf_in hl rfl, sgq_1944 (vc_Mo_across2_12_1 (v_iv (n_v vs 2)) (w_fi ws (n_v vs 0) 79) (w_fi ws (n_v vs 0) 100) f4 kz_0_79 kz_0_100)⟩
  refine ⟨(fun _ h => (by cases h)), [], trivial, ?_, (fun _ h => (by cases h))⟩
  rw [List.append_nil]
  exact List.forall_mem_cons.mpr ⟨⟨show (20 : Nat) < 100 from by decide, nf0⟩, List.forall_mem_cons.mpr ⟨⟨show (20 : Nat) < 100 from by decide, nf1⟩, (fun _ h => (by cases h))⟩⟩
set_option maxHeartbeats 4000000 in
theorem vc_Mo_across2_13_0 (x2 : Int) (x4 : Int) (layerMany_0 : Int) (layerSize_0 : Int → Int) (layerItem_0 : Int → Int) (apartA_0 : Int → Int) (apartB_0 : Int → Int) (apart_0 : Int → Int) (apartMany_0 : Int) (k2 : 0 ≤ x2 ∧ x2 ≤ 75) (k4 : 1 ≤ x4 ∧ x4 ≤ 1) (f8 : PAL1 (apartMany_0) (layerMany_0) (layerSize_0) (layerItem_0) (apartA_0) (apartB_0) (apart_0) (x2)) (kz_0_81 : 0 ≤ apartMany_0 ∧ apartMany_0 ≤ 200) (kz_0_101 : 0 ≤ layerMany_0 ∧ layerMany_0 ≤ 76) : PAL2 (apartMany_0) (layerMany_0) (layerSize_0) (layerItem_0) (apartA_0) (apartB_0) (apart_0) (x2) (x4) := by
  first
    | exact paq_less ‹PAL1 _ _ _ _ _ _ _ _› (by omega)
    | (have h := ‹PAP _ _ _ _ _ _ _ _ _›
       exact paq_less h (by omega))
set_option maxHeartbeats 4000000 in
theorem vc_Mo_across2_13_1 (x2 : Int) (x3 : Int) (layerMany_0 : Int) (k2 : 0 ≤ x2 ∧ x2 ≤ 75) (k3 : 1 ≤ x3 ∧ x3 ≤ 76) (d0 : x3 + (-4294967296) ≤ x2 ∧ x2 ≤ x3 + (-1)) (g1 : x3 = layerMany_0) (kz_0_101 : 0 ≤ layerMany_0 ∧ layerMany_0 ≤ 76) : (x2 + 1) ≤ layerMany_0 := by
  try simp only [Int.add_zero] at *
  first
    | omega
set_option maxHeartbeats 4000000 in
theorem vc_Mo_across2_13_2 (x4 : Int) (k4 : 1 ≤ x4 ∧ x4 ≤ 1) : 1 ≤ x4 := by
  try simp only [Int.add_zero] at *
  first
    | omega
def o_Mo_across2_13 : or_T := (188, 5, [(0, (2, 0, 0, [165])), (2, (0, 0, 75, [])), (3, (0, 1, 76, [])), (4, (0, 1, 1, []))], [(9, [3, 1], [101]), (20, [1, 2], [60, 2, 5, 468, 81, 101, 105, 106, 87, 88, 89]), (24, [0, 1], [])], [], [], [(20, [1, 2, 4], [60, 2, 5, 469, 81, 101, 105, 106, 87, 88, 89]), (20, [2, 1], [50, 1, 0, 1101, 0, 6, 4, 2, 1, 0, 0, 1, 2, 1, 101]), (20, [4], [50, 0, 0, 0, 2, 0, 1, 1, 0])], [], [(2, 3, -4294967296, -1)])
theorem oo_Mo_across2_13 {kA : Nat → ClassId} : or_ok PRD kA GG o_Mo_across2_13 := by
  refine or_mk fun A ta ws vs hD hth hl => ?_
  intro t0 r0 t2 k2 t3 k3 t4 k4 d0 f1 f8 f10
  replace f1 := shm_617 f1
  replace f8 := shm_1947 f8
  replace f10 := shm_5 f10
  have q1 : n_v vs 1 = n_v vs 0 := f10.symm
  simp only [q1] at f1 f8
  have g1 : v_iv (n_v vs 3) = w_fi ws (n_v vs 0) 101 := congrArg v_iv f1
  have kz_0_81 := fdq_124 hD hth r0
  have kz_0_101 := fdq_125 hD hth r0
  have nf0 : fc_1 PRD (20, [1, 2, 4], [60, 2, 5, 469, 81, 101, 105, 106, 87, 88, 89]) ws (vs) := by
    refine ⟨nf_in hl rfl, sgq_500 ?_⟩
    · show PAL2 (w_fi ws (n_v vs 1) 81) (w_fi ws (n_v vs 1) 101) (w_ei ws (w_ar ws (n_v vs 1) 105)) (w_ei ws (w_ar ws (n_v vs 1) 106)) (w_ei ws (w_ar ws (n_v vs 1) 87)) (w_ei ws (w_ar ws (n_v vs 1) 88)) (w_ei ws (w_ar ws (n_v vs 1) 89)) (v_iv (n_v vs 2)) (v_iv (n_v vs 4))
      rw [q1]
      exact vc_Mo_across2_13_0 (v_iv (n_v vs 2)) (v_iv (n_v vs 4)) (w_fi ws (n_v vs 0) 101) (w_ei ws (w_ar ws (n_v vs 0) 105)) (w_ei ws (w_ar ws (n_v vs 0) 106)) (w_ei ws (w_ar ws (n_v vs 0) 87)) (w_ei ws (w_ar ws (n_v vs 0) 88)) (w_ei ws (w_ar ws (n_v vs 0) 89)) (w_fi ws (n_v vs 0) 81) k2 k4 f8 kz_0_81 kz_0_101
  have nf1 : fc_1 PRD (20, [2, 1], [50, 1, 0, 1101, 0, 6, 4, 2, 1, 0, 0, 1, 2, 1, 101]) ws (vs) := by
    refine ⟨nf_in hl rfl, sgq_1949 ?_⟩
    · show (v_iv (n_v vs 2) + 1) ≤ w_fi ws (n_v vs 1) 101
      rw [q1]
      exact vc_Mo_across2_13_1 (v_iv (n_v vs 2)) (v_iv (n_v vs 3)) (w_fi ws (n_v vs 0) 101) k2 k3 d0 g1 kz_0_101
  have nf2 : fc_1 PRD (20, [4], [50, 0, 0, 0, 2, 0, 1, 1, 0]) ws (vs) := ⟨nf_in hl rfl, sgq_710 (vc_Mo_across2_13_2 (v_iv (n_v vs 4)) k4)⟩
  refine ⟨(fun _ h => (by cases h)), [], trivial, ?_, (fun _ h => (by cases h))⟩
  rw [List.append_nil]
  exact List.forall_mem_cons.mpr ⟨⟨show (20 : Nat) < 100 from by decide, nf0⟩, List.forall_mem_cons.mpr ⟨⟨show (20 : Nat) < 100 from by decide, nf1⟩, List.forall_mem_cons.mpr ⟨⟨show (20 : Nat) < 100 from by decide, nf2⟩, (fun _ h => (by cases h))⟩⟩⟩
set_option maxHeartbeats 4000000 in
theorem vc_Mo_across2_14_0 (x2 : Int) (x3 : Int) (x6 : Int) (layerSize_0 : Int → Int) (layerMany_0 : Int) (layerItem_0 : Int → Int) (apartA_0 : Int → Int) (apartB_0 : Int → Int) (apart_0 : Int → Int) (apartMany_0 : Int) (k2 : 0 ≤ x2 ∧ x2 ≤ 75) (k3 : 1 ≤ x3 ∧ x3 ≤ 76) (k6 : 1 ≤ x6 ∧ x6 ≤ 76) (d0 : x2 + 1 ≤ x6 ∧ x6 ≤ x2 + 1) (f10 : PAL2 (apartMany_0) (layerMany_0) (layerSize_0) (layerItem_0) (apartA_0) (apartB_0) (apart_0) (x2) (x3)) (kz_0_81 : 0 ≤ apartMany_0 ∧ apartMany_0 ≤ 200) (kz_0_101 : 0 ≤ layerMany_0 ∧ layerMany_0 ≤ 76) : PAL1 (apartMany_0) (layerMany_0) (layerSize_0) (layerItem_0) (apartA_0) (apartB_0) (apart_0) (x6) := by
  first
    | exact paq_less ‹PAL2 _ _ _ _ _ _ _ _ _› (by omega)
def o_Mo_across2_14 : or_T := (178, 7, [(0, (2, 0, 0, [165])), (2, (0, 0, 75, [])), (3, (0, 1, 76, [])), (6, (0, 1, 76, []))], [(20, [1, 2, 3], [60, 2, 5, 469, 81, 101, 105, 106, 87, 88, 89]), (24, [0, 1], [])], [], [], [(20, [1, 6], [60, 2, 5, 468, 81, 101, 105, 106, 87, 88, 89])], [], [(6, 2, 1, 1)])
theorem oo_Mo_across2_14 {kA : Nat → ClassId} : or_ok PRD kA GG o_Mo_across2_14 := by
  refine or_mk fun A ta ws vs hD hth hl => ?_
  intro t0 r0 t2 k2 t3 k3 t6 k6 d0 f10 f14
  replace f10 := shm_500 f10
  replace f14 := shm_5 f14
  have q1 : n_v vs 1 = n_v vs 0 := f14.symm
  simp only [q1] at f10
  have kz_0_81 := fdq_124 hD hth r0
  have kz_0_101 := fdq_125 hD hth r0
  have nf0 : fc_1 PRD (20, [1, 6], [60, 2, 5, 468, 81, 101, 105, 106, 87, 88, 89]) ws (vs) := by
    refine ⟨nf_in hl rfl, sgq_1947 ?_⟩
    · show PAL1 (w_fi ws (n_v vs 1) 81) (w_fi ws (n_v vs 1) 101) (w_ei ws (w_ar ws (n_v vs 1) 105)) (w_ei ws (w_ar ws (n_v vs 1) 106)) (w_ei ws (w_ar ws (n_v vs 1) 87)) (w_ei ws (w_ar ws (n_v vs 1) 88)) (w_ei ws (w_ar ws (n_v vs 1) 89)) (v_iv (n_v vs 6))
      rw [q1]
      exact vc_Mo_across2_14_0 (v_iv (n_v vs 2)) (v_iv (n_v vs 3)) (v_iv (n_v vs 6)) (w_ei ws (w_ar ws (n_v vs 0) 105)) (w_fi ws (n_v vs 0) 101) (w_ei ws (w_ar ws (n_v vs 0) 106)) (w_ei ws (w_ar ws (n_v vs 0) 87)) (w_ei ws (w_ar ws (n_v vs 0) 88)) (w_ei ws (w_ar ws (n_v vs 0) 89)) (w_fi ws (n_v vs 0) 81) k2 k3 k6 d0 f10 kz_0_81 kz_0_101
  refine ⟨(fun _ h => (by cases h)), [], trivial, ?_, (fun _ h => (by cases h))⟩
  rw [List.append_nil]
  exact List.forall_mem_cons.mpr ⟨⟨show (20 : Nat) < 100 from by decide, nf0⟩, (fun _ h => (by cases h))⟩
set_option maxHeartbeats 4000000 in
theorem vc_Mo_across2_15_0 (x2 : Int) (x15 : Int) (x16 : Int) (gy : Int) (k2 : 0 ≤ x2 ∧ x2 ≤ 75) (ey2 : gy = x2) : 1 * gy + ((-1) * x2 + 0) ≤ 0 := by
  try simp only [Int.add_zero] at *
  first
    | omega
    | (have h := ‹LSA _ _ _ _ _ _ _ _ _ _›.2.1; omega)
set_option maxHeartbeats 4000000 in
theorem vc_Mo_across2_15_1 (x2 : Int) (x15 : Int) (x16 : Int) (gy : Int) (k2 : 0 ≤ x2 ∧ x2 ≤ 75) (ey2 : gy = x2) : (-1) * gy + (1 * x2 + 0) ≤ 0 := by
  try simp only [Int.add_zero] at *
  first
    | omega
    | (have h := ‹LSA _ _ _ _ _ _ _ _ _ _›.2.1; omega)
set_option maxHeartbeats 4000000 in
theorem vc_Mo_across2_15_2 (x2 : Int) (x3 : Int) (x14 : Int) (x15 : Int) (x16 : Int) (gy : Int) (gu : Int) (k2 : 0 ≤ x2 ∧ x2 ≤ 75) (k3 : 1 ≤ x3 ∧ x3 ≤ 75) (k14 : 0 ≤ x14 ∧ x14 ≤ 5700) (k15 : 1 ≤ x15 ∧ x15 ≤ 5775) (f5 : x15 = x14 + x3) (f6 : x14 = 76 * x2) (ey2 : gy = x2) (eu2 : gu = x3) : 1 * gu + ((-1) * x3 + 0) ≤ 0 := by
  try simp only [Int.add_zero] at *
  first
    | omega
    | (have h := ‹LSA _ _ _ _ _ _ _ _ _ _›.2.1; omega)
set_option maxHeartbeats 4000000 in
theorem vc_Mo_across2_15_3 (x2 : Int) (x3 : Int) (x14 : Int) (x15 : Int) (x16 : Int) (gy : Int) (gu : Int) (k2 : 0 ≤ x2 ∧ x2 ≤ 75) (k3 : 1 ≤ x3 ∧ x3 ≤ 75) (k14 : 0 ≤ x14 ∧ x14 ≤ 5700) (k15 : 1 ≤ x15 ∧ x15 ≤ 5775) (f5 : x15 = x14 + x3) (f6 : x14 = 76 * x2) (ey2 : gy = x2) (eu2 : gu = x3) : (-1) * gu + (1 * x3 + 0) ≤ 0 := by
  try simp only [Int.add_zero] at *
  first
    | omega
    | (have h := ‹LSA _ _ _ _ _ _ _ _ _ _›.2.1; omega)
set_option maxHeartbeats 4000000 in
theorem vc_Mo_across2_15_4 (x2 : Int) (x15 : Int) (x16 : Int) (apartMany_0 : Int) (gx : Int) (kz_0_81 : 0 ≤ apartMany_0 ∧ apartMany_0 ≤ 200) (ex2 : gx = apartMany_0) : apartMany_0 = gx := by
  try simp only [Int.add_zero] at *
  first
    | omega
    | (have h := ‹LSA _ _ _ _ _ _ _ _ _ _›.2.1; omega)
set_option maxHeartbeats 4000000 in
theorem vc_Mo_across2_15_5 (x2 : Int) (x3 : Int) (layerItem_0 : Int → Int) (layerSize_0 : Int → Int) (layerMany_0 : Int) (apartA_0 : Int → Int) (apartB_0 : Int → Int) (apart_0 : Int → Int) (apartMany_0 : Int) (gy : Int) (gu : Int) (k2 : 0 ≤ x2 ∧ x2 ≤ 75) (k3 : 1 ≤ x3 ∧ x3 ≤ 75) (f21 : PAL2 (apartMany_0) (layerMany_0) (layerSize_0) (layerItem_0) (apartA_0) (apartB_0) (apart_0) (x2) (x3)) (kz_0_81 : 0 ≤ apartMany_0 ∧ apartMany_0 ≤ 200) (kz_0_101 : 0 ≤ layerMany_0 ∧ layerMany_0 ≤ 76) (ey2 : gy = x2) (eu2 : gu = x3) : PAL2 (apartMany_0) (layerMany_0) (layerSize_0) (layerItem_0) (apartA_0) (apartB_0) (apart_0) (gy) (gu) := by
  rw [ey2, eu2]; assumption
set_option maxHeartbeats 4000000 in
theorem vc_Mo_across2_15_6 (x2 : Int) (x3 : Int) (x5 : Int) (x8 : Int) (x9 : Int) (x11 : Int) (x12 : Int) (x14 : Int) (x15 : Int) (x16 : Int) (layerItem_0 : Int → Int) (layerSize_0 : Int → Int) (layerMany_0 : Int) (gy : Int) (gu : Int) (k2 : 0 ≤ x2 ∧ x2 ≤ 75) (k3 : 1 ≤ x3 ∧ x3 ≤ 75) (k5 : 2 ≤ x5 ∧ x5 ≤ 76) (k8 : 0 ≤ x8 ∧ x8 ≤ 5700) (k9 : 1 ≤ x9 ∧ x9 ≤ 5775) (k11 : 0 ≤ x11 ∧ x11 ≤ 5774) (k12 : 0 ≤ x12 ∧ x12 ≤ 75) (k14 : 0 ≤ x14 ∧ x14 ≤ 5700) (k15 : 1 ≤ x15 ∧ x15 ≤ 5775) (k16 : 0 ≤ x16 ∧ x16 ≤ 75) (d2 : x14 + 1 ≤ x15 ∧ x15 ≤ x14 + 75) (d3 : x9 + (-1) ≤ x11 ∧ x11 ≤ x9 + (-1)) (d10 : x5 + (-4294967296) ≤ x3 ∧ x3 ≤ x5 + (-1)) (h4 : x16 = layerItem_0 (x15)) (f5 : x15 = x14 + x3) (f6 : x14 = 76 * x2) (h8 : x12 = layerItem_0 (x11)) (f10 : x9 = x8 + x3) (f11 : x8 = 76 * x2) (h13 : x5 = layerSize_0 (x2)) (f23 : (x2 + 1) ≤ layerMany_0) (kz_0_101 : 0 ≤ layerMany_0 ∧ layerMany_0 ≤ 76) (ey2 : gy = x2) (eu2 : gu = x3) : PAN (layerMany_0) (layerSize_0) (layerItem_0) (gy) (gu) (x12) (x16) := by
  rw [ey2, eu2]
  exact ⟨by omega, by rw [← (by omega : x11 = 76 * x2 + x3 - 1)]; assumption, by rw [← (by omega : x15 = 76 * x2 + x3)]; assumption⟩
set_option maxHeartbeats 4000000 in
theorem vc_Mo_across2_15_7 (x2 : Int) (x15 : Int) (x16 : Int) (x21 : Int) (k21 : 2 ≤ x21 ∧ x21 ≤ 2) : (2 ≤ x21) ∧ (x21 ≤ 202) := by
  try simp only [Int.add_zero] at *
  first
    | omega
    | (have h := ‹LSA _ _ _ _ _ _ _ _ _ _›.2.1; omega)
def o_Mo_across2_15 : or_T := (243, 22, [(0, (2, 0, 0, [165])), (1, (2, 0, 0, [165])), (2, (0, 0, 75, [])), (3, (0, 1, 75, [])), (4, (2, 0, 0, [238])), (5, (0, 2, 76, [])), (6, (2, 0, 0, [239])), (7, (0, 76, 76, [])), (8, (0, 0, 5700, [])), (9, (0, 1, 5775, [])), (10, (0, 1, 1, [])), (11, (0, 0, 5774, [])), (12, (0, 0, 75, [])), (13, (0, 76, 76, [])), (14, (0, 0, 5700, [])), (15, (0, 1, 5775, [])), (16, (0, 0, 75, [])), (17, (0, 0, 0, [])), (18, (0, 0, 0, [])), (19, (0, 0, 0, [])), (20, (0, 2, 2, [])), (21, (0, 2, 2, []))], [(1, [21, 19, 20], []), (1, [19, 17, 18], []), (20, [18], [50, 0, 0, 2, 6, 0, 2, 0, 0, 1, 0, 0, 2, 1, 0, 0, 100]), (20, [17], [50, 0, 0, 2, 6, 0, 2, 0, 0, 1, 0, 0, 2, 1, 0, 0, 100]), (10, [16, 6, 15], []), (1, [15, 14, 3], []), (3, [14, 13, 2], []), (9, [6, 1], [106]), (10, [12, 6, 11], []), (2, [11, 9, 10], []), (1, [9, 8, 3], []), (3, [8, 7, 2], []), (7, [3, 5], [2]), (10, [5, 4, 2], []), (9, [4, 1], [105]), (20, [1], [60, 4, 6, 445, 5, 100, 101, 107, 2, 95, 102, 104, 108, 109]), (20, [1], [60, 2, 3, 448, 100, 101, 102, 105, 106]), (20, [1], [60, 1, 1, 197, 5, 2]), (20, [1], [50, 2, 0, 79, 100, 1, 3, 2, 0, 79, 2, 0, 100]), (20, [1], [60, 2, 4, 456, 79, 80, 83, 84, 85, 86]), (20, [1], [50, 1, 0, 80, 0, 3, 2, 0, 80, 0, 130]), (20, [1, 2, 3], [60, 2, 5, 469, 81, 101, 105, 106, 87, 88, 89]), (20, [1], [50, 1, 0, 81, 0, 3, 2, 0, 81, 0, 76]), (20, [2, 1], [50, 1, 0, 1101, 0, 6, 4, 2, 1, 0, 0, 1, 2, 1, 101]), (20, [3], [50, 0, 0, 0, 2, 0, 1, 1, 0]), (24, [0, 1], [])], [], [(0, 0, 199, []), (0, 0, 75, []), (0, 1, 75, [])], [(23, [23, 2], [0, 1, -1]), (23, [23, 2], [0, -1, 1]), (23, [24, 3], [0, 1, -1]), (23, [24, 3], [0, -1, 1]), (20, [1, 22], [50, 1, 0, 81, 1, 3, 2, 0, 81, 1, 1]), (20, [1, 23, 24], [60, 2, 5, 469, 81, 101, 105, 106, 87, 88, 89]), (20, [1, 23, 24, 12, 16], [60, 1, 2, 466, 101, 105, 106]), (20, [21], [50, 0, 0, 2, 6, 0, 2, 0, 2, 1, 0, 0, 2, 1, 0, 0, 202])], [], [(15, 3, 0, 5700), (15, 5, -4294967296, 5699), (15, 14, 1, 75), (11, 9, -1, -1), (11, 3, -1, 5699), (11, 5, -4294967296, 5698), (11, 8, 0, 74), (9, 3, 0, 5700), (9, 5, -4294967296, 5699), (9, 8, 1, 75), (3, 5, -4294967296, -1)])
theorem oo_Mo_across2_15 {kA : Nat → ClassId} : or_ok PRD kA GG o_Mo_across2_15 := by
  refine or_mk fun A ta ws vs hD hth hl => ?_
  intro t0 r0 t1 r1 t2 k2 t3 k3 t4 r4 t5 k5 t6 r6 t7 k7 t8 k8 t9 k9 t10 k10 t11 k11 t12 k12 t13 k13 t14 k14 t15 k15 t16 k16 t17 k17 t18 k18 t19 k19 t20 k20 t21 k21 d0 d1 d2 d3 d4 d5 d6 d7 d8 d9 d10 f0 f1 f2 f3 f4 f5 f6 f7 f8 f9 f10 f11 f12 f13 f14 f15 f16 f17 f18 f19 f20 f21 f22 f23 f24 f25
  replace f0 := shm_12 f0
  replace f1 := shm_12 f1
  replace f2 := shm_1142 f2
  replace f3 := shm_1142 f3
  replace f4 := shm_107 f4
  replace f5 := shm_12 f5
  replace f6 := shm_38 f6
  rw [show v_iv (n_v vs 13) = 76 from by omega] at f6
  replace f7 := shm_679 f7
  replace f8 := shm_107 f8
  replace f9 := shm_14 f9
  replace f10 := shm_12 f10
  replace f11 := shm_38 f11
  rw [show v_iv (n_v vs 7) = 76 from by omega] at f11
  replace f12 := shm_6 f12
  replace f13 := shm_107 f13
  replace f14 := shm_619 f14
  replace f15 := shm_674 f15
  replace f16 := shm_675 f16
  replace f17 := shm_1452 f17
  replace f18 := shm_1944 f18
  replace f19 := shm_558 f19
  replace f20 := shm_1946 f20
  replace f21 := shm_500 f21
  replace f22 := shm_1948 f22
  replace f23 := shm_1949 f23
  replace f24 := shm_710 f24
  replace f25 := shm_5 f25
  have q1 : n_v vs 1 = n_v vs 0 := f25.symm
  simp only [q1] at f7 f14 f15 f16 f17 f18 f19 f20 f21 f22 f23
  have cr_0_2 := fdq_10 hD hth r0
  have cr_0_83 := fdq_126 hD hth r0
  have cr_0_84 := fdq_127 hD hth r0
  have cr_0_85 := fdq_128 hD hth r0
  have cr_0_86 := fdq_129 hD hth r0
  have cr_0_87 := fdq_119 hD hth r0
  have cr_0_88 := fdq_120 hD hth r0
  have cr_0_89 := fdq_121 hD hth r0
  have cr_0_95 := fdq_130 hD hth r0
  have cr_0_102 := fdq_159 hD hth r0
  have cr_0_104 := fdq_170 hD hth r0
  have cr_0_105 := fdq_122 hD hth r0
  have cr_0_106 := fdq_123 hD hth r0
  have cr_0_108 := fdq_160 hD hth r0
  have cr_0_109 := fdq_161 hD hth r0
  have ad_6 : v_ad (n_v vs 6) = w_ar ws (n_v vs 0) 106 := congrArg v_ad f7
  have ad_4 : v_ad (n_v vs 4) = w_ar ws (n_v vs 0) 105 := congrArg v_ad f14
  simp only [ad_6] at f4
  have h4 : v_iv (n_v vs 16) = w_ei ws (w_ar ws (n_v vs 0) 106) (v_iv (n_v vs 15)) := f4
  simp only [ad_6] at f8
  have h8 : v_iv (n_v vs 12) = w_ei ws (w_ar ws (n_v vs 0) 106) (v_iv (n_v vs 11)) := f8
  simp only [ad_4] at f13
  have h13 : v_iv (n_v vs 5) = w_ei ws (w_ar ws (n_v vs 0) 105) (v_iv (n_v vs 2)) := f13
  have hK_0_83 := elq_67 hD hth cr_0_83
  have hK_0_84 := elq_68 hD hth cr_0_84
  have hK_0_85 := elq_69 hD hth cr_0_85
  have hK_0_86 := elq_70 hD hth cr_0_86
  have hK_0_87 := elq_62 hD hth cr_0_87
  have hK_0_88 := elq_63 hD hth cr_0_88
  have hK_0_89 := elq_64 hD hth cr_0_89
  have hK_0_95 := elq_71 hD hth cr_0_95
  have hK_0_102 := elq_91 hD hth cr_0_102
  have hK_0_104 := elq_100 hD hth cr_0_104
  have hK_0_105 := elq_65 hD hth cr_0_105
  have hK_0_106 := elq_66 hD hth cr_0_106
  have hK_0_108 := elq_92 hD hth cr_0_108
  have hK_0_109 := elq_93 hD hth cr_0_109
  have kz_0_79 := fdq_147 hD hth r0
  have kz_0_80 := fdq_131 hD hth r0
  have kz_0_81 := fdq_124 hD hth r0
  have kz_0_100 := fdq_162 hD hth r0
  have kz_0_101 := fdq_125 hD hth r0
  have kz_0_107 := fdq_163 hD hth r0
  have kv0 := fdq_124 hD hth r0
  obtain ⟨x, ex, hx⟩ := iv_ex (ta := ta) (lo := 0) (hi := 199) (z := w_fi ws (n_v vs 0) 81) (by omega) (by omega) (by omega) (by omega)
  have ex2 : v_iv (Value.int x) = w_fi ws (n_v vs 0) 81 := ex
  have ex3 : 0 ≤ v_iv (Value.int x) ∧ v_iv (Value.int x) ≤ 199 := tv_rng hx
  obtain ⟨y, ey, hy⟩ := iv_ex (ta := ta) (lo := 0) (hi := 75) (z := v_iv (n_v vs 2)) (by omega) (by omega) (by omega) (by omega)
  have ey2 : v_iv (Value.int y) = v_iv (n_v vs 2) := ey
  have ey3 : 0 ≤ v_iv (Value.int y) ∧ v_iv (Value.int y) ≤ 75 := tv_rng hy
  obtain ⟨u, eu, hu⟩ := iv_ex (ta := ta) (lo := 1) (hi := 75) (z := v_iv (n_v vs 3)) (by omega) (by omega) (by omega) (by omega)
  have eu2 : v_iv (Value.int u) = v_iv (n_v vs 3) := eu
  have eu3 : 1 ≤ v_iv (Value.int u) ∧ v_iv (Value.int u) ≤ 75 := tv_rng hu
  have e_1 : n_v (vs ++ [Value.int x, Value.int y, Value.int u]) 1 = n_v vs 1 := n_v_old (by rw [hl]; decide)
  have e_2 : n_v (vs ++ [Value.int x, Value.int y, Value.int u]) 2 = n_v vs 2 := n_v_old (by rw [hl]; decide)
  have e_3 : n_v (vs ++ [Value.int x, Value.int y, Value.int u]) 3 = n_v vs 3 := n_v_old (by rw [hl]; decide)
  have e_12 : n_v (vs ++ [Value.int x, Value.int y, Value.int u]) 12 = n_v vs 12 := n_v_old (by rw [hl]; decide)
  have e_16 : n_v (vs ++ [Value.int x, Value.int y, Value.int u]) 16 = n_v vs 16 := n_v_old (by rw [hl]; decide)
  have e_21 : n_v (vs ++ [Value.int x, Value.int y, Value.int u]) 21 = n_v vs 21 := n_v_old (by rw [hl]; decide)
  have e_22 : n_v (vs ++ [Value.int x, Value.int y, Value.int u]) 22 = Value.int x := n_v_newk (k := 0) hl rfl
  have e_23 : n_v (vs ++ [Value.int x, Value.int y, Value.int u]) 23 = Value.int y := n_v_newk (k := 1) hl rfl
  have e_24 : n_v (vs ++ [Value.int x, Value.int y, Value.int u]) 24 = Value.int u := n_v_newk (k := 2) hl rfl
  have nf0 : fc_1 PRD (23, [23, 2], [0, 1, -1]) ws (vs ++ [Value.int x, Value.int y, Value.int u]) := by
    refine ⟨nf_inA hl rfl, sgq_7 ?_⟩
    · show 1 * v_iv (n_v (vs ++ [Value.int x, Value.int y, Value.int u]) 23) + ((-1) * v_iv (n_v (vs ++ [Value.int x, Value.int y, Value.int u]) 2) + 0) ≤ 0
      simp only [e_2, e_23]
      exact vc_Mo_across2_15_0 (v_iv (n_v vs 2)) (v_iv (n_v vs 15)) (v_iv (n_v vs 16)) (v_iv (Value.int y)) k2 ey2
  have nf1 : fc_1 PRD (23, [23, 2], [0, -1, 1]) ws (vs ++ [Value.int x, Value.int y, Value.int u]) := by
    refine ⟨nf_inA hl rfl, sgq_22 ?_⟩
    · show (-1) * v_iv (n_v (vs ++ [Value.int x, Value.int y, Value.int u]) 23) + (1 * v_iv (n_v (vs ++ [Value.int x, Value.int y, Value.int u]) 2) + 0) ≤ 0
      simp only [e_2, e_23]
      exact vc_Mo_across2_15_1 (v_iv (n_v vs 2)) (v_iv (n_v vs 15)) (v_iv (n_v vs 16)) (v_iv (Value.int y)) k2 ey2
  have nf2 : fc_1 PRD (23, [24, 3], [0, 1, -1]) ws (vs ++ [Value.int x, Value.int y, Value.int u]) := by
    refine ⟨nf_inA hl rfl, sgq_7 ?_⟩
    · show 1 * v_iv (n_v (vs ++ [Value.int x, Value.int y, Value.int u]) 24) + ((-1) * v_iv (n_v (vs ++ [Value.int x, Value.int y, Value.int u]) 3) + 0) ≤ 0
      simp only [e_3, e_24]
      exact vc_Mo_across2_15_2 (v_iv (n_v vs 2)) (v_iv (n_v vs 3)) (v_iv (n_v vs 14)) (v_iv (n_v vs 15)) (v_iv (n_v vs 16)) (v_iv (Value.int y)) (v_iv (Value.int u)) k2 k3 k14 k15 f5 f6 ey2 eu2
  have nf3 : fc_1 PRD (23, [24, 3], [0, -1, 1]) ws (vs ++ [Value.int x, Value.int y, Value.int u]) := by
    refine ⟨nf_inA hl rfl, sgq_22 ?_⟩
    · show (-1) * v_iv (n_v (vs ++ [Value.int x, Value.int y, Value.int u]) 24) + (1 * v_iv (n_v (vs ++ [Value.int x, Value.int y, Value.int u]) 3) + 0) ≤ 0
      simp only [e_3, e_24]
      exact vc_Mo_across2_15_3 (v_iv (n_v vs 2)) (v_iv (n_v vs 3)) (v_iv (n_v vs 14)) (v_iv (n_v vs 15)) (v_iv (n_v vs 16)) (v_iv (Value.int y)) (v_iv (Value.int u)) k2 k3 k14 k15 f5 f6 ey2 eu2
  have nf4 : fc_1 PRD (20, [1, 22], [50, 1, 0, 81, 1, 3, 2, 0, 81, 1, 1]) ws (vs ++ [Value.int x, Value.int y, Value.int u]) := by
    refine ⟨nf_inA hl rfl, sgq_499 ?_⟩
    · show w_fi ws (n_v (vs ++ [Value.int x, Value.int y, Value.int u]) 1) 81 = v_iv (n_v (vs ++ [Value.int x, Value.int y, Value.int u]) 22)
      simp only [e_1, e_22, q1]
      exact vc_Mo_across2_15_4 (v_iv (n_v vs 2)) (v_iv (n_v vs 15)) (v_iv (n_v vs 16)) (w_fi ws (n_v vs 0) 81) (v_iv (Value.int x)) kz_0_81 ex2
  have nf5 : fc_1 PRD (20, [1, 23, 24], [60, 2, 5, 469, 81, 101, 105, 106, 87, 88, 89]) ws (vs ++ [Value.int x, Value.int y, Value.int u]) := by
    refine ⟨nf_inA hl rfl, sgq_500 ?_⟩
    · show PAL2 (w_fi ws (n_v (vs ++ [Value.int x, Value.int y, Value.int u]) 1) 81) (w_fi ws (n_v (vs ++ [Value.int x, Value.int y, Value.int u]) 1) 101) (w_ei ws (w_ar ws (n_v (vs ++ [Value.int x, Value.int y, Value.int u]) 1) 105)) (w_ei ws (w_ar ws (n_v (vs ++ [Value.int x, Value.int y, Value.int u]) 1) 106)) (w_ei ws (w_ar ws (n_v (vs ++ [Value.int x, Value.int y, Value.int u]) 1) 87)) (w_ei ws (w_ar ws (n_v (vs ++ [Value.int x, Value.int y, Value.int u]) 1) 88)) (w_ei ws (w_ar ws (n_v (vs ++ [Value.int x, Value.int y, Value.int u]) 1) 89)) (v_iv (n_v (vs ++ [Value.int x, Value.int y, Value.int u]) 23)) (v_iv (n_v (vs ++ [Value.int x, Value.int y, Value.int u]) 24))
      simp only [e_1, e_23, e_24, q1]
      exact vc_Mo_across2_15_5 (v_iv (n_v vs 2)) (v_iv (n_v vs 3)) (w_ei ws (w_ar ws (n_v vs 0) 106)) (w_ei ws (w_ar ws (n_v vs 0) 105)) (w_fi ws (n_v vs 0) 101) (w_ei ws (w_ar ws (n_v vs 0) 87)) (w_ei ws (w_ar ws (n_v vs 0) 88)) (w_ei ws (w_ar ws (n_v vs 0) 89)) (w_fi ws (n_v vs 0) 81) (v_iv (Value.int y)) (v_iv (Value.int u)) k2 k3 f21 kz_0_81 kz_0_101 ey2 eu2
  have nf6 : fc_1 PRD (20, [1, 23, 24, 12, 16], [60, 1, 2, 466, 101, 105, 106]) ws (vs ++ [Value.int x, Value.int y, Value.int u]) := by
    refine ⟨nf_inA hl rfl, sgq_501 ?_⟩
    · show PAN (w_fi ws (n_v (vs ++ [Value.int x, Value.int y, Value.int u]) 1) 101) (w_ei ws (w_ar ws (n_v (vs ++ [Value.int x, Value.int y, Value.int u]) 1) 105)) (w_ei ws (w_ar ws (n_v (vs ++ [Value.int x, Value.int y, Value.int u]) 1) 106)) (v_iv (n_v (vs ++ [Value.int x, Value.int y, Value.int u]) 23)) (v_iv (n_v (vs ++ [Value.int x, Value.int y, Value.int u]) 24)) (v_iv (n_v (vs ++ [Value.int x, Value.int y, Value.int u]) 12)) (v_iv (n_v (vs ++ [Value.int x, Value.int y, Value.int u]) 16))
      simp only [e_1, e_12, e_16, e_23, e_24, q1]
      exact vc_Mo_across2_15_6 (v_iv (n_v vs 2)) (v_iv (n_v vs 3)) (v_iv (n_v vs 5)) (v_iv (n_v vs 8)) (v_iv (n_v vs 9)) (v_iv (n_v vs 11)) (v_iv (n_v vs 12)) (v_iv (n_v vs 14)) (v_iv (n_v vs 15)) (v_iv (n_v vs 16)) (w_ei ws (w_ar ws (n_v vs 0) 106)) (w_ei ws (w_ar ws (n_v vs 0) 105)) (w_fi ws (n_v vs 0) 101) (v_iv (Value.int y)) (v_iv (Value.int u)) k2 k3 k5 k8 k9 k11 k12 k14 k15 k16 d2 d3 d10 h4 f5 f6 h8 f10 f11 h13 f23 kz_0_101 ey2 eu2
  have nf7 : fc_1 PRD (20, [21], [50, 0, 0, 2, 6, 0, 2, 0, 2, 1, 0, 0, 2, 1, 0, 0, 202]) ws (vs ++ [Value.int x, Value.int y, Value.int u]) := by
    refine ⟨nf_inA hl rfl, sgq_502 ?_⟩
    · show (2 ≤ v_iv (n_v (vs ++ [Value.int x, Value.int y, Value.int u]) 21)) ∧ (v_iv (n_v (vs ++ [Value.int x, Value.int y, Value.int u]) 21) ≤ 202)
      rw [e_21]
      exact vc_Mo_across2_15_7 (v_iv (n_v vs 2)) (v_iv (n_v vs 15)) (v_iv (n_v vs 16)) (v_iv (n_v vs 21)) k21
  exact ⟨(fun _ h => (by cases h)), [Value.int x, Value.int y, Value.int u], ag_three hx hy hu, List.forall_mem_cons.mpr ⟨⟨show (23 : Nat) < 100 from by decide, nf0⟩, List.forall_mem_cons.mpr ⟨⟨show (23 : Nat) < 100 from by decide, nf1⟩, List.forall_mem_cons.mpr ⟨⟨show (23 : Nat) < 100 from by decide, nf2⟩, List.forall_mem_cons.mpr ⟨⟨show (23 : Nat) < 100 from by decide, nf3⟩, List.forall_mem_cons.mpr ⟨⟨show (20 : Nat) < 100 from by decide, nf4⟩, List.forall_mem_cons.mpr ⟨⟨show (20 : Nat) < 100 from by decide, nf5⟩, List.forall_mem_cons.mpr ⟨⟨show (20 : Nat) < 100 from by decide, nf6⟩, List.forall_mem_cons.mpr ⟨⟨show (20 : Nat) < 100 from by decide, nf7⟩, (fun _ h => (by cases h))⟩⟩⟩⟩⟩⟩⟩⟩, (fun _ h => (by cases h))⟩
set_option maxHeartbeats 4000000 in
theorem vc_Mo_across2_16_0 (x2 : Int) (x3 : Int) (x23 : Int) (x24 : Int) (x25 : Int) (layerSize_0 : Int → Int) (layerItem_0 : Int → Int) (layerMany_0 : Int) (apartMany_0 : Int) (apartA_0 : Int → Int) (apartB_0 : Int → Int) (apart_0 : Int → Int) (k2 : 0 ≤ x2 ∧ x2 ≤ 75) (k3 : 1 ≤ x3 ∧ x3 ≤ 75) (k23 : 0 ≤ x23 ∧ x23 ≤ 75) (k24 : 1 ≤ x24 ∧ x24 ≤ 75) (k25 : 2 ≤ x25 ∧ x25 ≤ 76) (d0 : x3 + 1 ≤ x25 ∧ x25 ≤ x3 + 1) (f1 : 1 * x23 + ((-1) * x2 + 0) ≤ 0) (f2 : (-1) * x23 + (1 * x2 + 0) ≤ 0) (f3 : 1 * x24 + ((-1) * x3 + 0) ≤ 0) (f4 : (-1) * x24 + (1 * x3 + 0) ≤ 0) (f19 : PAP (apartMany_0) (layerMany_0) (layerSize_0) (layerItem_0) (apartA_0) (apartB_0) (apart_0) (x23) (x24)) (kz_0_81 : 0 ≤ apartMany_0 ∧ apartMany_0 ≤ 200) (kz_0_101 : 0 ≤ layerMany_0 ∧ layerMany_0 ≤ 76) : PAL2 (apartMany_0) (layerMany_0) (layerSize_0) (layerItem_0) (apartA_0) (apartB_0) (apart_0) (x2) (x25) := by
  first
    | exact paq_less ‹PAL1 _ _ _ _ _ _ _ _› (by omega)
    | (have h := ‹PAP _ _ _ _ _ _ _ _ _›
       exact paq_less h (by omega))
set_option maxHeartbeats 4000000 in
theorem vc_Mo_across2_16_1 (x22 : Int) (x23 : Int) (x24 : Int) (layerSize_0 : Int → Int) (layerItem_0 : Int → Int) (layerMany_0 : Int) (all_0 : Int → Int) (turned_0 : Int → Int) (itemLayer_0 : Int → Int) (firstJoint_0 : Int → Int) (lineA_0 : Int → Int) (lineB_0 : Int → Int) (r_0 : Int) (items_0 : Int) (lines_0 : Int) (pointMany_0 : Int) (apartMany_0 : Int) (apartA_0 : Int → Int) (apartB_0 : Int → Int) (apart_0 : Int → Int) (k22 : 0 ≤ x22 ∧ x22 ≤ 199) (k23 : 0 ≤ x23 ∧ x23 ≤ 75) (k24 : 1 ≤ x24 ∧ x24 ≤ 75) (f9 : LSA (r_0) (items_0) (layerMany_0) (lines_0) (all_0) (turned_0) (itemLayer_0) (firstJoint_0) (lineA_0) (lineB_0)) (f10 : LSB (items_0) (layerMany_0) (itemLayer_0) (layerSize_0) (layerItem_0)) (f12 : pointMany_0 = items_0) (f18 : apartMany_0 = (x22 + 1)) (f19 : PAP (apartMany_0) (layerMany_0) (layerSize_0) (layerItem_0) (apartA_0) (apartB_0) (apart_0) (x23) (x24)) (kz_0_79 : 0 ≤ pointMany_0 ∧ pointMany_0 ≤ 76) (kz_0_81 : 0 ≤ apartMany_0 ∧ apartMany_0 ≤ 200) (kz_0_100 : 0 ≤ items_0 ∧ items_0 ≤ 76) (kz_0_101 : 0 ≤ layerMany_0 ∧ layerMany_0 ≤ 76) (kz_0_107 : 0 ≤ lines_0 ∧ lines_0 ≤ 130) : apartMany_0 ≤ 76 := by
  try simp only [Int.add_zero] at *
  first
    | (have h := paq_am ‹LSB _ _ _ _ _› ‹PAP _ _ _ _ _ _ _ _ _› (by have h := ‹LSA _ _ _ _ _ _ _ _ _ _›.2.1; have n := ‹LSA _ _ _ _ _ _ _ _ _ _›.1.1.1.1; omega); have h2 := ‹LSB _ _ _ _ _›.1; omega)
set_option maxHeartbeats 4000000 in
theorem vc_Mo_across2_16_2 (x25 : Int) (k25 : 2 ≤ x25 ∧ x25 ≤ 76) : 1 ≤ x25 := by
  try simp only [Int.add_zero] at *
  first
    | omega
def o_Mo_across2_16 : or_T := (188, 26, [(0, (2, 0, 0, [165])), (1, (2, 0, 0, [165])), (2, (0, 0, 75, [])), (3, (0, 1, 75, [])), (5, (0, 2, 76, [])), (12, (0, 0, 75, [])), (16, (0, 0, 75, [])), (17, (0, 0, 0, [])), (18, (0, 0, 0, [])), (19, (0, 0, 0, [])), (20, (0, 2, 2, [])), (21, (0, 2, 2, [])), (22, (0, 0, 199, [])), (23, (0, 0, 75, [])), (24, (0, 1, 75, [])), (25, (0, 2, 76, []))], [(6, [25, 3], [1]), (23, [23, 2], [0, 1, -1]), (23, [23, 2], [0, -1, 1]), (23, [24, 3], [0, 1, -1]), (23, [24, 3], [0, -1, 1]), (20, [1, 23, 24, 12, 16], [60, 1, 2, 466, 101, 105, 106]), (20, [21], [50, 0, 0, 2, 6, 0, 2, 0, 2, 1, 0, 0, 2, 1, 0, 0, 202]), (20, [18], [50, 0, 0, 2, 6, 0, 2, 0, 0, 1, 0, 0, 2, 1, 0, 0, 100]), (20, [17], [50, 0, 0, 2, 6, 0, 2, 0, 0, 1, 0, 0, 2, 1, 0, 0, 100]), (20, [1], [60, 4, 6, 445, 5, 100, 101, 107, 2, 95, 102, 104, 108, 109]), (20, [1], [60, 2, 3, 448, 100, 101, 102, 105, 106]), (20, [1], [60, 1, 1, 197, 5, 2]), (20, [1], [50, 2, 0, 79, 100, 1, 3, 2, 0, 79, 2, 0, 100]), (20, [1], [60, 2, 4, 456, 79, 80, 83, 84, 85, 86]), (20, [1], [50, 1, 0, 80, 0, 3, 2, 0, 80, 0, 130]), (20, [2, 1], [50, 1, 0, 1101, 0, 6, 4, 2, 1, 0, 0, 1, 2, 1, 101]), (20, [3], [50, 0, 0, 0, 2, 0, 1, 1, 0]), (24, [0, 1], []), (20, [1, 22], [50, 1, 0, 81, 1, 3, 2, 0, 81, 4, 2, 1, 1, 0, 1]), (20, [1, 23, 24], [60, 2, 5, 467, 81, 101, 105, 106, 87, 88, 89]), (102, [24], [188719626670054478562669105609137414715460010957784007367725271744512, 165081]), (23, [23, 2], [0, 1, -1]), (23, [23, 2], [0, -1, 1]), (23, [24, 3], [0, 1, -1]), (23, [24, 3], [0, -1, 1]), (1, [21, 19, 20], []), (1, [19, 17, 18], []), (7, [3, 5], [2])], [], [], [(20, [1, 2, 25], [60, 2, 5, 469, 81, 101, 105, 106, 87, 88, 89]), (20, [1], [50, 1, 0, 81, 0, 3, 2, 0, 81, 0, 76]), (20, [25], [50, 0, 0, 0, 2, 0, 1, 1, 0])], [], [(25, 3, 1, 1), (25, 5, -4294967296, 0), (3, 5, -4294967296, -1)])
theorem oo_Mo_across2_16 {kA : Nat → ClassId} : or_ok PRD kA GG o_Mo_across2_16 := by
  refine or_mk fun A ta ws vs hD hth hl => ?_
  intro t0 r0 t1 r1 t2 k2 t3 k3 t5 k5 t12 k12 t16 k16 t17 k17 t18 k18 t19 k19 t20 k20 t21 k21 t22 k22 t23 k23 t24 k24 t25 k25 d0 d1 d2 f0 f1 f2 f3 f4 f5 f6 f7 f8 f9 f10 f11 f12 f13 f14 f15 f16 f17 f18 f19 ta1 w1 le1 s1 f21 f22 f23 f24 f25 f26 f27
  replace f1 := shm_7 f1
  replace f2 := shm_22 f2
  replace f3 := shm_7 f3
  replace f4 := shm_22 f4
  replace f9 := shm_674 f9
  replace f10 := shm_675 f10
  replace f12 := shm_1944 f12
  replace f17 := shm_5 f17
  replace f18 := shm_505 f18
  replace f19 := shm_506 f19
  have q1 : n_v vs 1 = n_v vs 0 := f17.symm
  simp only [q1] at f9 f10 f12 f18 f19
  have kz_0_79 := fdq_147 hD hth r0
  have kz_0_81 := fdq_124 hD hth r0
  have kz_0_100 := fdq_162 hD hth r0
  have kz_0_101 := fdq_125 hD hth r0
  have kz_0_107 := fdq_163 hD hth r0
  have nf0 : fc_1 PRD (20, [1, 2, 25], [60, 2, 5, 469, 81, 101, 105, 106, 87, 88, 89]) ws (vs) := by
    refine ⟨nf_in hl rfl, sgq_500 ?_⟩
    · show PAL2 (w_fi ws (n_v vs 1) 81) (w_fi ws (n_v vs 1) 101) (w_ei ws (w_ar ws (n_v vs 1) 105)) (w_ei ws (w_ar ws (n_v vs 1) 106)) (w_ei ws (w_ar ws (n_v vs 1) 87)) (w_ei ws (w_ar ws (n_v vs 1) 88)) (w_ei ws (w_ar ws (n_v vs 1) 89)) (v_iv (n_v vs 2)) (v_iv (n_v vs 25))
      rw [q1]
      exact vc_Mo_across2_16_0 (v_iv (n_v vs 2)) (v_iv (n_v vs 3)) (v_iv (n_v vs 23)) (v_iv (n_v vs 24)) (v_iv (n_v vs 25)) (w_ei ws (w_ar ws (n_v vs 0) 105)) (w_ei ws (w_ar ws (n_v vs 0) 106)) (w_fi ws (n_v vs 0) 101) (w_fi ws (n_v vs 0) 81) (w_ei ws (w_ar ws (n_v vs 0) 87)) (w_ei ws (w_ar ws (n_v vs 0) 88)) (w_ei ws (w_ar ws (n_v vs 0) 89)) k2 k3 k23 k24 k25 d0 f1 f2 f3 f4 f19 kz_0_81 kz_0_101
  have nf1 : fc_1 PRD (20, [1], [50, 1, 0, 81, 0, 3, 2, 0, 81, 0, 76]) ws (vs) := by
    refine ⟨nf_in hl rfl, sgq_1948 ?_⟩
    · show w_fi ws (n_v vs 1) 81 ≤ 76
      rw [q1]
      exact vc_Mo_across2_16_1 (v_iv (n_v vs 22)) (v_iv (n_v vs 23)) (v_iv (n_v vs 24)) (w_ei ws (w_ar ws (n_v vs 0) 105)) (w_ei ws (w_ar ws (n_v vs 0) 106)) (w_fi ws (n_v vs 0) 101) (w_ei ws (w_ar ws (n_v vs 0) 2)) (w_ei ws (w_ar ws (n_v vs 0) 95)) (w_ei ws (w_ar ws (n_v vs 0) 102)) (w_ei ws (w_ar ws (n_v vs 0) 104)) (w_ei ws (w_ar ws (n_v vs 0) 108)) (w_ei ws (w_ar ws (n_v vs 0) 109)) (w_fi ws (n_v vs 0) 5) (w_fi ws (n_v vs 0) 100) (w_fi ws (n_v vs 0) 107) (w_fi ws (n_v vs 0) 79) (w_fi ws (n_v vs 0) 81) (w_ei ws (w_ar ws (n_v vs 0) 87)) (w_ei ws (w_ar ws (n_v vs 0) 88)) (w_ei ws (w_ar ws (n_v vs 0) 89)) k22 k23 k24 f9 f10 f12 f18 f19 kz_0_79 kz_0_81 kz_0_100 kz_0_101 kz_0_107
  have nf2 : fc_1 PRD (20, [25], [50, 0, 0, 0, 2, 0, 1, 1, 0]) ws (vs) := ⟨nf_in hl rfl, sgq_710 (vc_Mo_across2_16_2 (v_iv (n_v vs 25)) k25)⟩
  refine ⟨(fun _ h => (by cases h)), [], trivial, ?_, (fun _ h => (by cases h))⟩
  rw [List.append_nil]
  exact List.forall_mem_cons.mpr ⟨⟨show (20 : Nat) < 100 from by decide, nf0⟩, List.forall_mem_cons.mpr ⟨⟨show (20 : Nat) < 100 from by decide, nf1⟩, List.forall_mem_cons.mpr ⟨⟨show (20 : Nat) < 100 from by decide, nf2⟩, (fun _ h => (by cases h))⟩⟩⟩
set_option maxHeartbeats 4000000 in
theorem vc_Mo_across2_17_0 (x2 : Int) (x15 : Int) (x16 : Int) (gy : Int) (k2 : 0 ≤ x2 ∧ x2 ≤ 75) (ey2 : gy = x2) : 1 * gy + ((-1) * x2 + 0) ≤ 0 := by
  try simp only [Int.add_zero] at *
  first
    | omega
    | (have h := ‹LSA _ _ _ _ _ _ _ _ _ _›.2.1; omega)
set_option maxHeartbeats 4000000 in
theorem vc_Mo_across2_17_1 (x2 : Int) (x15 : Int) (x16 : Int) (gy : Int) (k2 : 0 ≤ x2 ∧ x2 ≤ 75) (ey2 : gy = x2) : (-1) * gy + (1 * x2 + 0) ≤ 0 := by
  try simp only [Int.add_zero] at *
  first
    | omega
    | (have h := ‹LSA _ _ _ _ _ _ _ _ _ _›.2.1; omega)
set_option maxHeartbeats 4000000 in
theorem vc_Mo_across2_17_2 (x2 : Int) (x3 : Int) (x14 : Int) (x15 : Int) (x16 : Int) (gy : Int) (gu : Int) (k2 : 0 ≤ x2 ∧ x2 ≤ 75) (k3 : 1 ≤ x3 ∧ x3 ≤ 75) (k14 : 0 ≤ x14 ∧ x14 ≤ 5700) (k15 : 1 ≤ x15 ∧ x15 ≤ 5775) (f5 : x15 = x14 + x3) (f6 : x14 = 76 * x2) (ey2 : gy = x2) (eu2 : gu = x3) : 1 * gu + ((-1) * x3 + 0) ≤ 0 := by
  try simp only [Int.add_zero] at *
  first
    | omega
    | (have h := ‹LSA _ _ _ _ _ _ _ _ _ _›.2.1; omega)
set_option maxHeartbeats 4000000 in
theorem vc_Mo_across2_17_3 (x2 : Int) (x3 : Int) (x14 : Int) (x15 : Int) (x16 : Int) (gy : Int) (gu : Int) (k2 : 0 ≤ x2 ∧ x2 ≤ 75) (k3 : 1 ≤ x3 ∧ x3 ≤ 75) (k14 : 0 ≤ x14 ∧ x14 ≤ 5700) (k15 : 1 ≤ x15 ∧ x15 ≤ 5775) (f5 : x15 = x14 + x3) (f6 : x14 = 76 * x2) (ey2 : gy = x2) (eu2 : gu = x3) : (-1) * gu + (1 * x3 + 0) ≤ 0 := by
  try simp only [Int.add_zero] at *
  first
    | omega
    | (have h := ‹LSA _ _ _ _ _ _ _ _ _ _›.2.1; omega)
set_option maxHeartbeats 4000000 in
theorem vc_Mo_across2_17_4 (x2 : Int) (x15 : Int) (x16 : Int) (apartMany_0 : Int) (gx : Int) (kz_0_81 : 0 ≤ apartMany_0 ∧ apartMany_0 ≤ 200) (ex2 : gx = apartMany_0) : apartMany_0 = gx := by
  try simp only [Int.add_zero] at *
  first
    | omega
    | (have h := ‹LSA _ _ _ _ _ _ _ _ _ _›.2.1; omega)
set_option maxHeartbeats 4000000 in
theorem vc_Mo_across2_17_5 (x2 : Int) (x3 : Int) (layerItem_0 : Int → Int) (layerSize_0 : Int → Int) (layerMany_0 : Int) (apartA_0 : Int → Int) (apartB_0 : Int → Int) (apart_0 : Int → Int) (apartMany_0 : Int) (gy : Int) (gu : Int) (k2 : 0 ≤ x2 ∧ x2 ≤ 75) (k3 : 1 ≤ x3 ∧ x3 ≤ 75) (f21 : PAL2 (apartMany_0) (layerMany_0) (layerSize_0) (layerItem_0) (apartA_0) (apartB_0) (apart_0) (x2) (x3)) (kz_0_81 : 0 ≤ apartMany_0 ∧ apartMany_0 ≤ 200) (kz_0_101 : 0 ≤ layerMany_0 ∧ layerMany_0 ≤ 76) (ey2 : gy = x2) (eu2 : gu = x3) : PAL2 (apartMany_0) (layerMany_0) (layerSize_0) (layerItem_0) (apartA_0) (apartB_0) (apart_0) (gy) (gu) := by
  rw [ey2, eu2]; assumption
set_option maxHeartbeats 4000000 in
theorem vc_Mo_across2_17_6 (x2 : Int) (x3 : Int) (x5 : Int) (x8 : Int) (x9 : Int) (x11 : Int) (x12 : Int) (x14 : Int) (x15 : Int) (x16 : Int) (layerItem_0 : Int → Int) (layerSize_0 : Int → Int) (layerMany_0 : Int) (gy : Int) (gu : Int) (k2 : 0 ≤ x2 ∧ x2 ≤ 75) (k3 : 1 ≤ x3 ∧ x3 ≤ 75) (k5 : 2 ≤ x5 ∧ x5 ≤ 76) (k8 : 0 ≤ x8 ∧ x8 ≤ 5700) (k9 : 1 ≤ x9 ∧ x9 ≤ 5775) (k11 : 0 ≤ x11 ∧ x11 ≤ 5774) (k12 : 0 ≤ x12 ∧ x12 ≤ 75) (k14 : 0 ≤ x14 ∧ x14 ≤ 5700) (k15 : 1 ≤ x15 ∧ x15 ≤ 5775) (k16 : 0 ≤ x16 ∧ x16 ≤ 23) (d5 : x14 + 1 ≤ x15 ∧ x15 ≤ x14 + 75) (d6 : x9 + (-1) ≤ x11 ∧ x11 ≤ x9 + (-1)) (d13 : x5 + (-4294967296) ≤ x3 ∧ x3 ≤ x5 + (-1)) (h4 : x16 = layerItem_0 (x15)) (f5 : x15 = x14 + x3) (f6 : x14 = 76 * x2) (h8 : x12 = layerItem_0 (x11)) (f10 : x9 = x8 + x3) (f11 : x8 = 76 * x2) (h13 : x5 = layerSize_0 (x2)) (f23 : (x2 + 1) ≤ layerMany_0) (kz_0_101 : 0 ≤ layerMany_0 ∧ layerMany_0 ≤ 76) (ey2 : gy = x2) (eu2 : gu = x3) : PAN (layerMany_0) (layerSize_0) (layerItem_0) (gy) (gu) (x12) (x16) := by
  rw [ey2, eu2]
  exact ⟨by omega, by rw [← (by omega : x11 = 76 * x2 + x3 - 1)]; assumption, by rw [← (by omega : x15 = 76 * x2 + x3)]; assumption⟩
set_option maxHeartbeats 4000000 in
theorem vc_Mo_across2_17_7 (x2 : Int) (x15 : Int) (x16 : Int) (x18 : Int) (x21 : Int) (k18 : 1 ≤ x18 ∧ x18 ≤ 9) (k21 : 3 ≤ x21 ∧ x21 ≤ 11) (d1 : x18 + 2 ≤ x21 ∧ x21 ≤ x18 + 2) : (2 ≤ x21) ∧ (x21 ≤ 202) := by
  try simp only [Int.add_zero] at *
  first
    | omega
    | (have h := ‹LSA _ _ _ _ _ _ _ _ _ _›.2.1; omega)
def o_Mo_across2_17 : or_T := (243, 22, [(0, (2, 0, 0, [165])), (1, (2, 0, 0, [165])), (2, (0, 0, 75, [])), (3, (0, 1, 75, [])), (4, (2, 0, 0, [238])), (5, (0, 2, 76, [])), (6, (2, 0, 0, [239])), (7, (0, 76, 76, [])), (8, (0, 0, 5700, [])), (9, (0, 1, 5775, [])), (10, (0, 1, 1, [])), (11, (0, 0, 5774, [])), (12, (0, 0, 75, [])), (13, (0, 76, 76, [])), (14, (0, 0, 5700, [])), (15, (0, 1, 5775, [])), (16, (0, 0, 23, [])), (17, (0, 0, 0, [])), (18, (0, 1, 9, [])), (19, (0, 1, 9, [])), (20, (0, 2, 2, [])), (21, (0, 3, 11, []))], [(1, [21, 19, 20], []), (1, [19, 17, 18], []), (20, [18], [50, 0, 0, 2, 6, 0, 2, 0, 0, 1, 0, 0, 2, 1, 0, 0, 100]), (20, [17], [50, 0, 0, 2, 6, 0, 2, 0, 0, 1, 0, 0, 2, 1, 0, 0, 100]), (10, [16, 6, 15], []), (1, [15, 14, 3], []), (3, [14, 13, 2], []), (9, [6, 1], [106]), (10, [12, 6, 11], []), (2, [11, 9, 10], []), (1, [9, 8, 3], []), (3, [8, 7, 2], []), (7, [3, 5], [2]), (10, [5, 4, 2], []), (9, [4, 1], [105]), (20, [1], [60, 4, 6, 445, 5, 100, 101, 107, 2, 95, 102, 104, 108, 109]), (20, [1], [60, 2, 3, 448, 100, 101, 102, 105, 106]), (20, [1], [60, 1, 1, 197, 5, 2]), (20, [1], [50, 2, 0, 79, 100, 1, 3, 2, 0, 79, 2, 0, 100]), (20, [1], [60, 2, 4, 456, 79, 80, 83, 84, 85, 86]), (20, [1], [50, 1, 0, 80, 0, 3, 2, 0, 80, 0, 130]), (20, [1, 2, 3], [60, 2, 5, 469, 81, 101, 105, 106, 87, 88, 89]), (20, [1], [50, 1, 0, 81, 0, 3, 2, 0, 81, 0, 76]), (20, [2, 1], [50, 1, 0, 1101, 0, 6, 4, 2, 1, 0, 0, 1, 2, 1, 101]), (20, [3], [50, 0, 0, 0, 2, 0, 1, 1, 0]), (24, [0, 1], [])], [], [(0, 0, 199, []), (0, 0, 75, []), (0, 1, 75, [])], [(23, [23, 2], [0, 1, -1]), (23, [23, 2], [0, -1, 1]), (23, [24, 3], [0, 1, -1]), (23, [24, 3], [0, -1, 1]), (20, [1, 22], [50, 1, 0, 81, 1, 3, 2, 0, 81, 1, 1]), (20, [1, 23, 24], [60, 2, 5, 469, 81, 101, 105, 106, 87, 88, 89]), (20, [1, 23, 24, 12, 16], [60, 1, 2, 466, 101, 105, 106]), (20, [21], [50, 0, 0, 2, 6, 0, 2, 0, 2, 1, 0, 0, 2, 1, 0, 0, 202])], [], [(21, 19, 2, 2), (21, 18, 2, 2), (19, 18, 0, 0), (15, 3, 0, 5700), (15, 5, -4294967296, 5699), (15, 14, 1, 75), (11, 9, -1, -1), (11, 3, -1, 5699), (11, 5, -4294967296, 5698), (11, 8, 0, 74), (9, 3, 0, 5700), (9, 5, -4294967296, 5699), (9, 8, 1, 75), (3, 5, -4294967296, -1)])
theorem oo_Mo_across2_17 {kA : Nat → ClassId} : or_ok PRD kA GG o_Mo_across2_17 := by
  refine or_mk fun A ta ws vs hD hth hl => ?_
  intro t0 r0 t1 r1 t2 k2 t3 k3 t4 r4 t5 k5 t6 r6 t7 k7 t8 k8 t9 k9 t10 k10 t11 k11 t12 k12 t13 k13 t14 k14 t15 k15 t16 k16 t17 k17 t18 k18 t19 k19 t20 k20 t21 k21 d0 d1 d2 d3 d4 d5 d6 d7 d8 d9 d10 d11 d12 d13 f0 f1 f2 f3 f4 f5 f6 f7 f8 f9 f10 f11 f12 f13 f14 f15 f16 f17 f18 f19 f20 f21 f22 f23 f24 f25
  replace f0 := shm_12 f0
  replace f1 := shm_12 f1
  replace f2 := shm_1142 f2
  replace f3 := shm_1142 f3
  replace f4 := shm_107 f4
  replace f5 := shm_12 f5
  replace f6 := shm_38 f6
  rw [show v_iv (n_v vs 13) = 76 from by omega] at f6
  replace f7 := shm_679 f7
  replace f8 := shm_107 f8
  replace f9 := shm_14 f9
  replace f10 := shm_12 f10
  replace f11 := shm_38 f11
  rw [show v_iv (n_v vs 7) = 76 from by omega] at f11
  replace f12 := shm_6 f12
  replace f13 := shm_107 f13
  replace f14 := shm_619 f14
  replace f15 := shm_674 f15
  replace f16 := shm_675 f16
  replace f17 := shm_1452 f17
  replace f18 := shm_1944 f18
  replace f19 := shm_558 f19
  replace f20 := shm_1946 f20
  replace f21 := shm_500 f21
  replace f22 := shm_1948 f22
  replace f23 := shm_1949 f23
  replace f24 := shm_710 f24
  replace f25 := shm_5 f25
  have q1 : n_v vs 1 = n_v vs 0 := f25.symm
  simp only [q1] at f7 f14 f15 f16 f17 f18 f19 f20 f21 f22 f23
  have cr_0_2 := fdq_10 hD hth r0
  have cr_0_83 := fdq_126 hD hth r0
  have cr_0_84 := fdq_127 hD hth r0
  have cr_0_85 := fdq_128 hD hth r0
  have cr_0_86 := fdq_129 hD hth r0
  have cr_0_87 := fdq_119 hD hth r0
  have cr_0_88 := fdq_120 hD hth r0
  have cr_0_89 := fdq_121 hD hth r0
  have cr_0_95 := fdq_130 hD hth r0
  have cr_0_102 := fdq_159 hD hth r0
  have cr_0_104 := fdq_170 hD hth r0
  have cr_0_105 := fdq_122 hD hth r0
  have cr_0_106 := fdq_123 hD hth r0
  have cr_0_108 := fdq_160 hD hth r0
  have cr_0_109 := fdq_161 hD hth r0
  have ad_6 : v_ad (n_v vs 6) = w_ar ws (n_v vs 0) 106 := congrArg v_ad f7
  have ad_4 : v_ad (n_v vs 4) = w_ar ws (n_v vs 0) 105 := congrArg v_ad f14
  simp only [ad_6] at f4
  have h4 : v_iv (n_v vs 16) = w_ei ws (w_ar ws (n_v vs 0) 106) (v_iv (n_v vs 15)) := f4
  simp only [ad_6] at f8
  have h8 : v_iv (n_v vs 12) = w_ei ws (w_ar ws (n_v vs 0) 106) (v_iv (n_v vs 11)) := f8
  simp only [ad_4] at f13
  have h13 : v_iv (n_v vs 5) = w_ei ws (w_ar ws (n_v vs 0) 105) (v_iv (n_v vs 2)) := f13
  have hK_0_83 := elq_67 hD hth cr_0_83
  have hK_0_84 := elq_68 hD hth cr_0_84
  have hK_0_85 := elq_69 hD hth cr_0_85
  have hK_0_86 := elq_70 hD hth cr_0_86
  have hK_0_87 := elq_62 hD hth cr_0_87
  have hK_0_88 := elq_63 hD hth cr_0_88
  have hK_0_89 := elq_64 hD hth cr_0_89
  have hK_0_95 := elq_71 hD hth cr_0_95
  have hK_0_102 := elq_91 hD hth cr_0_102
  have hK_0_104 := elq_100 hD hth cr_0_104
  have hK_0_105 := elq_65 hD hth cr_0_105
  have hK_0_106 := elq_66 hD hth cr_0_106
  have hK_0_108 := elq_92 hD hth cr_0_108
  have hK_0_109 := elq_93 hD hth cr_0_109
  have kz_0_79 := fdq_147 hD hth r0
  have kz_0_80 := fdq_131 hD hth r0
  have kz_0_81 := fdq_124 hD hth r0
  have kz_0_100 := fdq_162 hD hth r0
  have kz_0_101 := fdq_125 hD hth r0
  have kz_0_107 := fdq_163 hD hth r0
  have kv0 := fdq_124 hD hth r0
  obtain ⟨x, ex, hx⟩ := iv_ex (ta := ta) (lo := 0) (hi := 199) (z := w_fi ws (n_v vs 0) 81) (by omega) (by omega) (by omega) (by omega)
  have ex2 : v_iv (Value.int x) = w_fi ws (n_v vs 0) 81 := ex
  have ex3 : 0 ≤ v_iv (Value.int x) ∧ v_iv (Value.int x) ≤ 199 := tv_rng hx
  obtain ⟨y, ey, hy⟩ := iv_ex (ta := ta) (lo := 0) (hi := 75) (z := v_iv (n_v vs 2)) (by omega) (by omega) (by omega) (by omega)
  have ey2 : v_iv (Value.int y) = v_iv (n_v vs 2) := ey
  have ey3 : 0 ≤ v_iv (Value.int y) ∧ v_iv (Value.int y) ≤ 75 := tv_rng hy
  obtain ⟨u, eu, hu⟩ := iv_ex (ta := ta) (lo := 1) (hi := 75) (z := v_iv (n_v vs 3)) (by omega) (by omega) (by omega) (by omega)
  have eu2 : v_iv (Value.int u) = v_iv (n_v vs 3) := eu
  have eu3 : 1 ≤ v_iv (Value.int u) ∧ v_iv (Value.int u) ≤ 75 := tv_rng hu
  have e_1 : n_v (vs ++ [Value.int x, Value.int y, Value.int u]) 1 = n_v vs 1 := n_v_old (by rw [hl]; decide)
  have e_2 : n_v (vs ++ [Value.int x, Value.int y, Value.int u]) 2 = n_v vs 2 := n_v_old (by rw [hl]; decide)
  have e_3 : n_v (vs ++ [Value.int x, Value.int y, Value.int u]) 3 = n_v vs 3 := n_v_old (by rw [hl]; decide)
  have e_12 : n_v (vs ++ [Value.int x, Value.int y, Value.int u]) 12 = n_v vs 12 := n_v_old (by rw [hl]; decide)
  have e_16 : n_v (vs ++ [Value.int x, Value.int y, Value.int u]) 16 = n_v vs 16 := n_v_old (by rw [hl]; decide)
  have e_21 : n_v (vs ++ [Value.int x, Value.int y, Value.int u]) 21 = n_v vs 21 := n_v_old (by rw [hl]; decide)
  have e_22 : n_v (vs ++ [Value.int x, Value.int y, Value.int u]) 22 = Value.int x := n_v_newk (k := 0) hl rfl
  have e_23 : n_v (vs ++ [Value.int x, Value.int y, Value.int u]) 23 = Value.int y := n_v_newk (k := 1) hl rfl
  have e_24 : n_v (vs ++ [Value.int x, Value.int y, Value.int u]) 24 = Value.int u := n_v_newk (k := 2) hl rfl
  have nf0 : fc_1 PRD (23, [23, 2], [0, 1, -1]) ws (vs ++ [Value.int x, Value.int y, Value.int u]) := by
    refine ⟨nf_inA hl rfl, sgq_7 ?_⟩
    · show 1 * v_iv (n_v (vs ++ [Value.int x, Value.int y, Value.int u]) 23) + ((-1) * v_iv (n_v (vs ++ [Value.int x, Value.int y, Value.int u]) 2) + 0) ≤ 0
      simp only [e_2, e_23]
      exact vc_Mo_across2_17_0 (v_iv (n_v vs 2)) (v_iv (n_v vs 15)) (v_iv (n_v vs 16)) (v_iv (Value.int y)) k2 ey2
  have nf1 : fc_1 PRD (23, [23, 2], [0, -1, 1]) ws (vs ++ [Value.int x, Value.int y, Value.int u]) := by
    refine ⟨nf_inA hl rfl, sgq_22 ?_⟩
    · show (-1) * v_iv (n_v (vs ++ [Value.int x, Value.int y, Value.int u]) 23) + (1 * v_iv (n_v (vs ++ [Value.int x, Value.int y, Value.int u]) 2) + 0) ≤ 0
      simp only [e_2, e_23]
      exact vc_Mo_across2_17_1 (v_iv (n_v vs 2)) (v_iv (n_v vs 15)) (v_iv (n_v vs 16)) (v_iv (Value.int y)) k2 ey2
  have nf2 : fc_1 PRD (23, [24, 3], [0, 1, -1]) ws (vs ++ [Value.int x, Value.int y, Value.int u]) := by
    refine ⟨nf_inA hl rfl, sgq_7 ?_⟩
    · show 1 * v_iv (n_v (vs ++ [Value.int x, Value.int y, Value.int u]) 24) + ((-1) * v_iv (n_v (vs ++ [Value.int x, Value.int y, Value.int u]) 3) + 0) ≤ 0
      simp only [e_3, e_24]
      exact vc_Mo_across2_17_2 (v_iv (n_v vs 2)) (v_iv (n_v vs 3)) (v_iv (n_v vs 14)) (v_iv (n_v vs 15)) (v_iv (n_v vs 16)) (v_iv (Value.int y)) (v_iv (Value.int u)) k2 k3 k14 k15 f5 f6 ey2 eu2
  have nf3 : fc_1 PRD (23, [24, 3], [0, -1, 1]) ws (vs ++ [Value.int x, Value.int y, Value.int u]) := by
    refine ⟨nf_inA hl rfl, sgq_22 ?_⟩
    · show (-1) * v_iv (n_v (vs ++ [Value.int x, Value.int y, Value.int u]) 24) + (1 * v_iv (n_v (vs ++ [Value.int x, Value.int y, Value.int u]) 3) + 0) ≤ 0
      simp only [e_3, e_24]
      exact vc_Mo_across2_17_3 (v_iv (n_v vs 2)) (v_iv (n_v vs 3)) (v_iv (n_v vs 14)) (v_iv (n_v vs 15)) (v_iv (n_v vs 16)) (v_iv (Value.int y)) (v_iv (Value.int u)) k2 k3 k14 k15 f5 f6 ey2 eu2
  have nf4 : fc_1 PRD (20, [1, 22], [50, 1, 0, 81, 1, 3, 2, 0, 81, 1, 1]) ws (vs ++ [Value.int x, Value.int y, Value.int u]) := by
    refine ⟨nf_inA hl rfl, sgq_499 ?_⟩
    · show w_fi ws (n_v (vs ++ [Value.int x, Value.int y, Value.int u]) 1) 81 = v_iv (n_v (vs ++ [Value.int x, Value.int y, Value.int u]) 22)
      simp only [e_1, e_22, q1]
      exact vc_Mo_across2_17_4 (v_iv (n_v vs 2)) (v_iv (n_v vs 15)) (v_iv (n_v vs 16)) (w_fi ws (n_v vs 0) 81) (v_iv (Value.int x)) kz_0_81 ex2
  have nf5 : fc_1 PRD (20, [1, 23, 24], [60, 2, 5, 469, 81, 101, 105, 106, 87, 88, 89]) ws (vs ++ [Value.int x, Value.int y, Value.int u]) := by
    refine ⟨nf_inA hl rfl, sgq_500 ?_⟩
    · show PAL2 (w_fi ws (n_v (vs ++ [Value.int x, Value.int y, Value.int u]) 1) 81) (w_fi ws (n_v (vs ++ [Value.int x, Value.int y, Value.int u]) 1) 101) (w_ei ws (w_ar ws (n_v (vs ++ [Value.int x, Value.int y, Value.int u]) 1) 105)) (w_ei ws (w_ar ws (n_v (vs ++ [Value.int x, Value.int y, Value.int u]) 1) 106)) (w_ei ws (w_ar ws (n_v (vs ++ [Value.int x, Value.int y, Value.int u]) 1) 87)) (w_ei ws (w_ar ws (n_v (vs ++ [Value.int x, Value.int y, Value.int u]) 1) 88)) (w_ei ws (w_ar ws (n_v (vs ++ [Value.int x, Value.int y, Value.int u]) 1) 89)) (v_iv (n_v (vs ++ [Value.int x, Value.int y, Value.int u]) 23)) (v_iv (n_v (vs ++ [Value.int x, Value.int y, Value.int u]) 24))
      simp only [e_1, e_23, e_24, q1]
      exact vc_Mo_across2_17_5 (v_iv (n_v vs 2)) (v_iv (n_v vs 3)) (w_ei ws (w_ar ws (n_v vs 0) 106)) (w_ei ws (w_ar ws (n_v vs 0) 105)) (w_fi ws (n_v vs 0) 101) (w_ei ws (w_ar ws (n_v vs 0) 87)) (w_ei ws (w_ar ws (n_v vs 0) 88)) (w_ei ws (w_ar ws (n_v vs 0) 89)) (w_fi ws (n_v vs 0) 81) (v_iv (Value.int y)) (v_iv (Value.int u)) k2 k3 f21 kz_0_81 kz_0_101 ey2 eu2
  have nf6 : fc_1 PRD (20, [1, 23, 24, 12, 16], [60, 1, 2, 466, 101, 105, 106]) ws (vs ++ [Value.int x, Value.int y, Value.int u]) := by
    refine ⟨nf_inA hl rfl, sgq_501 ?_⟩
    · show PAN (w_fi ws (n_v (vs ++ [Value.int x, Value.int y, Value.int u]) 1) 101) (w_ei ws (w_ar ws (n_v (vs ++ [Value.int x, Value.int y, Value.int u]) 1) 105)) (w_ei ws (w_ar ws (n_v (vs ++ [Value.int x, Value.int y, Value.int u]) 1) 106)) (v_iv (n_v (vs ++ [Value.int x, Value.int y, Value.int u]) 23)) (v_iv (n_v (vs ++ [Value.int x, Value.int y, Value.int u]) 24)) (v_iv (n_v (vs ++ [Value.int x, Value.int y, Value.int u]) 12)) (v_iv (n_v (vs ++ [Value.int x, Value.int y, Value.int u]) 16))
      simp only [e_1, e_12, e_16, e_23, e_24, q1]
      exact vc_Mo_across2_17_6 (v_iv (n_v vs 2)) (v_iv (n_v vs 3)) (v_iv (n_v vs 5)) (v_iv (n_v vs 8)) (v_iv (n_v vs 9)) (v_iv (n_v vs 11)) (v_iv (n_v vs 12)) (v_iv (n_v vs 14)) (v_iv (n_v vs 15)) (v_iv (n_v vs 16)) (w_ei ws (w_ar ws (n_v vs 0) 106)) (w_ei ws (w_ar ws (n_v vs 0) 105)) (w_fi ws (n_v vs 0) 101) (v_iv (Value.int y)) (v_iv (Value.int u)) k2 k3 k5 k8 k9 k11 k12 k14 k15 k16 d5 d6 d13 h4 f5 f6 h8 f10 f11 h13 f23 kz_0_101 ey2 eu2
  have nf7 : fc_1 PRD (20, [21], [50, 0, 0, 2, 6, 0, 2, 0, 2, 1, 0, 0, 2, 1, 0, 0, 202]) ws (vs ++ [Value.int x, Value.int y, Value.int u]) := by
    refine ⟨nf_inA hl rfl, sgq_502 ?_⟩
    · show (2 ≤ v_iv (n_v (vs ++ [Value.int x, Value.int y, Value.int u]) 21)) ∧ (v_iv (n_v (vs ++ [Value.int x, Value.int y, Value.int u]) 21) ≤ 202)
      rw [e_21]
      exact vc_Mo_across2_17_7 (v_iv (n_v vs 2)) (v_iv (n_v vs 15)) (v_iv (n_v vs 16)) (v_iv (n_v vs 18)) (v_iv (n_v vs 21)) k18 k21 d1
  exact ⟨(fun _ h => (by cases h)), [Value.int x, Value.int y, Value.int u], ag_three hx hy hu, List.forall_mem_cons.mpr ⟨⟨show (23 : Nat) < 100 from by decide, nf0⟩, List.forall_mem_cons.mpr ⟨⟨show (23 : Nat) < 100 from by decide, nf1⟩, List.forall_mem_cons.mpr ⟨⟨show (23 : Nat) < 100 from by decide, nf2⟩, List.forall_mem_cons.mpr ⟨⟨show (23 : Nat) < 100 from by decide, nf3⟩, List.forall_mem_cons.mpr ⟨⟨show (20 : Nat) < 100 from by decide, nf4⟩, List.forall_mem_cons.mpr ⟨⟨show (20 : Nat) < 100 from by decide, nf5⟩, List.forall_mem_cons.mpr ⟨⟨show (20 : Nat) < 100 from by decide, nf6⟩, List.forall_mem_cons.mpr ⟨⟨show (20 : Nat) < 100 from by decide, nf7⟩, (fun _ h => (by cases h))⟩⟩⟩⟩⟩⟩⟩⟩, (fun _ h => (by cases h))⟩

set_option maxHeartbeats 4000000 in
theorem vc_Mo_across2_18_0 (x2 : Int) (x3 : Int) (x23 : Int) (x24 : Int) (x25 : Int) (layerSize_0 : Int → Int) (layerItem_0 : Int → Int) (layerMany_0 : Int) (apartMany_0 : Int) (apartA_0 : Int → Int) (apartB_0 : Int → Int) (apart_0 : Int → Int) (k2 : 0 ≤ x2 ∧ x2 ≤ 75) (k3 : 1 ≤ x3 ∧ x3 ≤ 75) (k23 : 0 ≤ x23 ∧ x23 ≤ 75) (k24 : 1 ≤ x24 ∧ x24 ≤ 75) (k25 : 2 ≤ x25 ∧ x25 ≤ 76) (d0 : x3 + 1 ≤ x25 ∧ x25 ≤ x3 + 1) (f1 : 1 * x23 + ((-1) * x2 + 0) ≤ 0) (f2 : (-1) * x23 + (1 * x2 + 0) ≤ 0) (f3 : 1 * x24 + ((-1) * x3 + 0) ≤ 0) (f4 : (-1) * x24 + (1 * x3 + 0) ≤ 0) (f19 : PAP (apartMany_0) (layerMany_0) (layerSize_0) (layerItem_0) (apartA_0) (apartB_0) (apart_0) (x23) (x24)) (kz_0_81 : 0 ≤ apartMany_0 ∧ apartMany_0 ≤ 200) (kz_0_101 : 0 ≤ layerMany_0 ∧ layerMany_0 ≤ 76) : PAL2 (apartMany_0) (layerMany_0) (layerSize_0) (layerItem_0) (apartA_0) (apartB_0) (apart_0) (x2) (x25) := by
  first
    | exact paq_less ‹PAL1 _ _ _ _ _ _ _ _› (by omega)
    | (have h := ‹PAP _ _ _ _ _ _ _ _ _›
       exact paq_less h (by omega))
set_option maxHeartbeats 4000000 in
theorem vc_Mo_across2_18_1 (x22 : Int) (x23 : Int) (x24 : Int) (layerSize_0 : Int → Int) (layerItem_0 : Int → Int) (layerMany_0 : Int) (all_0 : Int → Int) (turned_0 : Int → Int) (itemLayer_0 : Int → Int) (firstJoint_0 : Int → Int) (lineA_0 : Int → Int) (lineB_0 : Int → Int) (r_0 : Int) (items_0 : Int) (lines_0 : Int) (pointMany_0 : Int) (apartMany_0 : Int) (apartA_0 : Int → Int) (apartB_0 : Int → Int) (apart_0 : Int → Int) (k22 : 0 ≤ x22 ∧ x22 ≤ 199) (k23 : 0 ≤ x23 ∧ x23 ≤ 75) (k24 : 1 ≤ x24 ∧ x24 ≤ 75) (f9 : LSA (r_0) (items_0) (layerMany_0) (lines_0) (all_0) (turned_0) (itemLayer_0) (firstJoint_0) (lineA_0) (lineB_0)) (f10 : LSB (items_0) (layerMany_0) (itemLayer_0) (layerSize_0) (layerItem_0)) (f12 : pointMany_0 = items_0) (f18 : apartMany_0 = (x22 + 1)) (f19 : PAP (apartMany_0) (layerMany_0) (layerSize_0) (layerItem_0) (apartA_0) (apartB_0) (apart_0) (x23) (x24)) (kz_0_79 : 0 ≤ pointMany_0 ∧ pointMany_0 ≤ 76) (kz_0_81 : 0 ≤ apartMany_0 ∧ apartMany_0 ≤ 200) (kz_0_100 : 0 ≤ items_0 ∧ items_0 ≤ 76) (kz_0_101 : 0 ≤ layerMany_0 ∧ layerMany_0 ≤ 76) (kz_0_107 : 0 ≤ lines_0 ∧ lines_0 ≤ 130) : apartMany_0 ≤ 76 := by
  try simp only [Int.add_zero] at *
  first
    | (have h := paq_am ‹LSB _ _ _ _ _› ‹PAP _ _ _ _ _ _ _ _ _› (by have h := ‹LSA _ _ _ _ _ _ _ _ _ _›.2.1; have n := ‹LSA _ _ _ _ _ _ _ _ _ _›.1.1.1.1; omega); have h2 := ‹LSB _ _ _ _ _›.1; omega)
set_option maxHeartbeats 4000000 in
theorem vc_Mo_across2_18_2 (x25 : Int) (k25 : 2 ≤ x25 ∧ x25 ≤ 76) : 1 ≤ x25 := by
  try simp only [Int.add_zero] at *
  first
    | omega
def o_Mo_across2_18 : or_T := (188, 26, [(0, (2, 0, 0, [165])), (1, (2, 0, 0, [165])), (2, (0, 0, 75, [])), (3, (0, 1, 75, [])), (5, (0, 2, 76, [])), (12, (0, 0, 75, [])), (16, (0, 0, 23, [])), (17, (0, 0, 0, [])), (18, (0, 1, 9, [])), (19, (0, 1, 9, [])), (20, (0, 2, 2, [])), (21, (0, 3, 11, [])), (22, (0, 0, 199, [])), (23, (0, 0, 75, [])), (24, (0, 1, 75, [])), (25, (0, 2, 76, []))], [(6, [25, 3], [1]), (23, [23, 2], [0, 1, -1]), (23, [23, 2], [0, -1, 1]), (23, [24, 3], [0, 1, -1]), (23, [24, 3], [0, -1, 1]), (20, [1, 23, 24, 12, 16], [60, 1, 2, 466, 101, 105, 106]), (20, [21], [50, 0, 0, 2, 6, 0, 2, 0, 2, 1, 0, 0, 2, 1, 0, 0, 202]), (20, [18], [50, 0, 0, 2, 6, 0, 2, 0, 0, 1, 0, 0, 2, 1, 0, 0, 100]), (20, [17], [50, 0, 0, 2, 6, 0, 2, 0, 0, 1, 0, 0, 2, 1, 0, 0, 100]), (20, [1], [60, 4, 6, 445, 5, 100, 101, 107, 2, 95, 102, 104, 108, 109]), (20, [1], [60, 2, 3, 448, 100, 101, 102, 105, 106]), (20, [1], [60, 1, 1, 197, 5, 2]), (20, [1], [50, 2, 0, 79, 100, 1, 3, 2, 0, 79, 2, 0, 100]), (20, [1], [60, 2, 4, 456, 79, 80, 83, 84, 85, 86]), (20, [1], [50, 1, 0, 80, 0, 3, 2, 0, 80, 0, 130]), (20, [2, 1], [50, 1, 0, 1101, 0, 6, 4, 2, 1, 0, 0, 1, 2, 1, 101]), (20, [3], [50, 0, 0, 0, 2, 0, 1, 1, 0]), (24, [0, 1], []), (20, [1, 22], [50, 1, 0, 81, 1, 3, 2, 0, 81, 4, 2, 1, 1, 0, 1]), (20, [1, 23, 24], [60, 2, 5, 467, 81, 101, 105, 106, 87, 88, 89]), (102, [24], [188719626670054478562669105609137414715460010957784007367725271744512, 165081]), (23, [23, 2], [0, 1, -1]), (23, [23, 2], [0, -1, 1]), (23, [24, 3], [0, 1, -1]), (23, [24, 3], [0, -1, 1]), (1, [21, 19, 20], []), (1, [19, 17, 18], []), (7, [3, 5], [2])], [], [], [(20, [1, 2, 25], [60, 2, 5, 469, 81, 101, 105, 106, 87, 88, 89]), (20, [1], [50, 1, 0, 81, 0, 3, 2, 0, 81, 0, 76]), (20, [25], [50, 0, 0, 0, 2, 0, 1, 1, 0])], [], [(25, 3, 1, 1), (25, 5, -4294967296, 0), (21, 19, 2, 2), (21, 18, 2, 2), (19, 18, 0, 0), (3, 5, -4294967296, -1)])
theorem oo_Mo_across2_18 {kA : Nat → ClassId} : or_ok PRD kA GG o_Mo_across2_18 := by
  refine or_mk fun A ta ws vs hD hth hl => ?_
  intro t0 r0 t1 r1 t2 k2 t3 k3 t5 k5 t12 k12 t16 k16 t17 k17 t18 k18 t19 k19 t20 k20 t21 k21 t22 k22 t23 k23 t24 k24 t25 k25 d0 d1 d2 d3 d4 d5 f0 f1 f2 f3 f4 f5 f6 f7 f8 f9 f10 f11 f12 f13 f14 f15 f16 f17 f18 f19 ta1 w1 le1 s1 f21 f22 f23 f24 f25 f26 f27
  replace f1 := shm_7 f1
  replace f2 := shm_22 f2
  replace f3 := shm_7 f3
  replace f4 := shm_22 f4
  replace f9 := shm_674 f9
  replace f10 := shm_675 f10
  replace f12 := shm_1944 f12
  replace f17 := shm_5 f17
  replace f18 := shm_505 f18
  replace f19 := shm_506 f19
  have q1 : n_v vs 1 = n_v vs 0 := f17.symm
  simp only [q1] at f9 f10 f12 f18 f19
  have kz_0_79 := fdq_147 hD hth r0
  have kz_0_81 := fdq_124 hD hth r0
  have kz_0_100 := fdq_162 hD hth r0
  have kz_0_101 := fdq_125 hD hth r0
  have kz_0_107 := fdq_163 hD hth r0
  have nf0 : fc_1 PRD (20, [1, 2, 25], [60, 2, 5, 469, 81, 101, 105, 106, 87, 88, 89]) ws (vs) := by
    refine ⟨nf_in hl rfl, sgq_500 ?_⟩
    · show PAL2 (w_fi ws (n_v vs 1) 81) (w_fi ws (n_v vs 1) 101) (w_ei ws (w_ar ws (n_v vs 1) 105)) (w_ei ws (w_ar ws (n_v vs 1) 106)) (w_ei ws (w_ar ws (n_v vs 1) 87)) (w_ei ws (w_ar ws (n_v vs 1) 88)) (w_ei ws (w_ar ws (n_v vs 1) 89)) (v_iv (n_v vs 2)) (v_iv (n_v vs 25))
      rw [q1]
      exact vc_Mo_across2_18_0 (v_iv (n_v vs 2)) (v_iv (n_v vs 3)) (v_iv (n_v vs 23)) (v_iv (n_v vs 24)) (v_iv (n_v vs 25)) (w_ei ws (w_ar ws (n_v vs 0) 105)) (w_ei ws (w_ar ws (n_v vs 0) 106)) (w_fi ws (n_v vs 0) 101) (w_fi ws (n_v vs 0) 81) (w_ei ws (w_ar ws (n_v vs 0) 87)) (w_ei ws (w_ar ws (n_v vs 0) 88)) (w_ei ws (w_ar ws (n_v vs 0) 89)) k2 k3 k23 k24 k25 d0 f1 f2 f3 f4 f19 kz_0_81 kz_0_101
  have nf1 : fc_1 PRD (20, [1], [50, 1, 0, 81, 0, 3, 2, 0, 81, 0, 76]) ws (vs) := by
    refine ⟨nf_in hl rfl, sgq_1948 ?_⟩
    · show w_fi ws (n_v vs 1) 81 ≤ 76
      rw [q1]
      exact vc_Mo_across2_18_1 (v_iv (n_v vs 22)) (v_iv (n_v vs 23)) (v_iv (n_v vs 24)) (w_ei ws (w_ar ws (n_v vs 0) 105)) (w_ei ws (w_ar ws (n_v vs 0) 106)) (w_fi ws (n_v vs 0) 101) (w_ei ws (w_ar ws (n_v vs 0) 2)) (w_ei ws (w_ar ws (n_v vs 0) 95)) (w_ei ws (w_ar ws (n_v vs 0) 102)) (w_ei ws (w_ar ws (n_v vs 0) 104)) (w_ei ws (w_ar ws (n_v vs 0) 108)) (w_ei ws (w_ar ws (n_v vs 0) 109)) (w_fi ws (n_v vs 0) 5) (w_fi ws (n_v vs 0) 100) (w_fi ws (n_v vs 0) 107) (w_fi ws (n_v vs 0) 79) (w_fi ws (n_v vs 0) 81) (w_ei ws (w_ar ws (n_v vs 0) 87)) (w_ei ws (w_ar ws (n_v vs 0) 88)) (w_ei ws (w_ar ws (n_v vs 0) 89)) k22 k23 k24 f9 f10 f12 f18 f19 kz_0_79 kz_0_81 kz_0_100 kz_0_101 kz_0_107
  have nf2 : fc_1 PRD (20, [25], [50, 0, 0, 0, 2, 0, 1, 1, 0]) ws (vs) := ⟨nf_in hl rfl, sgq_710 (vc_Mo_across2_18_2 (v_iv (n_v vs 25)) k25)⟩
  refine ⟨(fun _ h => (by cases h)), [], trivial, ?_, (fun _ h => (by cases h))⟩
  rw [List.append_nil]
  exact List.forall_mem_cons.mpr ⟨⟨show (20 : Nat) < 100 from by decide, nf0⟩, List.forall_mem_cons.mpr ⟨⟨show (20 : Nat) < 100 from by decide, nf1⟩, List.forall_mem_cons.mpr ⟨⟨show (20 : Nat) < 100 from by decide, nf2⟩, (fun _ h => (by cases h))⟩⟩⟩
set_option maxHeartbeats 4000000 in
theorem vc_Mo_across2_19_0 (x2 : Int) (x15 : Int) (x16 : Int) (gy : Int) (k2 : 0 ≤ x2 ∧ x2 ≤ 75) (ey2 : gy = x2) : 1 * gy + ((-1) * x2 + 0) ≤ 0 := by
  try simp only [Int.add_zero] at *
  first
    | omega
    | (have h := ‹LSA _ _ _ _ _ _ _ _ _ _›.2.1; omega)
set_option maxHeartbeats 4000000 in
theorem vc_Mo_across2_19_1 (x2 : Int) (x15 : Int) (x16 : Int) (gy : Int) (k2 : 0 ≤ x2 ∧ x2 ≤ 75) (ey2 : gy = x2) : (-1) * gy + (1 * x2 + 0) ≤ 0 := by
  try simp only [Int.add_zero] at *
  first
    | omega
    | (have h := ‹LSA _ _ _ _ _ _ _ _ _ _›.2.1; omega)
set_option maxHeartbeats 4000000 in
theorem vc_Mo_across2_19_2 (x2 : Int) (x3 : Int) (x14 : Int) (x15 : Int) (x16 : Int) (gy : Int) (gu : Int) (k2 : 0 ≤ x2 ∧ x2 ≤ 75) (k3 : 1 ≤ x3 ∧ x3 ≤ 75) (k14 : 0 ≤ x14 ∧ x14 ≤ 5700) (k15 : 1 ≤ x15 ∧ x15 ≤ 5775) (f5 : x15 = x14 + x3) (f6 : x14 = 76 * x2) (ey2 : gy = x2) (eu2 : gu = x3) : 1 * gu + ((-1) * x3 + 0) ≤ 0 := by
  try simp only [Int.add_zero] at *
  first
    | omega
    | (have h := ‹LSA _ _ _ _ _ _ _ _ _ _›.2.1; omega)
set_option maxHeartbeats 4000000 in
theorem vc_Mo_across2_19_3 (x2 : Int) (x3 : Int) (x14 : Int) (x15 : Int) (x16 : Int) (gy : Int) (gu : Int) (k2 : 0 ≤ x2 ∧ x2 ≤ 75) (k3 : 1 ≤ x3 ∧ x3 ≤ 75) (k14 : 0 ≤ x14 ∧ x14 ≤ 5700) (k15 : 1 ≤ x15 ∧ x15 ≤ 5775) (f5 : x15 = x14 + x3) (f6 : x14 = 76 * x2) (ey2 : gy = x2) (eu2 : gu = x3) : (-1) * gu + (1 * x3 + 0) ≤ 0 := by
  try simp only [Int.add_zero] at *
  first
    | omega
    | (have h := ‹LSA _ _ _ _ _ _ _ _ _ _›.2.1; omega)
set_option maxHeartbeats 4000000 in
theorem vc_Mo_across2_19_4 (x2 : Int) (x15 : Int) (x16 : Int) (apartMany_0 : Int) (gx : Int) (kz_0_81 : 0 ≤ apartMany_0 ∧ apartMany_0 ≤ 200) (ex2 : gx = apartMany_0) : apartMany_0 = gx := by
  try simp only [Int.add_zero] at *
  first
    | omega
    | (have h := ‹LSA _ _ _ _ _ _ _ _ _ _›.2.1; omega)
set_option maxHeartbeats 4000000 in
theorem vc_Mo_across2_19_5 (x2 : Int) (x3 : Int) (layerItem_0 : Int → Int) (layerSize_0 : Int → Int) (layerMany_0 : Int) (apartA_0 : Int → Int) (apartB_0 : Int → Int) (apart_0 : Int → Int) (apartMany_0 : Int) (gy : Int) (gu : Int) (k2 : 0 ≤ x2 ∧ x2 ≤ 75) (k3 : 1 ≤ x3 ∧ x3 ≤ 75) (f21 : PAL2 (apartMany_0) (layerMany_0) (layerSize_0) (layerItem_0) (apartA_0) (apartB_0) (apart_0) (x2) (x3)) (kz_0_81 : 0 ≤ apartMany_0 ∧ apartMany_0 ≤ 200) (kz_0_101 : 0 ≤ layerMany_0 ∧ layerMany_0 ≤ 76) (ey2 : gy = x2) (eu2 : gu = x3) : PAL2 (apartMany_0) (layerMany_0) (layerSize_0) (layerItem_0) (apartA_0) (apartB_0) (apart_0) (gy) (gu) := by
  rw [ey2, eu2]; assumption
set_option maxHeartbeats 4000000 in
theorem vc_Mo_across2_19_6 (x2 : Int) (x3 : Int) (x5 : Int) (x8 : Int) (x9 : Int) (x11 : Int) (x12 : Int) (x14 : Int) (x15 : Int) (x16 : Int) (layerItem_0 : Int → Int) (layerSize_0 : Int → Int) (layerMany_0 : Int) (gy : Int) (gu : Int) (k2 : 0 ≤ x2 ∧ x2 ≤ 75) (k3 : 1 ≤ x3 ∧ x3 ≤ 75) (k5 : 2 ≤ x5 ∧ x5 ≤ 76) (k8 : 0 ≤ x8 ∧ x8 ≤ 5700) (k9 : 1 ≤ x9 ∧ x9 ≤ 5775) (k11 : 0 ≤ x11 ∧ x11 ≤ 5774) (k12 : 0 ≤ x12 ∧ x12 ≤ 23) (k14 : 0 ≤ x14 ∧ x14 ≤ 5700) (k15 : 1 ≤ x15 ∧ x15 ≤ 5775) (k16 : 0 ≤ x16 ∧ x16 ≤ 75) (d5 : x14 + 1 ≤ x15 ∧ x15 ≤ x14 + 75) (d6 : x9 + (-1) ≤ x11 ∧ x11 ≤ x9 + (-1)) (d13 : x5 + (-4294967296) ≤ x3 ∧ x3 ≤ x5 + (-1)) (h4 : x16 = layerItem_0 (x15)) (f5 : x15 = x14 + x3) (f6 : x14 = 76 * x2) (h8 : x12 = layerItem_0 (x11)) (f10 : x9 = x8 + x3) (f11 : x8 = 76 * x2) (h13 : x5 = layerSize_0 (x2)) (f23 : (x2 + 1) ≤ layerMany_0) (kz_0_101 : 0 ≤ layerMany_0 ∧ layerMany_0 ≤ 76) (ey2 : gy = x2) (eu2 : gu = x3) : PAN (layerMany_0) (layerSize_0) (layerItem_0) (gy) (gu) (x12) (x16) := by
  rw [ey2, eu2]
  exact ⟨by omega, by rw [← (by omega : x11 = 76 * x2 + x3 - 1)]; assumption, by rw [← (by omega : x15 = 76 * x2 + x3)]; assumption⟩
set_option maxHeartbeats 4000000 in
theorem vc_Mo_across2_19_7 (x2 : Int) (x15 : Int) (x16 : Int) (x21 : Int) (k21 : 3 ≤ x21 ∧ x21 ≤ 11) : (2 ≤ x21) ∧ (x21 ≤ 202) := by
  try simp only [Int.add_zero] at *
  first
    | omega
    | (have h := ‹LSA _ _ _ _ _ _ _ _ _ _›.2.1; omega)
def o_Mo_across2_19 : or_T := (243, 22, [(0, (2, 0, 0, [165])), (1, (2, 0, 0, [165])), (2, (0, 0, 75, [])), (3, (0, 1, 75, [])), (4, (2, 0, 0, [238])), (5, (0, 2, 76, [])), (6, (2, 0, 0, [239])), (7, (0, 76, 76, [])), (8, (0, 0, 5700, [])), (9, (0, 1, 5775, [])), (10, (0, 1, 1, [])), (11, (0, 0, 5774, [])), (12, (0, 0, 23, [])), (13, (0, 76, 76, [])), (14, (0, 0, 5700, [])), (15, (0, 1, 5775, [])), (16, (0, 0, 75, [])), (17, (0, 1, 9, [])), (18, (0, 0, 0, [])), (19, (0, 1, 9, [])), (20, (0, 2, 2, [])), (21, (0, 3, 11, []))], [(1, [21, 19, 20], []), (1, [19, 17, 18], []), (20, [18], [50, 0, 0, 2, 6, 0, 2, 0, 0, 1, 0, 0, 2, 1, 0, 0, 100]), (20, [17], [50, 0, 0, 2, 6, 0, 2, 0, 0, 1, 0, 0, 2, 1, 0, 0, 100]), (10, [16, 6, 15], []), (1, [15, 14, 3], []), (3, [14, 13, 2], []), (9, [6, 1], [106]), (10, [12, 6, 11], []), (2, [11, 9, 10], []), (1, [9, 8, 3], []), (3, [8, 7, 2], []), (7, [3, 5], [2]), (10, [5, 4, 2], []), (9, [4, 1], [105]), (20, [1], [60, 4, 6, 445, 5, 100, 101, 107, 2, 95, 102, 104, 108, 109]), (20, [1], [60, 2, 3, 448, 100, 101, 102, 105, 106]), (20, [1], [60, 1, 1, 197, 5, 2]), (20, [1], [50, 2, 0, 79, 100, 1, 3, 2, 0, 79, 2, 0, 100]), (20, [1], [60, 2, 4, 456, 79, 80, 83, 84, 85, 86]), (20, [1], [50, 1, 0, 80, 0, 3, 2, 0, 80, 0, 130]), (20, [1, 2, 3], [60, 2, 5, 469, 81, 101, 105, 106, 87, 88, 89]), (20, [1], [50, 1, 0, 81, 0, 3, 2, 0, 81, 0, 76]), (20, [2, 1], [50, 1, 0, 1101, 0, 6, 4, 2, 1, 0, 0, 1, 2, 1, 101]), (20, [3], [50, 0, 0, 0, 2, 0, 1, 1, 0]), (24, [0, 1], [])], [], [(0, 0, 199, []), (0, 0, 75, []), (0, 1, 75, [])], [(23, [23, 2], [0, 1, -1]), (23, [23, 2], [0, -1, 1]), (23, [24, 3], [0, 1, -1]), (23, [24, 3], [0, -1, 1]), (20, [1, 22], [50, 1, 0, 81, 1, 3, 2, 0, 81, 1, 1]), (20, [1, 23, 24], [60, 2, 5, 469, 81, 101, 105, 106, 87, 88, 89]), (20, [1, 23, 24, 12, 16], [60, 1, 2, 466, 101, 105, 106]), (20, [21], [50, 0, 0, 2, 6, 0, 2, 0, 2, 1, 0, 0, 2, 1, 0, 0, 202])], [], [(21, 19, 2, 2), (21, 17, 2, 2), (19, 17, 0, 0), (15, 3, 0, 5700), (15, 5, -4294967296, 5699), (15, 14, 1, 75), (11, 9, -1, -1), (11, 3, -1, 5699), (11, 5, -4294967296, 5698), (11, 8, 0, 74), (9, 3, 0, 5700), (9, 5, -4294967296, 5699), (9, 8, 1, 75), (3, 5, -4294967296, -1)])
theorem oo_Mo_across2_19 {kA : Nat → ClassId} : or_ok PRD kA GG o_Mo_across2_19 := by
  refine or_mk fun A ta ws vs hD hth hl => ?_
  intro t0 r0 t1 r1 t2 k2 t3 k3 t4 r4 t5 k5 t6 r6 t7 k7 t8 k8 t9 k9 t10 k10 t11 k11 t12 k12 t13 k13 t14 k14 t15 k15 t16 k16 t17 k17 t18 k18 t19 k19 t20 k20 t21 k21 d0 d1 d2 d3 d4 d5 d6 d7 d8 d9 d10 d11 d12 d13 f0 f1 f2 f3 f4 f5 f6 f7 f8 f9 f10 f11 f12 f13 f14 f15 f16 f17 f18 f19 f20 f21 f22 f23 f24 f25
  replace f0 := shm_12 f0
  replace f1 := shm_12 f1
  replace f2 := shm_1142 f2
  replace f3 := shm_1142 f3
  replace f4 := shm_107 f4
  replace f5 := shm_12 f5
  replace f6 := shm_38 f6
  rw [show v_iv (n_v vs 13) = 76 from by omega] at f6
  replace f7 := shm_679 f7
  replace f8 := shm_107 f8
  replace f9 := shm_14 f9
  replace f10 := shm_12 f10
  replace f11 := shm_38 f11
  rw [show v_iv (n_v vs 7) = 76 from by omega] at f11
  replace f12 := shm_6 f12
  replace f13 := shm_107 f13
  replace f14 := shm_619 f14
  replace f15 := shm_674 f15
  replace f16 := shm_675 f16
  replace f17 := shm_1452 f17
  replace f18 := shm_1944 f18
  replace f19 := shm_558 f19
  replace f20 := shm_1946 f20
  replace f21 := shm_500 f21
  replace f22 := shm_1948 f22
  replace f23 := shm_1949 f23
  replace f24 := shm_710 f24
  replace f25 := shm_5 f25
  have q1 : n_v vs 1 = n_v vs 0 := f25.symm
  simp only [q1] at f7 f14 f15 f16 f17 f18 f19 f20 f21 f22 f23
  have cr_0_2 := fdq_10 hD hth r0
  have cr_0_83 := fdq_126 hD hth r0
  have cr_0_84 := fdq_127 hD hth r0
  have cr_0_85 := fdq_128 hD hth r0
  have cr_0_86 := fdq_129 hD hth r0
  have cr_0_87 := fdq_119 hD hth r0
  have cr_0_88 := fdq_120 hD hth r0
  have cr_0_89 := fdq_121 hD hth r0
  have cr_0_95 := fdq_130 hD hth r0
  have cr_0_102 := fdq_159 hD hth r0
  have cr_0_104 := fdq_170 hD hth r0
  have cr_0_105 := fdq_122 hD hth r0
  have cr_0_106 := fdq_123 hD hth r0
  have cr_0_108 := fdq_160 hD hth r0
  have cr_0_109 := fdq_161 hD hth r0
  have ad_6 : v_ad (n_v vs 6) = w_ar ws (n_v vs 0) 106 := congrArg v_ad f7
  have ad_4 : v_ad (n_v vs 4) = w_ar ws (n_v vs 0) 105 := congrArg v_ad f14
  simp only [ad_6] at f4
  have h4 : v_iv (n_v vs 16) = w_ei ws (w_ar ws (n_v vs 0) 106) (v_iv (n_v vs 15)) := f4
  simp only [ad_6] at f8
  have h8 : v_iv (n_v vs 12) = w_ei ws (w_ar ws (n_v vs 0) 106) (v_iv (n_v vs 11)) := f8
  simp only [ad_4] at f13
  have h13 : v_iv (n_v vs 5) = w_ei ws (w_ar ws (n_v vs 0) 105) (v_iv (n_v vs 2)) := f13
  have hK_0_83 := elq_67 hD hth cr_0_83
  have hK_0_84 := elq_68 hD hth cr_0_84
  have hK_0_85 := elq_69 hD hth cr_0_85
  have hK_0_86 := elq_70 hD hth cr_0_86
  have hK_0_87 := elq_62 hD hth cr_0_87
  have hK_0_88 := elq_63 hD hth cr_0_88
  have hK_0_89 := elq_64 hD hth cr_0_89
  have hK_0_95 := elq_71 hD hth cr_0_95
  have hK_0_102 := elq_91 hD hth cr_0_102
  have hK_0_104 := elq_100 hD hth cr_0_104
  have hK_0_105 := elq_65 hD hth cr_0_105
  have hK_0_106 := elq_66 hD hth cr_0_106
  have hK_0_108 := elq_92 hD hth cr_0_108
  have hK_0_109 := elq_93 hD hth cr_0_109
  have kz_0_79 := fdq_147 hD hth r0
  have kz_0_80 := fdq_131 hD hth r0
  have kz_0_81 := fdq_124 hD hth r0
  have kz_0_100 := fdq_162 hD hth r0
  have kz_0_101 := fdq_125 hD hth r0
  have kz_0_107 := fdq_163 hD hth r0
  have kv0 := fdq_124 hD hth r0
  obtain ⟨x, ex, hx⟩ := iv_ex (ta := ta) (lo := 0) (hi := 199) (z := w_fi ws (n_v vs 0) 81) (by omega) (by omega) (by omega) (by omega)
  have ex2 : v_iv (Value.int x) = w_fi ws (n_v vs 0) 81 := ex
  have ex3 : 0 ≤ v_iv (Value.int x) ∧ v_iv (Value.int x) ≤ 199 := tv_rng hx
  obtain ⟨y, ey, hy⟩ := iv_ex (ta := ta) (lo := 0) (hi := 75) (z := v_iv (n_v vs 2)) (by omega) (by omega) (by omega) (by omega)
  have ey2 : v_iv (Value.int y) = v_iv (n_v vs 2) := ey
  have ey3 : 0 ≤ v_iv (Value.int y) ∧ v_iv (Value.int y) ≤ 75 := tv_rng hy
  obtain ⟨u, eu, hu⟩ := iv_ex (ta := ta) (lo := 1) (hi := 75) (z := v_iv (n_v vs 3)) (by omega) (by omega) (by omega) (by omega)
  have eu2 : v_iv (Value.int u) = v_iv (n_v vs 3) := eu
  have eu3 : 1 ≤ v_iv (Value.int u) ∧ v_iv (Value.int u) ≤ 75 := tv_rng hu
  have e_1 : n_v (vs ++ [Value.int x, Value.int y, Value.int u]) 1 = n_v vs 1 := n_v_old (by rw [hl]; decide)
  have e_2 : n_v (vs ++ [Value.int x, Value.int y, Value.int u]) 2 = n_v vs 2 := n_v_old (by rw [hl]; decide)
  have e_3 : n_v (vs ++ [Value.int x, Value.int y, Value.int u]) 3 = n_v vs 3 := n_v_old (by rw [hl]; decide)
  have e_12 : n_v (vs ++ [Value.int x, Value.int y, Value.int u]) 12 = n_v vs 12 := n_v_old (by rw [hl]; decide)
  have e_16 : n_v (vs ++ [Value.int x, Value.int y, Value.int u]) 16 = n_v vs 16 := n_v_old (by rw [hl]; decide)
  have e_21 : n_v (vs ++ [Value.int x, Value.int y, Value.int u]) 21 = n_v vs 21 := n_v_old (by rw [hl]; decide)
  have e_22 : n_v (vs ++ [Value.int x, Value.int y, Value.int u]) 22 = Value.int x := n_v_newk (k := 0) hl rfl
  have e_23 : n_v (vs ++ [Value.int x, Value.int y, Value.int u]) 23 = Value.int y := n_v_newk (k := 1) hl rfl
  have e_24 : n_v (vs ++ [Value.int x, Value.int y, Value.int u]) 24 = Value.int u := n_v_newk (k := 2) hl rfl
  have nf0 : fc_1 PRD (23, [23, 2], [0, 1, -1]) ws (vs ++ [Value.int x, Value.int y, Value.int u]) := by
    refine ⟨nf_inA hl rfl, sgq_7 ?_⟩
    · show 1 * v_iv (n_v (vs ++ [Value.int x, Value.int y, Value.int u]) 23) + ((-1) * v_iv (n_v (vs ++ [Value.int x, Value.int y, Value.int u]) 2) + 0) ≤ 0
      simp only [e_2, e_23]
      exact vc_Mo_across2_19_0 (v_iv (n_v vs 2)) (v_iv (n_v vs 15)) (v_iv (n_v vs 16)) (v_iv (Value.int y)) k2 ey2
  have nf1 : fc_1 PRD (23, [23, 2], [0, -1, 1]) ws (vs ++ [Value.int x, Value.int y, Value.int u]) := by
    refine ⟨nf_inA hl rfl, sgq_22 ?_⟩
    · show (-1) * v_iv (n_v (vs ++ [Value.int x, Value.int y, Value.int u]) 23) + (1 * v_iv (n_v (vs ++ [Value.int x, Value.int y, Value.int u]) 2) + 0) ≤ 0
      simp only [e_2, e_23]
      exact vc_Mo_across2_19_1 (v_iv (n_v vs 2)) (v_iv (n_v vs 15)) (v_iv (n_v vs 16)) (v_iv (Value.int y)) k2 ey2
  have nf2 : fc_1 PRD (23, [24, 3], [0, 1, -1]) ws (vs ++ [Value.int x, Value.int y, Value.int u]) := by
    refine ⟨nf_inA hl rfl, sgq_7 ?_⟩
    · show 1 * v_iv (n_v (vs ++ [Value.int x, Value.int y, Value.int u]) 24) + ((-1) * v_iv (n_v (vs ++ [Value.int x, Value.int y, Value.int u]) 3) + 0) ≤ 0
      simp only [e_3, e_24]
      exact vc_Mo_across2_19_2 (v_iv (n_v vs 2)) (v_iv (n_v vs 3)) (v_iv (n_v vs 14)) (v_iv (n_v vs 15)) (v_iv (n_v vs 16)) (v_iv (Value.int y)) (v_iv (Value.int u)) k2 k3 k14 k15 f5 f6 ey2 eu2
  have nf3 : fc_1 PRD (23, [24, 3], [0, -1, 1]) ws (vs ++ [Value.int x, Value.int y, Value.int u]) := by
    refine ⟨nf_inA hl rfl, sgq_22 ?_⟩
    · show (-1) * v_iv (n_v (vs ++ [Value.int x, Value.int y, Value.int u]) 24) + (1 * v_iv (n_v (vs ++ [Value.int x, Value.int y, Value.int u]) 3) + 0) ≤ 0
      simp only [e_3, e_24]
      exact vc_Mo_across2_19_3 (v_iv (n_v vs 2)) (v_iv (n_v vs 3)) (v_iv (n_v vs 14)) (v_iv (n_v vs 15)) (v_iv (n_v vs 16)) (v_iv (Value.int y)) (v_iv (Value.int u)) k2 k3 k14 k15 f5 f6 ey2 eu2
  have nf4 : fc_1 PRD (20, [1, 22], [50, 1, 0, 81, 1, 3, 2, 0, 81, 1, 1]) ws (vs ++ [Value.int x, Value.int y, Value.int u]) := by
    refine ⟨nf_inA hl rfl, sgq_499 ?_⟩
    · show w_fi ws (n_v (vs ++ [Value.int x, Value.int y, Value.int u]) 1) 81 = v_iv (n_v (vs ++ [Value.int x, Value.int y, Value.int u]) 22)
      simp only [e_1, e_22, q1]
      exact vc_Mo_across2_19_4 (v_iv (n_v vs 2)) (v_iv (n_v vs 15)) (v_iv (n_v vs 16)) (w_fi ws (n_v vs 0) 81) (v_iv (Value.int x)) kz_0_81 ex2
  have nf5 : fc_1 PRD (20, [1, 23, 24], [60, 2, 5, 469, 81, 101, 105, 106, 87, 88, 89]) ws (vs ++ [Value.int x, Value.int y, Value.int u]) := by
    refine ⟨nf_inA hl rfl, sgq_500 ?_⟩
    · show PAL2 (w_fi ws (n_v (vs ++ [Value.int x, Value.int y, Value.int u]) 1) 81) (w_fi ws (n_v (vs ++ [Value.int x, Value.int y, Value.int u]) 1) 101) (w_ei ws (w_ar ws (n_v (vs ++ [Value.int x, Value.int y, Value.int u]) 1) 105)) (w_ei ws (w_ar ws (n_v (vs ++ [Value.int x, Value.int y, Value.int u]) 1) 106)) (w_ei ws (w_ar ws (n_v (vs ++ [Value.int x, Value.int y, Value.int u]) 1) 87)) (w_ei ws (w_ar ws (n_v (vs ++ [Value.int x, Value.int y, Value.int u]) 1) 88)) (w_ei ws (w_ar ws (n_v (vs ++ [Value.int x, Value.int y, Value.int u]) 1) 89)) (v_iv (n_v (vs ++ [Value.int x, Value.int y, Value.int u]) 23)) (v_iv (n_v (vs ++ [Value.int x, Value.int y, Value.int u]) 24))
      simp only [e_1, e_23, e_24, q1]
      exact vc_Mo_across2_19_5 (v_iv (n_v vs 2)) (v_iv (n_v vs 3)) (w_ei ws (w_ar ws (n_v vs 0) 106)) (w_ei ws (w_ar ws (n_v vs 0) 105)) (w_fi ws (n_v vs 0) 101) (w_ei ws (w_ar ws (n_v vs 0) 87)) (w_ei ws (w_ar ws (n_v vs 0) 88)) (w_ei ws (w_ar ws (n_v vs 0) 89)) (w_fi ws (n_v vs 0) 81) (v_iv (Value.int y)) (v_iv (Value.int u)) k2 k3 f21 kz_0_81 kz_0_101 ey2 eu2
  have nf6 : fc_1 PRD (20, [1, 23, 24, 12, 16], [60, 1, 2, 466, 101, 105, 106]) ws (vs ++ [Value.int x, Value.int y, Value.int u]) := by
    refine ⟨nf_inA hl rfl, sgq_501 ?_⟩
    · show PAN (w_fi ws (n_v (vs ++ [Value.int x, Value.int y, Value.int u]) 1) 101) (w_ei ws (w_ar ws (n_v (vs ++ [Value.int x, Value.int y, Value.int u]) 1) 105)) (w_ei ws (w_ar ws (n_v (vs ++ [Value.int x, Value.int y, Value.int u]) 1) 106)) (v_iv (n_v (vs ++ [Value.int x, Value.int y, Value.int u]) 23)) (v_iv (n_v (vs ++ [Value.int x, Value.int y, Value.int u]) 24)) (v_iv (n_v (vs ++ [Value.int x, Value.int y, Value.int u]) 12)) (v_iv (n_v (vs ++ [Value.int x, Value.int y, Value.int u]) 16))
      simp only [e_1, e_12, e_16, e_23, e_24, q1]
      exact vc_Mo_across2_19_6 (v_iv (n_v vs 2)) (v_iv (n_v vs 3)) (v_iv (n_v vs 5)) (v_iv (n_v vs 8)) (v_iv (n_v vs 9)) (v_iv (n_v vs 11)) (v_iv (n_v vs 12)) (v_iv (n_v vs 14)) (v_iv (n_v vs 15)) (v_iv (n_v vs 16)) (w_ei ws (w_ar ws (n_v vs 0) 106)) (w_ei ws (w_ar ws (n_v vs 0) 105)) (w_fi ws (n_v vs 0) 101) (v_iv (Value.int y)) (v_iv (Value.int u)) k2 k3 k5 k8 k9 k11 k12 k14 k15 k16 d5 d6 d13 h4 f5 f6 h8 f10 f11 h13 f23 kz_0_101 ey2 eu2
  have nf7 : fc_1 PRD (20, [21], [50, 0, 0, 2, 6, 0, 2, 0, 2, 1, 0, 0, 2, 1, 0, 0, 202]) ws (vs ++ [Value.int x, Value.int y, Value.int u]) := by
    refine ⟨nf_inA hl rfl, sgq_502 ?_⟩
    · show (2 ≤ v_iv (n_v (vs ++ [Value.int x, Value.int y, Value.int u]) 21)) ∧ (v_iv (n_v (vs ++ [Value.int x, Value.int y, Value.int u]) 21) ≤ 202)
      rw [e_21]
      exact vc_Mo_across2_19_7 (v_iv (n_v vs 2)) (v_iv (n_v vs 15)) (v_iv (n_v vs 16)) (v_iv (n_v vs 21)) k21
  exact ⟨(fun _ h => (by cases h)), [Value.int x, Value.int y, Value.int u], ag_three hx hy hu, List.forall_mem_cons.mpr ⟨⟨show (23 : Nat) < 100 from by decide, nf0⟩, List.forall_mem_cons.mpr ⟨⟨show (23 : Nat) < 100 from by decide, nf1⟩, List.forall_mem_cons.mpr ⟨⟨show (23 : Nat) < 100 from by decide, nf2⟩, List.forall_mem_cons.mpr ⟨⟨show (23 : Nat) < 100 from by decide, nf3⟩, List.forall_mem_cons.mpr ⟨⟨show (20 : Nat) < 100 from by decide, nf4⟩, List.forall_mem_cons.mpr ⟨⟨show (20 : Nat) < 100 from by decide, nf5⟩, List.forall_mem_cons.mpr ⟨⟨show (20 : Nat) < 100 from by decide, nf6⟩, List.forall_mem_cons.mpr ⟨⟨show (20 : Nat) < 100 from by decide, nf7⟩, (fun _ h => (by cases h))⟩⟩⟩⟩⟩⟩⟩⟩, (fun _ h => (by cases h))⟩
set_option maxHeartbeats 4000000 in
theorem vc_Mo_across2_20_0 (x2 : Int) (x3 : Int) (x23 : Int) (x24 : Int) (x25 : Int) (layerSize_0 : Int → Int) (layerItem_0 : Int → Int) (layerMany_0 : Int) (apartMany_0 : Int) (apartA_0 : Int → Int) (apartB_0 : Int → Int) (apart_0 : Int → Int) (k2 : 0 ≤ x2 ∧ x2 ≤ 75) (k3 : 1 ≤ x3 ∧ x3 ≤ 75) (k23 : 0 ≤ x23 ∧ x23 ≤ 75) (k24 : 1 ≤ x24 ∧ x24 ≤ 75) (k25 : 2 ≤ x25 ∧ x25 ≤ 76) (d0 : x3 + 1 ≤ x25 ∧ x25 ≤ x3 + 1) (f1 : 1 * x23 + ((-1) * x2 + 0) ≤ 0) (f2 : (-1) * x23 + (1 * x2 + 0) ≤ 0) (f3 : 1 * x24 + ((-1) * x3 + 0) ≤ 0) (f4 : (-1) * x24 + (1 * x3 + 0) ≤ 0) (f19 : PAP (apartMany_0) (layerMany_0) (layerSize_0) (layerItem_0) (apartA_0) (apartB_0) (apart_0) (x23) (x24)) (kz_0_81 : 0 ≤ apartMany_0 ∧ apartMany_0 ≤ 200) (kz_0_101 : 0 ≤ layerMany_0 ∧ layerMany_0 ≤ 76) : PAL2 (apartMany_0) (layerMany_0) (layerSize_0) (layerItem_0) (apartA_0) (apartB_0) (apart_0) (x2) (x25) := by
  first
    | exact paq_less ‹PAL1 _ _ _ _ _ _ _ _› (by omega)
    | (have h := ‹PAP _ _ _ _ _ _ _ _ _›
       exact paq_less h (by omega))
set_option maxHeartbeats 4000000 in
theorem vc_Mo_across2_20_1 (x22 : Int) (x23 : Int) (x24 : Int) (layerSize_0 : Int → Int) (layerItem_0 : Int → Int) (layerMany_0 : Int) (all_0 : Int → Int) (turned_0 : Int → Int) (itemLayer_0 : Int → Int) (firstJoint_0 : Int → Int) (lineA_0 : Int → Int) (lineB_0 : Int → Int) (r_0 : Int) (items_0 : Int) (lines_0 : Int) (pointMany_0 : Int) (apartMany_0 : Int) (apartA_0 : Int → Int) (apartB_0 : Int → Int) (apart_0 : Int → Int) (k22 : 0 ≤ x22 ∧ x22 ≤ 199) (k23 : 0 ≤ x23 ∧ x23 ≤ 75) (k24 : 1 ≤ x24 ∧ x24 ≤ 75) (f9 : LSA (r_0) (items_0) (layerMany_0) (lines_0) (all_0) (turned_0) (itemLayer_0) (firstJoint_0) (lineA_0) (lineB_0)) (f10 : LSB (items_0) (layerMany_0) (itemLayer_0) (layerSize_0) (layerItem_0)) (f12 : pointMany_0 = items_0) (f18 : apartMany_0 = (x22 + 1)) (f19 : PAP (apartMany_0) (layerMany_0) (layerSize_0) (layerItem_0) (apartA_0) (apartB_0) (apart_0) (x23) (x24)) (kz_0_79 : 0 ≤ pointMany_0 ∧ pointMany_0 ≤ 76) (kz_0_81 : 0 ≤ apartMany_0 ∧ apartMany_0 ≤ 200) (kz_0_100 : 0 ≤ items_0 ∧ items_0 ≤ 76) (kz_0_101 : 0 ≤ layerMany_0 ∧ layerMany_0 ≤ 76) (kz_0_107 : 0 ≤ lines_0 ∧ lines_0 ≤ 130) : apartMany_0 ≤ 76 := by
  try simp only [Int.add_zero] at *
  first
    | (have h := paq_am ‹LSB _ _ _ _ _› ‹PAP _ _ _ _ _ _ _ _ _› (by have h := ‹LSA _ _ _ _ _ _ _ _ _ _›.2.1; have n := ‹LSA _ _ _ _ _ _ _ _ _ _›.1.1.1.1; omega); have h2 := ‹LSB _ _ _ _ _›.1; omega)
set_option maxHeartbeats 4000000 in
theorem vc_Mo_across2_20_2 (x25 : Int) (k25 : 2 ≤ x25 ∧ x25 ≤ 76) : 1 ≤ x25 := by
  try simp only [Int.add_zero] at *
  first
    | omega
def o_Mo_across2_20 : or_T := (188, 26, [(0, (2, 0, 0, [165])), (1, (2, 0, 0, [165])), (2, (0, 0, 75, [])), (3, (0, 1, 75, [])), (5, (0, 2, 76, [])), (12, (0, 0, 23, [])), (16, (0, 0, 75, [])), (17, (0, 1, 9, [])), (18, (0, 0, 0, [])), (19, (0, 1, 9, [])), (20, (0, 2, 2, [])), (21, (0, 3, 11, [])), (22, (0, 0, 199, [])), (23, (0, 0, 75, [])), (24, (0, 1, 75, [])), (25, (0, 2, 76, []))], [(6, [25, 3], [1]), (23, [23, 2], [0, 1, -1]), (23, [23, 2], [0, -1, 1]), (23, [24, 3], [0, 1, -1]), (23, [24, 3], [0, -1, 1]), (20, [1, 23, 24, 12, 16], [60, 1, 2, 466, 101, 105, 106]), (20, [21], [50, 0, 0, 2, 6, 0, 2, 0, 2, 1, 0, 0, 2, 1, 0, 0, 202]), (20, [18], [50, 0, 0, 2, 6, 0, 2, 0, 0, 1, 0, 0, 2, 1, 0, 0, 100]), (20, [17], [50, 0, 0, 2, 6, 0, 2, 0, 0, 1, 0, 0, 2, 1, 0, 0, 100]), (20, [1], [60, 4, 6, 445, 5, 100, 101, 107, 2, 95, 102, 104, 108, 109]), (20, [1], [60, 2, 3, 448, 100, 101, 102, 105, 106]), (20, [1], [60, 1, 1, 197, 5, 2]), (20, [1], [50, 2, 0, 79, 100, 1, 3, 2, 0, 79, 2, 0, 100]), (20, [1], [60, 2, 4, 456, 79, 80, 83, 84, 85, 86]), (20, [1], [50, 1, 0, 80, 0, 3, 2, 0, 80, 0, 130]), (20, [2, 1], [50, 1, 0, 1101, 0, 6, 4, 2, 1, 0, 0, 1, 2, 1, 101]), (20, [3], [50, 0, 0, 0, 2, 0, 1, 1, 0]), (24, [0, 1], []), (20, [1, 22], [50, 1, 0, 81, 1, 3, 2, 0, 81, 4, 2, 1, 1, 0, 1]), (20, [1, 23, 24], [60, 2, 5, 467, 81, 101, 105, 106, 87, 88, 89]), (102, [24], [188719626670054478562669105609137414715460010957784007367725271744512, 165081]), (23, [23, 2], [0, 1, -1]), (23, [23, 2], [0, -1, 1]), (23, [24, 3], [0, 1, -1]), (23, [24, 3], [0, -1, 1]), (1, [21, 19, 20], []), (1, [19, 17, 18], []), (7, [3, 5], [2])], [], [], [(20, [1, 2, 25], [60, 2, 5, 469, 81, 101, 105, 106, 87, 88, 89]), (20, [1], [50, 1, 0, 81, 0, 3, 2, 0, 81, 0, 76]), (20, [25], [50, 0, 0, 0, 2, 0, 1, 1, 0])], [], [(25, 3, 1, 1), (25, 5, -4294967296, 0), (21, 19, 2, 2), (21, 17, 2, 2), (19, 17, 0, 0), (3, 5, -4294967296, -1)])
theorem oo_Mo_across2_20 {kA : Nat → ClassId} : or_ok PRD kA GG o_Mo_across2_20 := by
  refine or_mk fun A ta ws vs hD hth hl => ?_
  intro t0 r0 t1 r1 t2 k2 t3 k3 t5 k5 t12 k12 t16 k16 t17 k17 t18 k18 t19 k19 t20 k20 t21 k21 t22 k22 t23 k23 t24 k24 t25 k25 d0 d1 d2 d3 d4 d5 f0 f1 f2 f3 f4 f5 f6 f7 f8 f9 f10 f11 f12 f13 f14 f15 f16 f17 f18 f19 ta1 w1 le1 s1 f21 f22 f23 f24 f25 f26 f27
  replace f1 := shm_7 f1
  replace f2 := shm_22 f2
  replace f3 := shm_7 f3
  replace f4 := shm_22 f4
  replace f9 := shm_674 f9
  replace f10 := shm_675 f10
  replace f12 := shm_1944 f12
  replace f17 := shm_5 f17
  replace f18 := shm_505 f18
  replace f19 := shm_506 f19
  have q1 : n_v vs 1 = n_v vs 0 := f17.symm
  simp only [q1] at f9 f10 f12 f18 f19
  have kz_0_79 := fdq_147 hD hth r0
  have kz_0_81 := fdq_124 hD hth r0
  have kz_0_100 := fdq_162 hD hth r0
  have kz_0_101 := fdq_125 hD hth r0
  have kz_0_107 := fdq_163 hD hth r0
  have nf0 : fc_1 PRD (20, [1, 2, 25], [60, 2, 5, 469, 81, 101, 105, 106, 87, 88, 89]) ws (vs) := by
    refine ⟨nf_in hl rfl, sgq_500 ?_⟩
    · show PAL2 (w_fi ws (n_v vs 1) 81) (w_fi ws (n_v vs 1) 101) (w_ei ws (w_ar ws (n_v vs 1) 105)) (w_ei ws (w_ar ws (n_v vs 1) 106)) (w_ei ws (w_ar ws (n_v vs 1) 87)) (w_ei ws (w_ar ws (n_v vs 1) 88)) (w_ei ws (w_ar ws (n_v vs 1) 89)) (v_iv (n_v vs 2)) (v_iv (n_v vs 25))
      rw [q1]
      exact vc_Mo_across2_20_0 (v_iv (n_v vs 2)) (v_iv (n_v vs 3)) (v_iv (n_v vs 23)) (v_iv (n_v vs 24)) (v_iv (n_v vs 25)) (w_ei ws (w_ar ws (n_v vs 0) 105)) (w_ei ws (w_ar ws (n_v vs 0) 106)) (w_fi ws (n_v vs 0) 101) (w_fi ws (n_v vs 0) 81) (w_ei ws (w_ar ws (n_v vs 0) 87)) (w_ei ws (w_ar ws (n_v vs 0) 88)) (w_ei ws (w_ar ws (n_v vs 0) 89)) k2 k3 k23 k24 k25 d0 f1 f2 f3 f4 f19 kz_0_81 kz_0_101
  have nf1 : fc_1 PRD (20, [1], [50, 1, 0, 81, 0, 3, 2, 0, 81, 0, 76]) ws (vs) := by
    refine ⟨nf_in hl rfl, sgq_1948 ?_⟩
    · show w_fi ws (n_v vs 1) 81 ≤ 76
      rw [q1]
      exact vc_Mo_across2_20_1 (v_iv (n_v vs 22)) (v_iv (n_v vs 23)) (v_iv (n_v vs 24)) (w_ei ws (w_ar ws (n_v vs 0) 105)) (w_ei ws (w_ar ws (n_v vs 0) 106)) (w_fi ws (n_v vs 0) 101) (w_ei ws (w_ar ws (n_v vs 0) 2)) (w_ei ws (w_ar ws (n_v vs 0) 95)) (w_ei ws (w_ar ws (n_v vs 0) 102)) (w_ei ws (w_ar ws (n_v vs 0) 104)) (w_ei ws (w_ar ws (n_v vs 0) 108)) (w_ei ws (w_ar ws (n_v vs 0) 109)) (w_fi ws (n_v vs 0) 5) (w_fi ws (n_v vs 0) 100) (w_fi ws (n_v vs 0) 107) (w_fi ws (n_v vs 0) 79) (w_fi ws (n_v vs 0) 81) (w_ei ws (w_ar ws (n_v vs 0) 87)) (w_ei ws (w_ar ws (n_v vs 0) 88)) (w_ei ws (w_ar ws (n_v vs 0) 89)) k22 k23 k24 f9 f10 f12 f18 f19 kz_0_79 kz_0_81 kz_0_100 kz_0_101 kz_0_107
  have nf2 : fc_1 PRD (20, [25], [50, 0, 0, 0, 2, 0, 1, 1, 0]) ws (vs) := ⟨nf_in hl rfl, sgq_710 (vc_Mo_across2_20_2 (v_iv (n_v vs 25)) k25)⟩
  refine ⟨(fun _ h => (by cases h)), [], trivial, ?_, (fun _ h => (by cases h))⟩
  rw [List.append_nil]
  exact List.forall_mem_cons.mpr ⟨⟨show (20 : Nat) < 100 from by decide, nf0⟩, List.forall_mem_cons.mpr ⟨⟨show (20 : Nat) < 100 from by decide, nf1⟩, List.forall_mem_cons.mpr ⟨⟨show (20 : Nat) < 100 from by decide, nf2⟩, (fun _ h => (by cases h))⟩⟩⟩
set_option maxHeartbeats 4000000 in
theorem vc_Mo_across2_21_0 (x2 : Int) (x15 : Int) (x16 : Int) (gy : Int) (k2 : 0 ≤ x2 ∧ x2 ≤ 75) (ey2 : gy = x2) : 1 * gy + ((-1) * x2 + 0) ≤ 0 := by
  try simp only [Int.add_zero] at *
  first
    | omega
    | (have h := ‹LSA _ _ _ _ _ _ _ _ _ _›.2.1; omega)
set_option maxHeartbeats 4000000 in
theorem vc_Mo_across2_21_1 (x2 : Int) (x15 : Int) (x16 : Int) (gy : Int) (k2 : 0 ≤ x2 ∧ x2 ≤ 75) (ey2 : gy = x2) : (-1) * gy + (1 * x2 + 0) ≤ 0 := by
  try simp only [Int.add_zero] at *
  first
    | omega
    | (have h := ‹LSA _ _ _ _ _ _ _ _ _ _›.2.1; omega)
set_option maxHeartbeats 4000000 in
theorem vc_Mo_across2_21_2 (x2 : Int) (x3 : Int) (x14 : Int) (x15 : Int) (x16 : Int) (gy : Int) (gu : Int) (k2 : 0 ≤ x2 ∧ x2 ≤ 75) (k3 : 1 ≤ x3 ∧ x3 ≤ 75) (k14 : 0 ≤ x14 ∧ x14 ≤ 5700) (k15 : 1 ≤ x15 ∧ x15 ≤ 5775) (f5 : x15 = x14 + x3) (f6 : x14 = 76 * x2) (ey2 : gy = x2) (eu2 : gu = x3) : 1 * gu + ((-1) * x3 + 0) ≤ 0 := by
  try simp only [Int.add_zero] at *
  first
    | omega
    | (have h := ‹LSA _ _ _ _ _ _ _ _ _ _›.2.1; omega)
set_option maxHeartbeats 4000000 in
theorem vc_Mo_across2_21_3 (x2 : Int) (x3 : Int) (x14 : Int) (x15 : Int) (x16 : Int) (gy : Int) (gu : Int) (k2 : 0 ≤ x2 ∧ x2 ≤ 75) (k3 : 1 ≤ x3 ∧ x3 ≤ 75) (k14 : 0 ≤ x14 ∧ x14 ≤ 5700) (k15 : 1 ≤ x15 ∧ x15 ≤ 5775) (f5 : x15 = x14 + x3) (f6 : x14 = 76 * x2) (ey2 : gy = x2) (eu2 : gu = x3) : (-1) * gu + (1 * x3 + 0) ≤ 0 := by
  try simp only [Int.add_zero] at *
  first
    | omega
    | (have h := ‹LSA _ _ _ _ _ _ _ _ _ _›.2.1; omega)
set_option maxHeartbeats 4000000 in
theorem vc_Mo_across2_21_4 (x2 : Int) (x15 : Int) (x16 : Int) (apartMany_0 : Int) (gx : Int) (kz_0_81 : 0 ≤ apartMany_0 ∧ apartMany_0 ≤ 200) (ex2 : gx = apartMany_0) : apartMany_0 = gx := by
  try simp only [Int.add_zero] at *
  first
    | omega
    | (have h := ‹LSA _ _ _ _ _ _ _ _ _ _›.2.1; omega)
set_option maxHeartbeats 4000000 in
theorem vc_Mo_across2_21_5 (x2 : Int) (x3 : Int) (layerItem_0 : Int → Int) (layerSize_0 : Int → Int) (layerMany_0 : Int) (apartA_0 : Int → Int) (apartB_0 : Int → Int) (apart_0 : Int → Int) (apartMany_0 : Int) (gy : Int) (gu : Int) (k2 : 0 ≤ x2 ∧ x2 ≤ 75) (k3 : 1 ≤ x3 ∧ x3 ≤ 75) (f21 : PAL2 (apartMany_0) (layerMany_0) (layerSize_0) (layerItem_0) (apartA_0) (apartB_0) (apart_0) (x2) (x3)) (kz_0_81 : 0 ≤ apartMany_0 ∧ apartMany_0 ≤ 200) (kz_0_101 : 0 ≤ layerMany_0 ∧ layerMany_0 ≤ 76) (ey2 : gy = x2) (eu2 : gu = x3) : PAL2 (apartMany_0) (layerMany_0) (layerSize_0) (layerItem_0) (apartA_0) (apartB_0) (apart_0) (gy) (gu) := by
  rw [ey2, eu2]; assumption
set_option maxHeartbeats 4000000 in
theorem vc_Mo_across2_21_6 (x2 : Int) (x3 : Int) (x5 : Int) (x8 : Int) (x9 : Int) (x11 : Int) (x12 : Int) (x14 : Int) (x15 : Int) (x16 : Int) (layerItem_0 : Int → Int) (layerSize_0 : Int → Int) (layerMany_0 : Int) (gy : Int) (gu : Int) (k2 : 0 ≤ x2 ∧ x2 ≤ 75) (k3 : 1 ≤ x3 ∧ x3 ≤ 75) (k5 : 2 ≤ x5 ∧ x5 ≤ 76) (k8 : 0 ≤ x8 ∧ x8 ≤ 5700) (k9 : 1 ≤ x9 ∧ x9 ≤ 5775) (k11 : 0 ≤ x11 ∧ x11 ≤ 5774) (k12 : 0 ≤ x12 ∧ x12 ≤ 23) (k14 : 0 ≤ x14 ∧ x14 ≤ 5700) (k15 : 1 ≤ x15 ∧ x15 ≤ 5775) (k16 : 0 ≤ x16 ∧ x16 ≤ 23) (d7 : x14 + 1 ≤ x15 ∧ x15 ≤ x14 + 75) (d8 : x9 + (-1) ≤ x11 ∧ x11 ≤ x9 + (-1)) (d15 : x5 + (-4294967296) ≤ x3 ∧ x3 ≤ x5 + (-1)) (h4 : x16 = layerItem_0 (x15)) (f5 : x15 = x14 + x3) (f6 : x14 = 76 * x2) (h8 : x12 = layerItem_0 (x11)) (f10 : x9 = x8 + x3) (f11 : x8 = 76 * x2) (h13 : x5 = layerSize_0 (x2)) (f23 : (x2 + 1) ≤ layerMany_0) (kz_0_101 : 0 ≤ layerMany_0 ∧ layerMany_0 ≤ 76) (ey2 : gy = x2) (eu2 : gu = x3) : PAN (layerMany_0) (layerSize_0) (layerItem_0) (gy) (gu) (x12) (x16) := by
  rw [ey2, eu2]
  exact ⟨by omega, by rw [← (by omega : x11 = 76 * x2 + x3 - 1)]; assumption, by rw [← (by omega : x15 = 76 * x2 + x3)]; assumption⟩
set_option maxHeartbeats 4000000 in
theorem vc_Mo_across2_21_7 (x2 : Int) (x15 : Int) (x16 : Int) (x21 : Int) (k21 : 4 ≤ x21 ∧ x21 ≤ 20) : (2 ≤ x21) ∧ (x21 ≤ 202) := by
  try simp only [Int.add_zero] at *
  first
    | omega
    | (have h := ‹LSA _ _ _ _ _ _ _ _ _ _›.2.1; omega)
def o_Mo_across2_21 : or_T := (243, 22, [(0, (2, 0, 0, [165])), (1, (2, 0, 0, [165])), (2, (0, 0, 75, [])), (3, (0, 1, 75, [])), (4, (2, 0, 0, [238])), (5, (0, 2, 76, [])), (6, (2, 0, 0, [239])), (7, (0, 76, 76, [])), (8, (0, 0, 5700, [])), (9, (0, 1, 5775, [])), (10, (0, 1, 1, [])), (11, (0, 0, 5774, [])), (12, (0, 0, 23, [])), (13, (0, 76, 76, [])), (14, (0, 0, 5700, [])), (15, (0, 1, 5775, [])), (16, (0, 0, 23, [])), (17, (0, 1, 9, [])), (18, (0, 1, 9, [])), (19, (0, 2, 18, [])), (20, (0, 2, 2, [])), (21, (0, 4, 20, []))], [(1, [21, 19, 20], []), (1, [19, 17, 18], []), (20, [18], [50, 0, 0, 2, 6, 0, 2, 0, 0, 1, 0, 0, 2, 1, 0, 0, 100]), (20, [17], [50, 0, 0, 2, 6, 0, 2, 0, 0, 1, 0, 0, 2, 1, 0, 0, 100]), (10, [16, 6, 15], []), (1, [15, 14, 3], []), (3, [14, 13, 2], []), (9, [6, 1], [106]), (10, [12, 6, 11], []), (2, [11, 9, 10], []), (1, [9, 8, 3], []), (3, [8, 7, 2], []), (7, [3, 5], [2]), (10, [5, 4, 2], []), (9, [4, 1], [105]), (20, [1], [60, 4, 6, 445, 5, 100, 101, 107, 2, 95, 102, 104, 108, 109]), (20, [1], [60, 2, 3, 448, 100, 101, 102, 105, 106]), (20, [1], [60, 1, 1, 197, 5, 2]), (20, [1], [50, 2, 0, 79, 100, 1, 3, 2, 0, 79, 2, 0, 100]), (20, [1], [60, 2, 4, 456, 79, 80, 83, 84, 85, 86]), (20, [1], [50, 1, 0, 80, 0, 3, 2, 0, 80, 0, 130]), (20, [1, 2, 3], [60, 2, 5, 469, 81, 101, 105, 106, 87, 88, 89]), (20, [1], [50, 1, 0, 81, 0, 3, 2, 0, 81, 0, 76]), (20, [2, 1], [50, 1, 0, 1101, 0, 6, 4, 2, 1, 0, 0, 1, 2, 1, 101]), (20, [3], [50, 0, 0, 0, 2, 0, 1, 1, 0]), (24, [0, 1], [])], [], [(0, 0, 199, []), (0, 0, 75, []), (0, 1, 75, [])], [(23, [23, 2], [0, 1, -1]), (23, [23, 2], [0, -1, 1]), (23, [24, 3], [0, 1, -1]), (23, [24, 3], [0, -1, 1]), (20, [1, 22], [50, 1, 0, 81, 1, 3, 2, 0, 81, 1, 1]), (20, [1, 23, 24], [60, 2, 5, 469, 81, 101, 105, 106, 87, 88, 89]), (20, [1, 23, 24, 12, 16], [60, 1, 2, 466, 101, 105, 106]), (20, [21], [50, 0, 0, 2, 6, 0, 2, 0, 2, 1, 0, 0, 2, 1, 0, 0, 202])], [], [(21, 19, 2, 2), (21, 18, 3, 11), (21, 17, 3, 11), (19, 18, 1, 9), (19, 17, 1, 9), (15, 3, 0, 5700), (15, 5, -4294967296, 5699), (15, 14, 1, 75), (11, 9, -1, -1), (11, 3, -1, 5699), (11, 5, -4294967296, 5698), (11, 8, 0, 74), (9, 3, 0, 5700), (9, 5, -4294967296, 5699), (9, 8, 1, 75), (3, 5, -4294967296, -1)])
theorem oo_Mo_across2_21 {kA : Nat → ClassId} : or_ok PRD kA GG o_Mo_across2_21 := by
  refine or_mk fun A ta ws vs hD hth hl => ?_
  intro t0 r0 t1 r1 t2 k2 t3 k3 t4 r4 t5 k5 t6 r6 t7 k7 t8 k8 t9 k9 t10 k10 t11 k11 t12 k12 t13 k13 t14 k14 t15 k15 t16 k16 t17 k17 t18 k18 t19 k19 t20 k20 t21 k21 d0 d1 d2 d3 d4 d5 d6 d7 d8 d9 d10 d11 d12 d13 d14 d15 f0 f1 f2 f3 f4 f5 f6 f7 f8 f9 f10 f11 f12 f13 f14 f15 f16 f17 f18 f19 f20 f21 f22 f23 f24 f25
  replace f0 := shm_12 f0
  replace f1 := shm_12 f1
  replace f2 := shm_1142 f2
  replace f3 := shm_1142 f3
  replace f4 := shm_107 f4
  replace f5 := shm_12 f5
  replace f6 := shm_38 f6
  rw [show v_iv (n_v vs 13) = 76 from by omega] at f6
  replace f7 := shm_679 f7
  replace f8 := shm_107 f8
  replace f9 := shm_14 f9
  replace f10 := shm_12 f10
  replace f11 := shm_38 f11
  rw [show v_iv (n_v vs 7) = 76 from by omega] at f11
  replace f12 := shm_6 f12
  replace f13 := shm_107 f13
  replace f14 := shm_619 f14
  replace f15 := shm_674 f15
  replace f16 := shm_675 f16
  replace f17 := shm_1452 f17
  replace f18 := shm_1944 f18
  replace f19 := shm_558 f19
  replace f20 := shm_1946 f20
  replace f21 := shm_500 f21
  replace f22 := shm_1948 f22
  replace f23 := shm_1949 f23
  replace f24 := shm_710 f24
  replace f25 := shm_5 f25
  have q1 : n_v vs 1 = n_v vs 0 := f25.symm
  simp only [q1] at f7 f14 f15 f16 f17 f18 f19 f20 f21 f22 f23
  have cr_0_2 := fdq_10 hD hth r0
  have cr_0_83 := fdq_126 hD hth r0
  have cr_0_84 := fdq_127 hD hth r0
  have cr_0_85 := fdq_128 hD hth r0
  have cr_0_86 := fdq_129 hD hth r0
  have cr_0_87 := fdq_119 hD hth r0
  have cr_0_88 := fdq_120 hD hth r0
  have cr_0_89 := fdq_121 hD hth r0
  have cr_0_95 := fdq_130 hD hth r0
  have cr_0_102 := fdq_159 hD hth r0
  have cr_0_104 := fdq_170 hD hth r0
  have cr_0_105 := fdq_122 hD hth r0
  have cr_0_106 := fdq_123 hD hth r0
  have cr_0_108 := fdq_160 hD hth r0
  have cr_0_109 := fdq_161 hD hth r0
  have ad_6 : v_ad (n_v vs 6) = w_ar ws (n_v vs 0) 106 := congrArg v_ad f7
  have ad_4 : v_ad (n_v vs 4) = w_ar ws (n_v vs 0) 105 := congrArg v_ad f14
  simp only [ad_6] at f4
  have h4 : v_iv (n_v vs 16) = w_ei ws (w_ar ws (n_v vs 0) 106) (v_iv (n_v vs 15)) := f4
  simp only [ad_6] at f8
  have h8 : v_iv (n_v vs 12) = w_ei ws (w_ar ws (n_v vs 0) 106) (v_iv (n_v vs 11)) := f8
  simp only [ad_4] at f13
  have h13 : v_iv (n_v vs 5) = w_ei ws (w_ar ws (n_v vs 0) 105) (v_iv (n_v vs 2)) := f13
  have hK_0_83 := elq_67 hD hth cr_0_83
  have hK_0_84 := elq_68 hD hth cr_0_84
  have hK_0_85 := elq_69 hD hth cr_0_85
  have hK_0_86 := elq_70 hD hth cr_0_86
  have hK_0_87 := elq_62 hD hth cr_0_87
  have hK_0_88 := elq_63 hD hth cr_0_88
  have hK_0_89 := elq_64 hD hth cr_0_89
  have hK_0_95 := elq_71 hD hth cr_0_95
  have hK_0_102 := elq_91 hD hth cr_0_102
  have hK_0_104 := elq_100 hD hth cr_0_104
  have hK_0_105 := elq_65 hD hth cr_0_105
  have hK_0_106 := elq_66 hD hth cr_0_106
  have hK_0_108 := elq_92 hD hth cr_0_108
  have hK_0_109 := elq_93 hD hth cr_0_109
  have kz_0_79 := fdq_147 hD hth r0
  have kz_0_80 := fdq_131 hD hth r0
  have kz_0_81 := fdq_124 hD hth r0
  have kz_0_100 := fdq_162 hD hth r0
  have kz_0_101 := fdq_125 hD hth r0
  have kz_0_107 := fdq_163 hD hth r0
  have kv0 := fdq_124 hD hth r0
  obtain ⟨x, ex, hx⟩ := iv_ex (ta := ta) (lo := 0) (hi := 199) (z := w_fi ws (n_v vs 0) 81) (by omega) (by omega) (by omega) (by omega)
  have ex2 : v_iv (Value.int x) = w_fi ws (n_v vs 0) 81 := ex
  have ex3 : 0 ≤ v_iv (Value.int x) ∧ v_iv (Value.int x) ≤ 199 := tv_rng hx
  obtain ⟨y, ey, hy⟩ := iv_ex (ta := ta) (lo := 0) (hi := 75) (z := v_iv (n_v vs 2)) (by omega) (by omega) (by omega) (by omega)
  have ey2 : v_iv (Value.int y) = v_iv (n_v vs 2) := ey
  have ey3 : 0 ≤ v_iv (Value.int y) ∧ v_iv (Value.int y) ≤ 75 := tv_rng hy
  obtain ⟨u, eu, hu⟩ := iv_ex (ta := ta) (lo := 1) (hi := 75) (z := v_iv (n_v vs 3)) (by omega) (by omega) (by omega) (by omega)
  have eu2 : v_iv (Value.int u) = v_iv (n_v vs 3) := eu
  have eu3 : 1 ≤ v_iv (Value.int u) ∧ v_iv (Value.int u) ≤ 75 := tv_rng hu
  have e_1 : n_v (vs ++ [Value.int x, Value.int y, Value.int u]) 1 = n_v vs 1 := n_v_old (by rw [hl]; decide)
  have e_2 : n_v (vs ++ [Value.int x, Value.int y, Value.int u]) 2 = n_v vs 2 := n_v_old (by rw [hl]; decide)
  have e_3 : n_v (vs ++ [Value.int x, Value.int y, Value.int u]) 3 = n_v vs 3 := n_v_old (by rw [hl]; decide)
  have e_12 : n_v (vs ++ [Value.int x, Value.int y, Value.int u]) 12 = n_v vs 12 := n_v_old (by rw [hl]; decide)
  have e_16 : n_v (vs ++ [Value.int x, Value.int y, Value.int u]) 16 = n_v vs 16 := n_v_old (by rw [hl]; decide)
  have e_21 : n_v (vs ++ [Value.int x, Value.int y, Value.int u]) 21 = n_v vs 21 := n_v_old (by rw [hl]; decide)
  have e_22 : n_v (vs ++ [Value.int x, Value.int y, Value.int u]) 22 = Value.int x := n_v_newk (k := 0) hl rfl
  have e_23 : n_v (vs ++ [Value.int x, Value.int y, Value.int u]) 23 = Value.int y := n_v_newk (k := 1) hl rfl
  have e_24 : n_v (vs ++ [Value.int x, Value.int y, Value.int u]) 24 = Value.int u := n_v_newk (k := 2) hl rfl
  have nf0 : fc_1 PRD (23, [23, 2], [0, 1, -1]) ws (vs ++ [Value.int x, Value.int y, Value.int u]) := by
    refine ⟨nf_inA hl rfl, sgq_7 ?_⟩
    · show 1 * v_iv (n_v (vs ++ [Value.int x, Value.int y, Value.int u]) 23) + ((-1) * v_iv (n_v (vs ++ [Value.int x, Value.int y, Value.int u]) 2) + 0) ≤ 0
      simp only [e_2, e_23]
      exact vc_Mo_across2_21_0 (v_iv (n_v vs 2)) (v_iv (n_v vs 15)) (v_iv (n_v vs 16)) (v_iv (Value.int y)) k2 ey2
  have nf1 : fc_1 PRD (23, [23, 2], [0, -1, 1]) ws (vs ++ [Value.int x, Value.int y, Value.int u]) := by
    refine ⟨nf_inA hl rfl, sgq_22 ?_⟩
    · show (-1) * v_iv (n_v (vs ++ [Value.int x, Value.int y, Value.int u]) 23) + (1 * v_iv (n_v (vs ++ [Value.int x, Value.int y, Value.int u]) 2) + 0) ≤ 0
      simp only [e_2, e_23]
      exact vc_Mo_across2_21_1 (v_iv (n_v vs 2)) (v_iv (n_v vs 15)) (v_iv (n_v vs 16)) (v_iv (Value.int y)) k2 ey2
  have nf2 : fc_1 PRD (23, [24, 3], [0, 1, -1]) ws (vs ++ [Value.int x, Value.int y, Value.int u]) := by
    refine ⟨nf_inA hl rfl, sgq_7 ?_⟩
    · show 1 * v_iv (n_v (vs ++ [Value.int x, Value.int y, Value.int u]) 24) + ((-1) * v_iv (n_v (vs ++ [Value.int x, Value.int y, Value.int u]) 3) + 0) ≤ 0
      simp only [e_3, e_24]
      exact vc_Mo_across2_21_2 (v_iv (n_v vs 2)) (v_iv (n_v vs 3)) (v_iv (n_v vs 14)) (v_iv (n_v vs 15)) (v_iv (n_v vs 16)) (v_iv (Value.int y)) (v_iv (Value.int u)) k2 k3 k14 k15 f5 f6 ey2 eu2
  have nf3 : fc_1 PRD (23, [24, 3], [0, -1, 1]) ws (vs ++ [Value.int x, Value.int y, Value.int u]) := by
    refine ⟨nf_inA hl rfl, sgq_22 ?_⟩
    · show (-1) * v_iv (n_v (vs ++ [Value.int x, Value.int y, Value.int u]) 24) + (1 * v_iv (n_v (vs ++ [Value.int x, Value.int y, Value.int u]) 3) + 0) ≤ 0
      simp only [e_3, e_24]
      exact vc_Mo_across2_21_3 (v_iv (n_v vs 2)) (v_iv (n_v vs 3)) (v_iv (n_v vs 14)) (v_iv (n_v vs 15)) (v_iv (n_v vs 16)) (v_iv (Value.int y)) (v_iv (Value.int u)) k2 k3 k14 k15 f5 f6 ey2 eu2
  have nf4 : fc_1 PRD (20, [1, 22], [50, 1, 0, 81, 1, 3, 2, 0, 81, 1, 1]) ws (vs ++ [Value.int x, Value.int y, Value.int u]) := by
    refine ⟨nf_inA hl rfl, sgq_499 ?_⟩
    · show w_fi ws (n_v (vs ++ [Value.int x, Value.int y, Value.int u]) 1) 81 = v_iv (n_v (vs ++ [Value.int x, Value.int y, Value.int u]) 22)
      simp only [e_1, e_22, q1]
      exact vc_Mo_across2_21_4 (v_iv (n_v vs 2)) (v_iv (n_v vs 15)) (v_iv (n_v vs 16)) (w_fi ws (n_v vs 0) 81) (v_iv (Value.int x)) kz_0_81 ex2
  have nf5 : fc_1 PRD (20, [1, 23, 24], [60, 2, 5, 469, 81, 101, 105, 106, 87, 88, 89]) ws (vs ++ [Value.int x, Value.int y, Value.int u]) := by
    refine ⟨nf_inA hl rfl, sgq_500 ?_⟩
    · show PAL2 (w_fi ws (n_v (vs ++ [Value.int x, Value.int y, Value.int u]) 1) 81) (w_fi ws (n_v (vs ++ [Value.int x, Value.int y, Value.int u]) 1) 101) (w_ei ws (w_ar ws (n_v (vs ++ [Value.int x, Value.int y, Value.int u]) 1) 105)) (w_ei ws (w_ar ws (n_v (vs ++ [Value.int x, Value.int y, Value.int u]) 1) 106)) (w_ei ws (w_ar ws (n_v (vs ++ [Value.int x, Value.int y, Value.int u]) 1) 87)) (w_ei ws (w_ar ws (n_v (vs ++ [Value.int x, Value.int y, Value.int u]) 1) 88)) (w_ei ws (w_ar ws (n_v (vs ++ [Value.int x, Value.int y, Value.int u]) 1) 89)) (v_iv (n_v (vs ++ [Value.int x, Value.int y, Value.int u]) 23)) (v_iv (n_v (vs ++ [Value.int x, Value.int y, Value.int u]) 24))
      simp only [e_1, e_23, e_24, q1]
      exact vc_Mo_across2_21_5 (v_iv (n_v vs 2)) (v_iv (n_v vs 3)) (w_ei ws (w_ar ws (n_v vs 0) 106)) (w_ei ws (w_ar ws (n_v vs 0) 105)) (w_fi ws (n_v vs 0) 101) (w_ei ws (w_ar ws (n_v vs 0) 87)) (w_ei ws (w_ar ws (n_v vs 0) 88)) (w_ei ws (w_ar ws (n_v vs 0) 89)) (w_fi ws (n_v vs 0) 81) (v_iv (Value.int y)) (v_iv (Value.int u)) k2 k3 f21 kz_0_81 kz_0_101 ey2 eu2
  have nf6 : fc_1 PRD (20, [1, 23, 24, 12, 16], [60, 1, 2, 466, 101, 105, 106]) ws (vs ++ [Value.int x, Value.int y, Value.int u]) := by
    refine ⟨nf_inA hl rfl, sgq_501 ?_⟩
    · show PAN (w_fi ws (n_v (vs ++ [Value.int x, Value.int y, Value.int u]) 1) 101) (w_ei ws (w_ar ws (n_v (vs ++ [Value.int x, Value.int y, Value.int u]) 1) 105)) (w_ei ws (w_ar ws (n_v (vs ++ [Value.int x, Value.int y, Value.int u]) 1) 106)) (v_iv (n_v (vs ++ [Value.int x, Value.int y, Value.int u]) 23)) (v_iv (n_v (vs ++ [Value.int x, Value.int y, Value.int u]) 24)) (v_iv (n_v (vs ++ [Value.int x, Value.int y, Value.int u]) 12)) (v_iv (n_v (vs ++ [Value.int x, Value.int y, Value.int u]) 16))
      simp only [e_1, e_12, e_16, e_23, e_24, q1]
      exact vc_Mo_across2_21_6 (v_iv (n_v vs 2)) (v_iv (n_v vs 3)) (v_iv (n_v vs 5)) (v_iv (n_v vs 8)) (v_iv (n_v vs 9)) (v_iv (n_v vs 11)) (v_iv (n_v vs 12)) (v_iv (n_v vs 14)) (v_iv (n_v vs 15)) (v_iv (n_v vs 16)) (w_ei ws (w_ar ws (n_v vs 0) 106)) (w_ei ws (w_ar ws (n_v vs 0) 105)) (w_fi ws (n_v vs 0) 101) (v_iv (Value.int y)) (v_iv (Value.int u)) k2 k3 k5 k8 k9 k11 k12 k14 k15 k16 d7 d8 d15 h4 f5 f6 h8 f10 f11 h13 f23 kz_0_101 ey2 eu2
  have nf7 : fc_1 PRD (20, [21], [50, 0, 0, 2, 6, 0, 2, 0, 2, 1, 0, 0, 2, 1, 0, 0, 202]) ws (vs ++ [Value.int x, Value.int y, Value.int u]) := by
    refine ⟨nf_inA hl rfl, sgq_502 ?_⟩
    · show (2 ≤ v_iv (n_v (vs ++ [Value.int x, Value.int y, Value.int u]) 21)) ∧ (v_iv (n_v (vs ++ [Value.int x, Value.int y, Value.int u]) 21) ≤ 202)
      rw [e_21]
      exact vc_Mo_across2_21_7 (v_iv (n_v vs 2)) (v_iv (n_v vs 15)) (v_iv (n_v vs 16)) (v_iv (n_v vs 21)) k21
  exact ⟨(fun _ h => (by cases h)), [Value.int x, Value.int y, Value.int u], ag_three hx hy hu, List.forall_mem_cons.mpr ⟨⟨show (23 : Nat) < 100 from by decide, nf0⟩, List.forall_mem_cons.mpr ⟨⟨show (23 : Nat) < 100 from by decide, nf1⟩, List.forall_mem_cons.mpr ⟨⟨show (23 : Nat) < 100 from by decide, nf2⟩, List.forall_mem_cons.mpr ⟨⟨show (23 : Nat) < 100 from by decide, nf3⟩, List.forall_mem_cons.mpr ⟨⟨show (20 : Nat) < 100 from by decide, nf4⟩, List.forall_mem_cons.mpr ⟨⟨show (20 : Nat) < 100 from by decide, nf5⟩, List.forall_mem_cons.mpr ⟨⟨show (20 : Nat) < 100 from by decide, nf6⟩, List.forall_mem_cons.mpr ⟨⟨show (20 : Nat) < 100 from by decide, nf7⟩, (fun _ h => (by cases h))⟩⟩⟩⟩⟩⟩⟩⟩, (fun _ h => (by cases h))⟩
set_option maxHeartbeats 4000000 in
theorem vc_Mo_across2_22_0 (x2 : Int) (x3 : Int) (x23 : Int) (x24 : Int) (x25 : Int) (layerSize_0 : Int → Int) (layerItem_0 : Int → Int) (layerMany_0 : Int) (apartMany_0 : Int) (apartA_0 : Int → Int) (apartB_0 : Int → Int) (apart_0 : Int → Int) (k2 : 0 ≤ x2 ∧ x2 ≤ 75) (k3 : 1 ≤ x3 ∧ x3 ≤ 75) (k23 : 0 ≤ x23 ∧ x23 ≤ 75) (k24 : 1 ≤ x24 ∧ x24 ≤ 75) (k25 : 2 ≤ x25 ∧ x25 ≤ 76) (d0 : x3 + 1 ≤ x25 ∧ x25 ≤ x3 + 1) (f1 : 1 * x23 + ((-1) * x2 + 0) ≤ 0) (f2 : (-1) * x23 + (1 * x2 + 0) ≤ 0) (f3 : 1 * x24 + ((-1) * x3 + 0) ≤ 0) (f4 : (-1) * x24 + (1 * x3 + 0) ≤ 0) (f19 : PAP (apartMany_0) (layerMany_0) (layerSize_0) (layerItem_0) (apartA_0) (apartB_0) (apart_0) (x23) (x24)) (kz_0_81 : 0 ≤ apartMany_0 ∧ apartMany_0 ≤ 200) (kz_0_101 : 0 ≤ layerMany_0 ∧ layerMany_0 ≤ 76) : PAL2 (apartMany_0) (layerMany_0) (layerSize_0) (layerItem_0) (apartA_0) (apartB_0) (apart_0) (x2) (x25) := by
  first
    | exact paq_less ‹PAL1 _ _ _ _ _ _ _ _› (by omega)
    | (have h := ‹PAP _ _ _ _ _ _ _ _ _›
       exact paq_less h (by omega))
set_option maxHeartbeats 4000000 in
theorem vc_Mo_across2_22_1 (x22 : Int) (x23 : Int) (x24 : Int) (layerSize_0 : Int → Int) (layerItem_0 : Int → Int) (layerMany_0 : Int) (all_0 : Int → Int) (turned_0 : Int → Int) (itemLayer_0 : Int → Int) (firstJoint_0 : Int → Int) (lineA_0 : Int → Int) (lineB_0 : Int → Int) (r_0 : Int) (items_0 : Int) (lines_0 : Int) (pointMany_0 : Int) (apartMany_0 : Int) (apartA_0 : Int → Int) (apartB_0 : Int → Int) (apart_0 : Int → Int) (k22 : 0 ≤ x22 ∧ x22 ≤ 199) (k23 : 0 ≤ x23 ∧ x23 ≤ 75) (k24 : 1 ≤ x24 ∧ x24 ≤ 75) (f9 : LSA (r_0) (items_0) (layerMany_0) (lines_0) (all_0) (turned_0) (itemLayer_0) (firstJoint_0) (lineA_0) (lineB_0)) (f10 : LSB (items_0) (layerMany_0) (itemLayer_0) (layerSize_0) (layerItem_0)) (f12 : pointMany_0 = items_0) (f18 : apartMany_0 = (x22 + 1)) (f19 : PAP (apartMany_0) (layerMany_0) (layerSize_0) (layerItem_0) (apartA_0) (apartB_0) (apart_0) (x23) (x24)) (kz_0_79 : 0 ≤ pointMany_0 ∧ pointMany_0 ≤ 76) (kz_0_81 : 0 ≤ apartMany_0 ∧ apartMany_0 ≤ 200) (kz_0_100 : 0 ≤ items_0 ∧ items_0 ≤ 76) (kz_0_101 : 0 ≤ layerMany_0 ∧ layerMany_0 ≤ 76) (kz_0_107 : 0 ≤ lines_0 ∧ lines_0 ≤ 130) : apartMany_0 ≤ 76 := by
  try simp only [Int.add_zero] at *
  first
    | (have h := paq_am ‹LSB _ _ _ _ _› ‹PAP _ _ _ _ _ _ _ _ _› (by have h := ‹LSA _ _ _ _ _ _ _ _ _ _›.2.1; have n := ‹LSA _ _ _ _ _ _ _ _ _ _›.1.1.1.1; omega); have h2 := ‹LSB _ _ _ _ _›.1; omega)
set_option maxHeartbeats 4000000 in
theorem vc_Mo_across2_22_2 (x25 : Int) (k25 : 2 ≤ x25 ∧ x25 ≤ 76) : 1 ≤ x25 := by
  try simp only [Int.add_zero] at *
  first
    | omega
def o_Mo_across2_22 : or_T := (188, 26, [(0, (2, 0, 0, [165])), (1, (2, 0, 0, [165])), (2, (0, 0, 75, [])), (3, (0, 1, 75, [])), (5, (0, 2, 76, [])), (12, (0, 0, 23, [])), (16, (0, 0, 23, [])), (17, (0, 1, 9, [])), (18, (0, 1, 9, [])), (19, (0, 2, 18, [])), (20, (0, 2, 2, [])), (21, (0, 4, 20, [])), (22, (0, 0, 199, [])), (23, (0, 0, 75, [])), (24, (0, 1, 75, [])), (25, (0, 2, 76, []))], [(6, [25, 3], [1]), (23, [23, 2], [0, 1, -1]), (23, [23, 2], [0, -1, 1]), (23, [24, 3], [0, 1, -1]), (23, [24, 3], [0, -1, 1]), (20, [1, 23, 24, 12, 16], [60, 1, 2, 466, 101, 105, 106]), (20, [21], [50, 0, 0, 2, 6, 0, 2, 0, 2, 1, 0, 0, 2, 1, 0, 0, 202]), (20, [18], [50, 0, 0, 2, 6, 0, 2, 0, 0, 1, 0, 0, 2, 1, 0, 0, 100]), (20, [17], [50, 0, 0, 2, 6, 0, 2, 0, 0, 1, 0, 0, 2, 1, 0, 0, 100]), (20, [1], [60, 4, 6, 445, 5, 100, 101, 107, 2, 95, 102, 104, 108, 109]), (20, [1], [60, 2, 3, 448, 100, 101, 102, 105, 106]), (20, [1], [60, 1, 1, 197, 5, 2]), (20, [1], [50, 2, 0, 79, 100, 1, 3, 2, 0, 79, 2, 0, 100]), (20, [1], [60, 2, 4, 456, 79, 80, 83, 84, 85, 86]), (20, [1], [50, 1, 0, 80, 0, 3, 2, 0, 80, 0, 130]), (20, [2, 1], [50, 1, 0, 1101, 0, 6, 4, 2, 1, 0, 0, 1, 2, 1, 101]), (20, [3], [50, 0, 0, 0, 2, 0, 1, 1, 0]), (24, [0, 1], []), (20, [1, 22], [50, 1, 0, 81, 1, 3, 2, 0, 81, 4, 2, 1, 1, 0, 1]), (20, [1, 23, 24], [60, 2, 5, 467, 81, 101, 105, 106, 87, 88, 89]), (102, [24], [188719626670054478562669105609137414715460010957784007367725271744512, 165081]), (23, [23, 2], [0, 1, -1]), (23, [23, 2], [0, -1, 1]), (23, [24, 3], [0, 1, -1]), (23, [24, 3], [0, -1, 1]), (1, [21, 19, 20], []), (1, [19, 17, 18], []), (7, [3, 5], [2])], [], [], [(20, [1, 2, 25], [60, 2, 5, 469, 81, 101, 105, 106, 87, 88, 89]), (20, [1], [50, 1, 0, 81, 0, 3, 2, 0, 81, 0, 76]), (20, [25], [50, 0, 0, 0, 2, 0, 1, 1, 0])], [], [(25, 3, 1, 1), (25, 5, -4294967296, 0), (21, 19, 2, 2), (21, 18, 3, 11), (21, 17, 3, 11), (19, 18, 1, 9), (19, 17, 1, 9), (3, 5, -4294967296, -1)])
theorem oo_Mo_across2_22 {kA : Nat → ClassId} : or_ok PRD kA GG o_Mo_across2_22 := by
  refine or_mk fun A ta ws vs hD hth hl => ?_
  intro t0 r0 t1 r1 t2 k2 t3 k3 t5 k5 t12 k12 t16 k16 t17 k17 t18 k18 t19 k19 t20 k20 t21 k21 t22 k22 t23 k23 t24 k24 t25 k25 d0 d1 d2 d3 d4 d5 d6 d7 f0 f1 f2 f3 f4 f5 f6 f7 f8 f9 f10 f11 f12 f13 f14 f15 f16 f17 f18 f19 ta1 w1 le1 s1 f21 f22 f23 f24 f25 f26 f27
  replace f1 := shm_7 f1
  replace f2 := shm_22 f2
  replace f3 := shm_7 f3
  replace f4 := shm_22 f4
  replace f9 := shm_674 f9
  replace f10 := shm_675 f10
  replace f12 := shm_1944 f12
  replace f17 := shm_5 f17
  replace f18 := shm_505 f18
  replace f19 := shm_506 f19
  have q1 : n_v vs 1 = n_v vs 0 := f17.symm
  simp only [q1] at f9 f10 f12 f18 f19
  have kz_0_79 := fdq_147 hD hth r0
  have kz_0_81 := fdq_124 hD hth r0
  have kz_0_100 := fdq_162 hD hth r0
  have kz_0_101 := fdq_125 hD hth r0
  have kz_0_107 := fdq_163 hD hth r0
  have nf0 : fc_1 PRD (20, [1, 2, 25], [60, 2, 5, 469, 81, 101, 105, 106, 87, 88, 89]) ws (vs) := by
    refine ⟨nf_in hl rfl, sgq_500 ?_⟩
    · show PAL2 (w_fi ws (n_v vs 1) 81) (w_fi ws (n_v vs 1) 101) (w_ei ws (w_ar ws (n_v vs 1) 105)) (w_ei ws (w_ar ws (n_v vs 1) 106)) (w_ei ws (w_ar ws (n_v vs 1) 87)) (w_ei ws (w_ar ws (n_v vs 1) 88)) (w_ei ws (w_ar ws (n_v vs 1) 89)) (v_iv (n_v vs 2)) (v_iv (n_v vs 25))
      rw [q1]
      exact vc_Mo_across2_22_0 (v_iv (n_v vs 2)) (v_iv (n_v vs 3)) (v_iv (n_v vs 23)) (v_iv (n_v vs 24)) (v_iv (n_v vs 25)) (w_ei ws (w_ar ws (n_v vs 0) 105)) (w_ei ws (w_ar ws (n_v vs 0) 106)) (w_fi ws (n_v vs 0) 101) (w_fi ws (n_v vs 0) 81) (w_ei ws (w_ar ws (n_v vs 0) 87)) (w_ei ws (w_ar ws (n_v vs 0) 88)) (w_ei ws (w_ar ws (n_v vs 0) 89)) k2 k3 k23 k24 k25 d0 f1 f2 f3 f4 f19 kz_0_81 kz_0_101
  have nf1 : fc_1 PRD (20, [1], [50, 1, 0, 81, 0, 3, 2, 0, 81, 0, 76]) ws (vs) := by
    refine ⟨nf_in hl rfl, sgq_1948 ?_⟩
    · show w_fi ws (n_v vs 1) 81 ≤ 76
      rw [q1]
      exact vc_Mo_across2_22_1 (v_iv (n_v vs 22)) (v_iv (n_v vs 23)) (v_iv (n_v vs 24)) (w_ei ws (w_ar ws (n_v vs 0) 105)) (w_ei ws (w_ar ws (n_v vs 0) 106)) (w_fi ws (n_v vs 0) 101) (w_ei ws (w_ar ws (n_v vs 0) 2)) (w_ei ws (w_ar ws (n_v vs 0) 95)) (w_ei ws (w_ar ws (n_v vs 0) 102)) (w_ei ws (w_ar ws (n_v vs 0) 104)) (w_ei ws (w_ar ws (n_v vs 0) 108)) (w_ei ws (w_ar ws (n_v vs 0) 109)) (w_fi ws (n_v vs 0) 5) (w_fi ws (n_v vs 0) 100) (w_fi ws (n_v vs 0) 107) (w_fi ws (n_v vs 0) 79) (w_fi ws (n_v vs 0) 81) (w_ei ws (w_ar ws (n_v vs 0) 87)) (w_ei ws (w_ar ws (n_v vs 0) 88)) (w_ei ws (w_ar ws (n_v vs 0) 89)) k22 k23 k24 f9 f10 f12 f18 f19 kz_0_79 kz_0_81 kz_0_100 kz_0_101 kz_0_107
  have nf2 : fc_1 PRD (20, [25], [50, 0, 0, 0, 2, 0, 1, 1, 0]) ws (vs) := ⟨nf_in hl rfl, sgq_710 (vc_Mo_across2_22_2 (v_iv (n_v vs 25)) k25)⟩
  refine ⟨(fun _ h => (by cases h)), [], trivial, ?_, (fun _ h => (by cases h))⟩
  rw [List.append_nil]
  exact List.forall_mem_cons.mpr ⟨⟨show (20 : Nat) < 100 from by decide, nf0⟩, List.forall_mem_cons.mpr ⟨⟨show (20 : Nat) < 100 from by decide, nf1⟩, List.forall_mem_cons.mpr ⟨⟨show (20 : Nat) < 100 from by decide, nf2⟩, (fun _ h => (by cases h))⟩⟩⟩
def n_Mo_across2_an : List an_T := [(20, [(0, (2, 0, 0, [165])), (1, (0, 0, 130, []))], [], (0, 0), [(0, 0, 99980), (1, 2, 130), (0, 0, 100000), (0, 0, 0), (0, 0, 0)], [], [], [(2, 0, 0, [165])], 0, [], [(20, [1], [60, 4, 6, 445, 5, 100, 101, 107, 2, 95, 102, 104, 108, 109]), (20, [1], [60, 2, 3, 448, 100, 101, 102, 105, 106]), (20, [1], [60, 1, 1, 197, 5, 2]), (20, [1], [50, 2, 0, 79, 100, 1, 3, 2, 0, 79, 2, 0, 100]), (20, [1], [60, 2, 4, 456, 79, 80, 83, 84, 85, 86]), (20, [1, 2], [50, 1, 0, 80, 1, 3, 2, 0, 80, 1, 1]), (20, [1], [50, 1, 0, 81, 1, 3, 2, 0, 81, 0, 0]), (24, [0, 1], [])]), (178, [(0, (2, 0, 0, [165])), (1, (0, 0, 76, []))], [], (0, 0), [(0, 0, 99822), (1, 2, 76), (0, 0, 100000), (0, 0, 0), (0, 0, 0)], [], [], [(2, 0, 0, [165])], 0, [], [(20, [1], [60, 4, 6, 445, 5, 100, 101, 107, 2, 95, 102, 104, 108, 109]), (20, [1], [60, 2, 3, 448, 100, 101, 102, 105, 106]), (20, [1], [60, 1, 1, 197, 5, 2]), (20, [1], [50, 2, 0, 79, 100, 1, 3, 2, 0, 79, 2, 0, 100]), (20, [1], [60, 2, 4, 456, 79, 80, 83, 84, 85, 86]), (20, [1], [50, 1, 0, 80, 0, 3, 2, 0, 80, 0, 130]), (20, [1, 2], [60, 2, 5, 468, 81, 101, 105, 106, 87, 88, 89]), (20, [1], [50, 1, 0, 81, 0, 3, 2, 0, 81, 0, 76]), (24, [0, 1], [])]), (188, [(0, (2, 0, 0, [165])), (1, (0, 0, 75, [])), (2, (0, 1, 76, []))], [], (0, 0), [(0, 0, 99822), (1, 2, 76), (0, 0, 99812), (1, 3, 76), (0, 0, 100000)], [], [], [(2, 0, 0, [165])], 0, [], [(20, [1], [60, 4, 6, 445, 5, 100, 101, 107, 2, 95, 102, 104, 108, 109]), (20, [1], [60, 2, 3, 448, 100, 101, 102, 105, 106]), (20, [1], [60, 1, 1, 197, 5, 2]), (20, [1], [50, 2, 0, 79, 100, 1, 3, 2, 0, 79, 2, 0, 100]), (20, [1], [60, 2, 4, 456, 79, 80, 83, 84, 85, 86]), (20, [1], [50, 1, 0, 80, 0, 3, 2, 0, 80, 0, 130]), (20, [1, 2, 3], [60, 2, 5, 469, 81, 101, 105, 106, 87, 88, 89]), (20, [1], [50, 1, 0, 81, 0, 3, 2, 0, 81, 0, 76]), (20, [2, 1], [50, 1, 0, 1101, 0, 6, 4, 2, 1, 0, 0, 1, 2, 1, 101]), (20, [3], [50, 0, 0, 0, 2, 0, 1, 1, 0]), (24, [0, 1], [])])]
def t_Mo_across2_ct : ct_L := [(1, 475, e_Mo_nodes), (1, 488, e_Mo_between), (1, 737, e_Mo_weight), (1, 827, e_Mo_rise), (1, 877, e_Mo_halfOf), (505, 821, e_Mo_cost_at_ga), (733, 825, e_Mo_apart_at_ga)]
set_option maxRecDepth 100000 in
theorem c_Mo_across2 {l : Launch} {D : va_G} {kA : Nat → ClassId} (h_Mo_apart_at_ga : ct_ok PRD l D kA GG y_Mo_apart_at_ga z_Mo_apart_at_ga e_Mo_apart_at_ga) (h_Mo_between : ct_ok PRD l D kA GG y_Mo_between z_Mo_between e_Mo_between) (h_Mo_cost_at_ga : ct_ok PRD l D kA GG y_Mo_cost_at_ga z_Mo_cost_at_ga e_Mo_cost_at_ga) (h_Mo_halfOf : ct_ok PRD l D kA GG y_Mo_halfOf z_Mo_halfOf e_Mo_halfOf) (h_Mo_nodes : ct_ok PRD l D kA GG y_Mo_nodes z_Mo_nodes e_Mo_nodes) (h_Mo_rise : ct_ok PRD l D kA GG y_Mo_rise z_Mo_rise e_Mo_rise) (h_Mo_weight : ct_ok PRD l D kA GG y_Mo_weight z_Mo_weight e_Mo_weight) : ct_ok PRD l D kA GG y_Mo_across2 z_Mo_across2 e_Mo_across2 := chk_all_ok (FT := [(225, 13, 103), (231, 13, 105), (234, 13, 106), (237, 13, 108), (240, 13, 109), (844, 13, 100), (847, 13, 107), (852, 13, 101)]) (PT := [(777, 13, 80, .int), (780, 13, 81, .int), (783, 13, 79, .int)]) (CT := t_Mo_across2_ct) (KT := []) (NT := []) (AN := n_Mo_across2_an) (OT := [o_Mo_across2_0, o_Mo_across2_1, o_Mo_across2_2, o_Mo_across2_3, o_Mo_across2_4, o_Mo_across2_5, o_Mo_across2_6, o_Mo_across2_7, o_Mo_across2_8, o_Mo_across2_9, o_Mo_across2_10, o_Mo_across2_11, o_Mo_across2_12, o_Mo_across2_13, o_Mo_across2_14, o_Mo_across2_15, o_Mo_across2_16, o_Mo_across2_17, o_Mo_across2_18, o_Mo_across2_19, o_Mo_across2_20, o_Mo_across2_21, o_Mo_across2_22]) 5 1096 (List.forall_mem_cons.mpr ⟨oo_Mo_across2_0, List.forall_mem_cons.mpr ⟨oo_Mo_across2_1, List.forall_mem_cons.mpr ⟨oo_Mo_across2_2, List.forall_mem_cons.mpr ⟨oo_Mo_across2_3, List.forall_mem_cons.mpr ⟨oo_Mo_across2_4, List.forall_mem_cons.mpr ⟨oo_Mo_across2_5, List.forall_mem_cons.mpr ⟨oo_Mo_across2_6, List.forall_mem_cons.mpr ⟨oo_Mo_across2_7, List.forall_mem_cons.mpr ⟨oo_Mo_across2_8, List.forall_mem_cons.mpr ⟨oo_Mo_across2_9, List.forall_mem_cons.mpr ⟨oo_Mo_across2_10, List.forall_mem_cons.mpr ⟨oo_Mo_across2_11, List.forall_mem_cons.mpr ⟨oo_Mo_across2_12, List.forall_mem_cons.mpr ⟨oo_Mo_across2_13, List.forall_mem_cons.mpr ⟨oo_Mo_across2_14, List.forall_mem_cons.mpr ⟨oo_Mo_across2_15, List.forall_mem_cons.mpr ⟨oo_Mo_across2_16, List.forall_mem_cons.mpr ⟨oo_Mo_across2_17, List.forall_mem_cons.mpr ⟨oo_Mo_across2_18, List.forall_mem_cons.mpr ⟨oo_Mo_across2_19, List.forall_mem_cons.mpr ⟨oo_Mo_across2_20, List.forall_mem_cons.mpr ⟨oo_Mo_across2_21, List.forall_mem_cons.mpr ⟨oo_Mo_across2_22, List.forall_mem_nil _⟩⟩⟩⟩⟩⟩⟩⟩⟩⟩⟩⟩⟩⟩⟩⟩⟩⟩⟩⟩⟩⟩⟩) (by decide +kernel) ⟨List.forall_mem_cons.mpr ⟨gf_Mo_225, List.forall_mem_cons.mpr ⟨gf_Mo_231, List.forall_mem_cons.mpr ⟨gf_Mo_234, List.forall_mem_cons.mpr ⟨gf_Mo_237, List.forall_mem_cons.mpr ⟨gf_Mo_240, List.forall_mem_cons.mpr ⟨gf_Mo_844, List.forall_mem_cons.mpr ⟨gf_Mo_847, List.forall_mem_cons.mpr ⟨gf_Mo_852, List.forall_mem_nil _⟩⟩⟩⟩⟩⟩⟩⟩, List.forall_mem_cons.mpr ⟨pf_Mo_777, List.forall_mem_cons.mpr ⟨pf_Mo_780, List.forall_mem_cons.mpr ⟨pf_Mo_783, List.forall_mem_nil _⟩⟩⟩, List.forall_mem_cons.mpr ⟨cl_virtual (y := y_Mo_nodes) (ci := 13) rfl rfl ⟨_, _, rfl⟩ (by decide +kernel) h_Mo_nodes wm_3025 wm_9 wm_3022 wm_3024 wv_13_3 ⟨by decide, by decide, by decide +kernel⟩ (by decide), List.forall_mem_cons.mpr ⟨cl_virtual (y := y_Mo_between) (ci := 13) rfl rfl ⟨_, _, rfl⟩ (by decide +kernel) h_Mo_between wm_3033 wm_9 wm_3030 wm_3032 wv_13_5 ⟨by decide, by decide, by decide +kernel⟩ (by decide), List.forall_mem_cons.mpr ⟨cl_virtual (y := y_Mo_weight) (ci := 13) rfl rfl ⟨_, _, rfl⟩ (by decide +kernel) h_Mo_weight wm_3339 wm_9 wm_3336 wm_3338 wv_17_7 ⟨by decide, by decide, by decide +kernel⟩ (by decide), List.forall_mem_cons.mpr ⟨cl_virtual (y := y_Mo_rise) (ci := 13) rfl rfl ⟨_, _, rfl⟩ (by decide +kernel) h_Mo_rise wm_3411 wm_9 wm_3408 wm_3410 wv_18_5 ⟨by decide, by decide, by decide +kernel⟩ (by decide), List.forall_mem_cons.mpr ⟨cl_virtual (y := y_Mo_halfOf) (ci := 13) rfl rfl ⟨_, _, rfl⟩ (by decide +kernel) h_Mo_halfOf wm_3474 wm_9 wm_3471 wm_3473 wv_19_4 ⟨by decide, by decide, by decide +kernel⟩ (by decide), List.forall_mem_cons.mpr ⟨cl_virtual (y := y_Mo_cost_at_ga) (ci := 13) rfl rfl ⟨_, _, rfl⟩ (by decide +kernel) h_Mo_cost_at_ga wm_3403 wm_9 wm_3400 wm_3402 wv_18_3 ⟨by decide, by decide, by decide +kernel⟩ (by decide), List.forall_mem_cons.mpr ⟨cl_virtual (y := y_Mo_apart_at_ga) (ci := 13) rfl rfl ⟨_, _, rfl⟩ (by decide +kernel) h_Mo_apart_at_ga wm_3407 wm_9 wm_3404 wm_3406 wv_18_4 ⟨by decide, by decide, by decide +kernel⟩ (by decide), List.forall_mem_nil _⟩⟩⟩⟩⟩⟩⟩, List.forall_mem_nil _, List.forall_mem_nil _, GG_pl⟩ (by decide +kernel)

set_option maxHeartbeats 4000000 in
theorem vc_Mo_tree_0_0 (x2 : Int) (x3 : Int) (x5 : Int) (x6 : Int) (all_0 : Int → Int) (r_0 : Int) (k2 : 0 ≤ x2 ∧ x2 ≤ 24) (k3 : 0 ≤ x3 ∧ x3 ≤ 24) (k5 : 0 ≤ x5 ∧ x5 ≤ 24) (k6 : 0 ≤ x6 ∧ x6 ≤ 24) (f0 : x5 = x6) (f1 : x6 = x2 - x3) (f2 : 1 * x5 + ((-1) * all_0 (r_0 + 1) + 0) ≤ 0) (f3 : (-1) * x5 + (1 * all_0 (r_0 + 1) + 0) ≤ 0) (f4 : 1 * x2 + ((-1) * all_0 (r_0 + 0) + 0) ≤ 0) (f5 : (-1) * x2 + (1 * all_0 (r_0 + 0) + 0) ≤ 0) : x2 = all_0 (r_0) := by
  first
    | omega
    | assumption
    | (simp only [Int.add_zero] at *; omega)
  
set_option maxHeartbeats 4000000 in
theorem vc_Mo_tree_0_1 (x2 : Int) (x7 : Int) (root_0 : Int → Int) (k2 : 0 ≤ x2 ∧ x2 ≤ 24) (k7 : 0 ≤ x7 ∧ x7 ≤ 0) : RTK (root_0) (x2) (x7) := by
  first
    | (intro c a b; exfalso; omega)
    | exact rtj_end ‹RTJ _ _ _ _ _› (by omega) (by omega) ‹PTP _ _ _ _› ‹SGR _ _› (by omega) (by omega) (by omega)
    | exact rtj_end2 ‹RTJ _ _ _ _ _› (by omega) (by omega) (by assumption) (by omega) (by omega) (by omega)
set_option maxHeartbeats 4000000 in
theorem vc_Mo_tree_0_2 (x7 : Int) (partOf_0 : Int → Int) (root_0 : Int → Int) (k7 : 0 ≤ x7 ∧ x7 ≤ 0) : RTPT (partOf_0) (root_0) (x7) := by
  first
    | exact rtp_store (v := x1) ‹RTI _ _ _› (by omega) (by omega) (by assumption) (by omega) (by omega) (by omega)
    | (intro q a b; exfalso; omega)
    | assumption
    | (intro q a b; exact ‹RTPT _ _ _› q a (by omega))
    | (have g := ‹RTJ _ _ _ _ _›
       have g2 := g.2
       have h := ‹RTI _ _ _›
       refine rtp_next h (by omega) ?_
       rcases g2 with q | ⟨q, w⟩
       · omega
       · exfalso
         obtain ⟨v, v0, v1, v2⟩ := ‹PTP _ _ _ _› ‹SGR _ _› x4 (by omega) (by omega)
         exact w v (by omega) (by omega) v2)
  
def o_Mo_tree_0 : or_T := (42, 8, [(2, (0, 0, 24, [])), (3, (0, 0, 24, [])), (5, (0, 0, 24, [])), (6, (0, 0, 24, [])), (7, (0, 0, 0, []))], [(7, [5, 6], [0]), (2, [6, 2, 3], []), (20, [5, 0], [30, 0, 1, 0, 0, -1, 3, 2005001]), (20, [5, 0], [30, 0, -1, 0, 0, 1, 3, 2005001]), (20, [2, 0], [30, 0, 1, 0, 0, -1, 3, 2005000]), (20, [2, 0], [30, 0, -1, 0, 0, 1, 3, 2005000])], [], [], [(20, [2, 0], [50, 1, 1, 1005, 1002, 1, 2, 1, 0, 3, 1, 2, 2, 1, 5]), (20, [0, 2, 7], [60, 0, 1, 376, 129]), (20, [0, 7], [60, 0, 2, 810, 16, 129])], [], [])
theorem oo_Mo_tree_0 {kA : Nat → ClassId} : or_ok PRD kA GG o_Mo_tree_0 := by
  refine or_mk fun A ta ws vs hD hth hl => ?_
  intro t2 k2 t3 k3 t5 k5 t6 k6 t7 k7 f0 f1 f2 f3 f4 f5
  have nf0 : fc_1 PRD (20, [2, 0], [50, 1, 1, 1005, 1002, 1, 2, 1, 0, 3, 1, 2, 2, 1, 5]) ws (vs) := ⟨nf_in hl rfl, sgq_1581 (vc_Mo_tree_0_0 (v_iv (n_v vs 2)) (v_iv (n_v vs 3)) (v_iv (n_v vs 5)) (v_iv (n_v vs 6)) (w_ei ws (w_ar ws (n_v vs 0) 2)) (w_fi ws (n_v vs 0) 5) k2 k3 k5 k6 (shm_37 f0) (shm_14 f1) (shm_121 f2) (shm_122 f3) (shm_126 f4) (shm_127 f5))⟩
  have nf1 : fc_1 PRD (20, [0, 2, 7], [60, 0, 1, 376, 129]) ws (vs) := ⟨nf_in hl rfl, sgq_1950 (vc_Mo_tree_0_1 (v_iv (n_v vs 2)) (v_iv (n_v vs 7)) (w_ei ws (w_ar ws (n_v vs 0) 129)) k2 k7)⟩
  have nf2 : fc_1 PRD (20, [0, 7], [60, 0, 2, 810, 16, 129]) ws (vs) := ⟨nf_in hl rfl, sgq_1951 (vc_Mo_tree_0_2 (v_iv (n_v vs 7)) (w_ei ws (w_ar ws (n_v vs 0) 16)) (w_ei ws (w_ar ws (n_v vs 0) 129)) k7)⟩
  refine ⟨(fun _ h => (by cases h)), [], trivial, ?_, (fun _ h => (by cases h))⟩
  rw [List.append_nil]
  exact List.forall_mem_cons.mpr ⟨⟨show (20 : Nat) < 100 from by decide, nf0⟩, List.forall_mem_cons.mpr ⟨⟨show (20 : Nat) < 100 from by decide, nf1⟩, List.forall_mem_cons.mpr ⟨⟨show (20 : Nat) < 100 from by decide, nf2⟩, (fun _ h => (by cases h))⟩⟩⟩
set_option maxHeartbeats 4000000 in
theorem vc_Mo_tree_1_0 (x2 : Int) (x7 : Int) (all_0 : Int → Int) (r_0 : Int) (k2 : 0 ≤ x2 ∧ x2 ≤ 24) (k7 : (-1) ≤ x7 ∧ x7 ≤ 23) (d2 : x2 + (-1) ≤ x7 ∧ x7 ≤ x2 + (-1)) (f5 : 1 * x2 + ((-1) * all_0 (r_0 + 0) + 0) ≤ 0) (f6 : (-1) * x2 + (1 * all_0 (r_0 + 0) + 0) ≤ 0) : x2 = all_0 (r_0) := by
  first
    | omega
    | assumption
    | (simp only [Int.add_zero] at *; omega)
  
set_option maxHeartbeats 4000000 in
theorem vc_Mo_tree_1_1 (x2 : Int) (x11 : Int) (root_0 : Int → Int) (k2 : 0 ≤ x2 ∧ x2 ≤ 24) (k11 : 0 ≤ x11 ∧ x11 ≤ 0) : RTK (root_0) (x2) (x11) := by
  first
    | (intro c a b; exfalso; omega)
    | exact rtj_end ‹RTJ _ _ _ _ _› (by omega) (by omega) ‹PTP _ _ _ _› ‹SGR _ _› (by omega) (by omega) (by omega)
    | exact rtj_end2 ‹RTJ _ _ _ _ _› (by omega) (by omega) (by assumption) (by omega) (by omega) (by omega)
set_option maxHeartbeats 4000000 in
theorem vc_Mo_tree_1_2 (x11 : Int) (partOf_0 : Int → Int) (root_0 : Int → Int) (k11 : 0 ≤ x11 ∧ x11 ≤ 0) : RTPT (partOf_0) (root_0) (x11) := by
  first
    | exact rtp_store (v := x1) ‹RTI _ _ _› (by omega) (by omega) (by assumption) (by omega) (by omega) (by omega)
    | (intro q a b; exfalso; omega)
    | assumption
    | (intro q a b; exact ‹RTPT _ _ _› q a (by omega))
    | (have g := ‹RTJ _ _ _ _ _›
       have g2 := g.2
       have h := ‹RTI _ _ _›
       refine rtp_next h (by omega) ?_
       rcases g2 with q | ⟨q, w⟩
       · omega
       · exfalso
         obtain ⟨v, v0, v1, v2⟩ := ‹PTP _ _ _ _› ‹SGR _ _› x4 (by omega) (by omega)
         exact w v (by omega) (by omega) v2)
  
def o_Mo_tree_1 : or_T := (42, 12, [(2, (0, 0, 24, [])), (7, (0, -1, 23, [])), (11, (0, 0, 0, []))], [(20, [2, 0], [30, 0, 1, 0, 0, -1, 3, 2005000]), (20, [2, 0], [30, 0, -1, 0, 0, 1, 3, 2005000])], [], [], [(20, [2, 0], [50, 1, 1, 1005, 1002, 1, 2, 1, 0, 3, 1, 2, 2, 1, 5]), (20, [0, 2, 11], [60, 0, 1, 376, 129]), (20, [0, 11], [60, 0, 2, 810, 16, 129])], [], [(7, 2, -1, -1)])
theorem oo_Mo_tree_1 {kA : Nat → ClassId} : or_ok PRD kA GG o_Mo_tree_1 := by
  refine or_mk fun A ta ws vs hD hth hl => ?_
  intro t2 k2 t7 k7 t11 k11 d2 f5 f6
  have nf0 : fc_1 PRD (20, [2, 0], [50, 1, 1, 1005, 1002, 1, 2, 1, 0, 3, 1, 2, 2, 1, 5]) ws (vs) := ⟨nf_in hl rfl, sgq_1581 (vc_Mo_tree_1_0 (v_iv (n_v vs 2)) (v_iv (n_v vs 7)) (w_ei ws (w_ar ws (n_v vs 0) 2)) (w_fi ws (n_v vs 0) 5) k2 k7 d2 (shm_126 f5) (shm_127 f6))⟩
  have nf1 : fc_1 PRD (20, [0, 2, 11], [60, 0, 1, 376, 129]) ws (vs) := ⟨nf_in hl rfl, sgq_1950 (vc_Mo_tree_1_1 (v_iv (n_v vs 2)) (v_iv (n_v vs 11)) (w_ei ws (w_ar ws (n_v vs 0) 129)) k2 k11)⟩
  have nf2 : fc_1 PRD (20, [0, 11], [60, 0, 2, 810, 16, 129]) ws (vs) := ⟨nf_in hl rfl, sgq_1951 (vc_Mo_tree_1_2 (v_iv (n_v vs 11)) (w_ei ws (w_ar ws (n_v vs 0) 16)) (w_ei ws (w_ar ws (n_v vs 0) 129)) k11)⟩
  refine ⟨(fun _ h => (by cases h)), [], trivial, ?_, (fun _ h => (by cases h))⟩
  rw [List.append_nil]
  exact List.forall_mem_cons.mpr ⟨⟨show (20 : Nat) < 100 from by decide, nf0⟩, List.forall_mem_cons.mpr ⟨⟨show (20 : Nat) < 100 from by decide, nf1⟩, List.forall_mem_cons.mpr ⟨⟨show (20 : Nat) < 100 from by decide, nf2⟩, (fun _ h => (by cases h))⟩⟩⟩
set_option maxHeartbeats 4000000 in
theorem vc_Mo_tree_2_0 (x2 : Int) (x3 : Int) (x4 : Int) (root_0 : Int → Int) (k2 : 0 ≤ x2 ∧ x2 ≤ 24) (k3 : 0 ≤ x3 ∧ x3 ≤ 24) (k4 : 0 ≤ x4 ∧ x4 ≤ 24) (d0 : x3 + 0 ≤ x4 ∧ x4 ≤ x3 + 4294967296) (d1 : x3 + (-4294967296) ≤ x4 ∧ x4 ≤ x3 + 0) (f4 : RTK (root_0) (x2) (x4)) : RTK (root_0) (x2) (x3) := by
  first
    | assumption
    | (intro c a b; exact ‹RTK _ _ _› c a (by omega))
set_option maxHeartbeats 4000000 in
theorem vc_Mo_tree_2_1 (x5 : Int) (above_0 : Int → Int) (level_0 : Int → Int) (k5 : 0 ≤ x5 ∧ x5 ≤ 0) : ABI (above_0) (level_0) (x5) := by
  first
    | (intro c a b; exfalso; omega)
    | exact abi_step ‹ABI _ _ _› (by omega) (by assumption) (by omega) (by omega) (by assumption) (by omega) (by omega)
set_option maxHeartbeats 4000000 in
theorem vc_Mo_tree_2_2 (x3 : Int) (x4 : Int) (partOf_0 : Int → Int) (root_0 : Int → Int) (k3 : 0 ≤ x3 ∧ x3 ≤ 24) (k4 : 0 ≤ x4 ∧ x4 ≤ 24) (d0 : x3 + 0 ≤ x4 ∧ x4 ≤ x3 + 4294967296) (d1 : x3 + (-4294967296) ≤ x4 ∧ x4 ≤ x3 + 0) (f5 : RTPT (partOf_0) (root_0) (x4)) : RTPT (partOf_0) (root_0) (x3) := by
  first
    | exact rtp_store (v := x1) ‹RTI _ _ _› (by omega) (by omega) (by assumption) (by omega) (by omega) (by omega)
    | (intro q a b; exfalso; omega)
    | assumption
    | (intro q a b; exact ‹RTPT _ _ _› q a (by omega))
    | (have g := ‹RTJ _ _ _ _ _›
       have g2 := g.2
       have h := ‹RTI _ _ _›
       refine rtp_next h (by omega) ?_
       rcases g2 with q | ⟨q, w⟩
       · omega
       · exfalso
         obtain ⟨v, v0, v1, v2⟩ := ‹PTP _ _ _ _› ‹SGR _ _› x4 (by omega) (by omega)
         exact w v (by omega) (by omega) v2)
  
set_option maxHeartbeats 4000000 in
theorem vc_Mo_tree_2_3 (x5 : Int) (nx_0 : Int → Int) (k5 : 0 ≤ x5 ∧ x5 ≤ 0) : NX0 (nx_0) (x5) := by
  first
    | (intro j a b; exfalso; omega)
    | assumption
    | (intro j a b; exact ‹NX0 _ _› j a (by omega))
    | exact nx0_step ‹NX0 _ _› (by omega) (by assumption) (by omega) (by omega)
  
set_option maxHeartbeats 4000000 in
theorem vc_Mo_tree_2_4 (x5 : Int) (level_0 : Int → Int) (k5 : 0 ≤ x5 ∧ x5 ≤ 0) : LVN (level_0) (x5) := by
  first
    | (intro j a b; exfalso; omega)
    | exact lvn_step ‹LVN _ _› (by omega) (by assumption) (by omega) (by omega)
  
def o_Mo_tree_2 : or_T := (125, 6, [(2, (0, 0, 24, [])), (3, (0, 0, 24, [])), (4, (0, 0, 24, [])), (5, (0, 0, 0, []))], [(20, [0, 2, 4], [60, 0, 1, 376, 129]), (20, [0, 4], [60, 0, 2, 810, 16, 129])], [], [], [(20, [0, 2, 3], [60, 0, 1, 376, 129]), (20, [0, 5], [60, 0, 2, 378, 127, 128]), (20, [0, 3], [60, 0, 2, 810, 16, 129]), (20, [0, 5], [60, 0, 1, 817, 74]), (20, [0, 5], [60, 0, 1, 820, 128])], [], [(4, 3, 0, 4294967296), (4, 3, -4294967296, 0)])
theorem oo_Mo_tree_2 {kA : Nat → ClassId} : or_ok PRD kA GG o_Mo_tree_2 := by
  refine or_mk fun A ta ws vs hD hth hl => ?_
  intro t2 k2 t3 k3 t4 k4 t5 k5 d0 d1 f4 f5
  have nf0 : fc_1 PRD (20, [0, 2, 3], [60, 0, 1, 376, 129]) ws (vs) := ⟨nf_in hl rfl, sgq_1950 (vc_Mo_tree_2_0 (v_iv (n_v vs 2)) (v_iv (n_v vs 3)) (v_iv (n_v vs 4)) (w_ei ws (w_ar ws (n_v vs 0) 129)) k2 k3 k4 d0 d1 (shm_1950 f4))⟩
  have nf1 : fc_1 PRD (20, [0, 5], [60, 0, 2, 378, 127, 128]) ws (vs) := ⟨nf_in hl rfl, sgq_1952 (vc_Mo_tree_2_1 (v_iv (n_v vs 5)) (w_ei ws (w_ar ws (n_v vs 0) 127)) (w_ei ws (w_ar ws (n_v vs 0) 128)) k5)⟩
  have nf2 : fc_1 PRD (20, [0, 3], [60, 0, 2, 810, 16, 129]) ws (vs) := ⟨nf_in hl rfl, sgq_1951 (vc_Mo_tree_2_2 (v_iv (n_v vs 3)) (v_iv (n_v vs 4)) (w_ei ws (w_ar ws (n_v vs 0) 16)) (w_ei ws (w_ar ws (n_v vs 0) 129)) k3 k4 d0 d1 (shm_1951 f5))⟩
  have nf3 : fc_1 PRD (20, [0, 5], [60, 0, 1, 817, 74]) ws (vs) := ⟨nf_in hl rfl, sgq_1953 (vc_Mo_tree_2_3 (v_iv (n_v vs 5)) (w_ei ws (w_ar ws (n_v vs 0) 74)) k5)⟩
  have nf4 : fc_1 PRD (20, [0, 5], [60, 0, 1, 820, 128]) ws (vs) := ⟨nf_in hl rfl, sgq_1954 (vc_Mo_tree_2_4 (v_iv (n_v vs 5)) (w_ei ws (w_ar ws (n_v vs 0) 128)) k5)⟩
  refine ⟨(fun _ h => (by cases h)), [], trivial, ?_, (fun _ h => (by cases h))⟩
  rw [List.append_nil]
  exact List.forall_mem_cons.mpr ⟨⟨show (20 : Nat) < 100 from by decide, nf0⟩, List.forall_mem_cons.mpr ⟨⟨show (20 : Nat) < 100 from by decide, nf1⟩, List.forall_mem_cons.mpr ⟨⟨show (20 : Nat) < 100 from by decide, nf2⟩, List.forall_mem_cons.mpr ⟨⟨show (20 : Nat) < 100 from by decide, nf3⟩, List.forall_mem_cons.mpr ⟨⟨show (20 : Nat) < 100 from by decide, nf4⟩, (fun _ h => (by cases h))⟩⟩⟩⟩⟩
set_option maxHeartbeats 4000000 in
theorem vc_Mo_tree_3_0 (x2 : Int) (x4 : Int) (x6 : Int) (x8 : Int) (all_0 : Int → Int) (r_0 : Int) (partOf_0 : Int → Int) (all_1 : Int → Int) (r_1 : Int) (partOf_1 : Int → Int) (root_1 : Int → Int) (root_0 : Int → Int) (k2 : 0 ≤ x2 ∧ x2 ≤ 24) (k4 : 0 ≤ x4 ∧ x4 ≤ 23) (k6 : (-1) ≤ x6 ∧ x6 ≤ (-1)) (k8 : (-1) ≤ x8 ∧ x8 ≤ 23) (d0 : x2 + (-1) ≤ x8 ∧ x8 ≤ x2 + (-1)) (f10 : RTK (root_1) (x2) (x4)) (fe_0_5_1 : r_0 = r_1) (hE_0_2_1 : ∀ j : Int, all_0 j = all_1 j) (hE_0_16_1 : ∀ j : Int, partOf_0 j = partOf_1 j) (hE_0_129_1 : ∀ j : Int, 0 ≤ j → (j = x4 → root_0 j = x6) ∧ (j ≠ x4 → root_0 j = root_1 j)) : RTJ (partOf_0) (root_0) (x2) (x4) (x8) := by
  subst fe_0_5_1
  have e_hE_0_2_1 := funext hE_0_2_1; subst e_hE_0_2_1
  have e_hE_0_16_1 := funext hE_0_16_1; subst e_hE_0_16_1
  first
    | exact rtj_skip ‹RTJ _ _ _ _ _› (by omega) (by omega)
    | exact rtj_take ‹RTJ _ _ _ _ _› (by omega) (by assumption) (by omega) (by omega) (by omega)
    | exact rtj_start ‹RTK _ _ _› (by omega) (by assumption) (by omega) (by omega) (by omega)
set_option maxHeartbeats 4000000 in
theorem vc_Mo_tree_3_1 (x3 : Int) (x4 : Int) (all_0 : Int → Int) (r_0 : Int) (partOf_0 : Int → Int) (all_1 : Int → Int) (r_1 : Int) (partOf_1 : Int → Int) (k3 : 1 ≤ x3 ∧ x3 ≤ 24) (k4 : 0 ≤ x4 ∧ x4 ≤ 23) (d1 : x3 + (-4294967296) ≤ x4 ∧ x4 ≤ x3 + (-1)) (fe_0_5_1 : r_0 = r_1) (hE_0_2_1 : ∀ j : Int, all_0 j = all_1 j) (hE_0_16_1 : ∀ j : Int, partOf_0 j = partOf_1 j) : (x4 + 1) ≤ x3 := by
  subst fe_0_5_1
  have e_hE_0_2_1 := funext hE_0_2_1; subst e_hE_0_2_1
  have e_hE_0_16_1 := funext hE_0_16_1; subst e_hE_0_16_1
  first
    | omega
    | assumption
    | (simp only [Int.add_zero] at *; omega)
  
set_option maxHeartbeats 4000000 in
theorem vc_Mo_tree_3_2 (x4 : Int) (x6 : Int) (all_0 : Int → Int) (r_0 : Int) (partOf_0 : Int → Int) (all_1 : Int → Int) (r_1 : Int) (partOf_1 : Int → Int) (root_1 : Int → Int) (root_0 : Int → Int) (k4 : 0 ≤ x4 ∧ x4 ≤ 23) (k6 : (-1) ≤ x6 ∧ x6 ≤ (-1)) (f11 : RTPT (partOf_1) (root_1) (x4)) (fe_0_5_1 : r_0 = r_1) (hE_0_2_1 : ∀ j : Int, all_0 j = all_1 j) (hE_0_16_1 : ∀ j : Int, partOf_0 j = partOf_1 j) (hE_0_129_1 : ∀ j : Int, 0 ≤ j → (j = x4 → root_0 j = x6) ∧ (j ≠ x4 → root_0 j = root_1 j)) : RTI (partOf_0) (root_0) (x4) := by
  subst fe_0_5_1
  have e_hE_0_2_1 := funext hE_0_2_1; subst e_hE_0_2_1
  have e_hE_0_16_1 := funext hE_0_16_1; subst e_hE_0_16_1
  first
    | assumption
    | exact rti_of ‹RTPT _ _ _› (by assumption) (by omega) (by omega) (by omega)
    | exact rti_step ‹RTI _ _ _› (by assumption) (by omega) (by omega) (Or.inr (by omega))
  
def o_Mo_tree_3 : or_T := (61, 9, [(0, (2, 0, 0, [165])), (2, (0, 0, 24, [])), (3, (0, 1, 24, [])), (4, (0, 0, 23, [])), (5, (2, 0, 0, [259])), (6, (0, -1, -1, [])), (7, (0, 1, 1, [])), (8, (0, -1, 23, []))], [(2, [8, 2, 7], []), (20, [0], [60, 1, 1, 197, 5, 2]), (20, [2, 0], [50, 1, 1, 1005, 1002, 1, 2, 1, 0, 3, 1, 2, 2, 1, 5]), (20, [0, 3], [60, 1, 2, 375, 5, 2, 16]), (100, [5, 4, 6], []), (9, [5, 0], [129]), (7, [4, 3], [2]), (20, [0], [60, 1, 1, 197, 5, 2]), (20, [2, 0], [50, 1, 1, 1005, 1002, 1, 2, 1, 0, 3, 1, 2, 2, 1, 5]), (20, [0, 3], [60, 1, 2, 375, 5, 2, 16]), (20, [0, 2, 4], [60, 0, 1, 376, 129]), (20, [0, 4], [60, 0, 2, 810, 16, 129])], [], [], [(20, [0, 2, 4, 8], [60, 0, 2, 377, 16, 129]), (20, [4, 3], [50, 0, 0, 0, 6, 4, 2, 1, 0, 0, 1, 1, 1]), (20, [0, 4], [60, 0, 2, 811, 16, 129])], [], [(8, 2, -1, -1), (4, 3, -4294967296, -1), (4, 3, -4294967296, 0)])
theorem oo_Mo_tree_3 {kA : Nat → ClassId} : or_ok PRD kA GG o_Mo_tree_3 := by
  refine or_mk fun A ta ws vs hD hth hl => ?_
  intro t0 r0 t2 k2 t3 k3 t4 k4 t5 r5 t6 k6 t7 k7 t8 k8 d0 d1 d2 f0 f1 f2 f3 ta1 w1 le1 s1 f5 f6 f7 f8 f9 f10 f11
  have s1 : (∀ b j, w_el ws b j = if b = v_ad (n_v vs 5) ∧ j = (v_iv (n_v vs 4)).toNat then v_iv (n_v vs 6) else w_el w1 b j) ∧ ∀ b k, w_fd ws b k = w_fd w1 b k := s1.2
  replace f5 := shm_1955 f5
  replace f10 := shm_1950 f10
  replace f11 := shm_1951 f11
  have ar_0_2_1 : w_ar w1 (n_v vs 0) 2 = w_ar ws (n_v vs 0) 2 := congrArg v_ad (s1.2 _ _).symm
  have cr_0_2 := fdq_10 hD hth r0
  have ar_0_16_1 : w_ar w1 (n_v vs 0) 16 = w_ar ws (n_v vs 0) 16 := congrArg v_ad (s1.2 _ _).symm
  have cr_0_16 := fdq_153 hD hth r0
  have ar_0_129_1 : w_ar w1 (n_v vs 0) 129 = w_ar ws (n_v vs 0) 129 := congrArg v_ad (s1.2 _ _).symm
  have ad_5 : v_ad (n_v vs 5) = w_ar ws (n_v vs 0) 129 := (congrArg v_ad f5).trans ar_0_129_1
  simp only [ar_0_2_1, ar_0_16_1, ar_0_129_1] at f10 f11
  have fe_0_5_1 : w_fi ws (n_v vs 0) 5 = w_fi w1 (n_v vs 0) 5 := congrArg v_iv (s1.2 _ _)
  have hE_0_2_1 : ∀ j : Int, w_ei ws (w_ar ws (n_v vs 0) 2) j = w_ei w1 (w_ar ws (n_v vs 0) 2) j := el_kp s1.1 r5 cr_0_2 (by decide)
  have hE_0_16_1 : ∀ j : Int, w_ei ws (w_ar ws (n_v vs 0) 16) j = w_ei w1 (w_ar ws (n_v vs 0) 16) j := el_kp s1.1 r5 cr_0_16 (by decide)
  have hE_0_129_1 : ∀ j : Int, 0 ≤ j → (j = v_iv (n_v vs 4) → w_ei ws (w_ar ws (n_v vs 0) 129) j = v_iv (n_v vs 6)) ∧ (j ≠ v_iv (n_v vs 4) → w_ei ws (w_ar ws (n_v vs 0) 129) j = w_ei w1 (w_ar ws (n_v vs 0) 129) j) := fun j hj => ⟨fun h => by unfold w_ei; rw [s1.1, if_pos ⟨ad_5.symm, by rw [h]⟩], fun h => by unfold w_ei; rw [s1.1, if_neg (fun e => h (by have := e.2; omega))]⟩
  have nf0 : fc_1 PRD (20, [0, 2, 4, 8], [60, 0, 2, 377, 16, 129]) ws (vs) := ⟨nf_in hl rfl, sgq_1956 (vc_Mo_tree_3_0 (v_iv (n_v vs 2)) (v_iv (n_v vs 4)) (v_iv (n_v vs 6)) (v_iv (n_v vs 8)) (w_ei ws (w_ar ws (n_v vs 0) 2)) (w_fi ws (n_v vs 0) 5) (w_ei ws (w_ar ws (n_v vs 0) 16)) (w_ei w1 (w_ar ws (n_v vs 0) 2)) (w_fi w1 (n_v vs 0) 5) (w_ei w1 (w_ar ws (n_v vs 0) 16)) (w_ei w1 (w_ar ws (n_v vs 0) 129)) (w_ei ws (w_ar ws (n_v vs 0) 129)) k2 k4 k6 k8 d0 f10 fe_0_5_1 hE_0_2_1 hE_0_16_1 hE_0_129_1)⟩
  have nf1 : fc_1 PRD (20, [4, 3], [50, 0, 0, 0, 6, 4, 2, 1, 0, 0, 1, 1, 1]) ws (vs) := ⟨nf_in hl rfl, sgq_396 (vc_Mo_tree_3_1 (v_iv (n_v vs 3)) (v_iv (n_v vs 4)) (w_ei ws (w_ar ws (n_v vs 0) 2)) (w_fi ws (n_v vs 0) 5) (w_ei ws (w_ar ws (n_v vs 0) 16)) (w_ei w1 (w_ar ws (n_v vs 0) 2)) (w_fi w1 (n_v vs 0) 5) (w_ei w1 (w_ar ws (n_v vs 0) 16)) k3 k4 d1 fe_0_5_1 hE_0_2_1 hE_0_16_1)⟩
  have nf2 : fc_1 PRD (20, [0, 4], [60, 0, 2, 811, 16, 129]) ws (vs) := ⟨nf_in hl rfl, sgq_1957 (vc_Mo_tree_3_2 (v_iv (n_v vs 4)) (v_iv (n_v vs 6)) (w_ei ws (w_ar ws (n_v vs 0) 2)) (w_fi ws (n_v vs 0) 5) (w_ei ws (w_ar ws (n_v vs 0) 16)) (w_ei w1 (w_ar ws (n_v vs 0) 2)) (w_fi w1 (n_v vs 0) 5) (w_ei w1 (w_ar ws (n_v vs 0) 16)) (w_ei w1 (w_ar ws (n_v vs 0) 129)) (w_ei ws (w_ar ws (n_v vs 0) 129)) k4 k6 f11 fe_0_5_1 hE_0_2_1 hE_0_16_1 hE_0_129_1)⟩
  refine ⟨(fun _ h => (by cases h)), [], trivial, ?_, (fun _ h => (by cases h))⟩
  rw [List.append_nil]
  exact List.forall_mem_cons.mpr ⟨⟨show (20 : Nat) < 100 from by decide, nf0⟩, List.forall_mem_cons.mpr ⟨⟨show (20 : Nat) < 100 from by decide, nf1⟩, List.forall_mem_cons.mpr ⟨⟨show (20 : Nat) < 100 from by decide, nf2⟩, (fun _ h => (by cases h))⟩⟩⟩
set_option maxHeartbeats 4000000 in
theorem vc_Mo_tree_4_0 (x2 : Int) (x3 : Int) (x4 : Int) (x5 : Int) (x6 : Int) (all_0 : Int → Int) (r_0 : Int) (partOf_0 : Int → Int) (root_0 : Int → Int) (k2 : 0 ≤ x2 ∧ x2 ≤ 24) (k3 : 1 ≤ x3 ∧ x3 ≤ 24) (k4 : 0 ≤ x4 ∧ x4 ≤ 23) (k5 : (-1) ≤ x5 ∧ x5 ≤ (-1)) (k6 : 1 ≤ x6 ∧ x6 ≤ 24) (d0 : x4 + 1 ≤ x6 ∧ x6 ≤ x4 + 1) (d1 : x3 + (-4294967296) ≤ x6 ∧ x6 ≤ x3 + 0) (d2 : x3 + (-4294967296) ≤ x4 ∧ x4 ≤ x3 + (-1)) (f0 : x6 = x4 + 1) (f1 : x5 < 0) (f2 : SGR (r_0) (all_0)) (f3 : x2 = all_0 (r_0)) (f4 : PTP (r_0) (all_0) (partOf_0) (x3)) (f5 : RTJ (partOf_0) (root_0) (x2) (x4) (x5)) : RTK (root_0) (x2) (x6) := by
  first
    | (intro c a b; exfalso; omega)
    | exact rtj_end ‹RTJ _ _ _ _ _› (by omega) (by omega) ‹PTP _ _ _ _› ‹SGR _ _› (by omega) (by omega) (by omega)
    | exact rtj_end2 ‹RTJ _ _ _ _ _› (by omega) (by omega) (by assumption) (by omega) (by omega) (by omega)
set_option maxHeartbeats 4000000 in
theorem vc_Mo_tree_4_1 (x2 : Int) (x3 : Int) (x4 : Int) (x5 : Int) (x6 : Int) (all_0 : Int → Int) (r_0 : Int) (partOf_0 : Int → Int) (root_0 : Int → Int) (k2 : 0 ≤ x2 ∧ x2 ≤ 24) (k3 : 1 ≤ x3 ∧ x3 ≤ 24) (k4 : 0 ≤ x4 ∧ x4 ≤ 23) (k5 : (-1) ≤ x5 ∧ x5 ≤ (-1)) (k6 : 1 ≤ x6 ∧ x6 ≤ 24) (d0 : x4 + 1 ≤ x6 ∧ x6 ≤ x4 + 1) (d1 : x3 + (-4294967296) ≤ x6 ∧ x6 ≤ x3 + 0) (d2 : x3 + (-4294967296) ≤ x4 ∧ x4 ≤ x3 + (-1)) (f0 : x6 = x4 + 1) (f2 : SGR (r_0) (all_0)) (f3 : x2 = all_0 (r_0)) (f4 : PTP (r_0) (all_0) (partOf_0) (x3)) (f5 : RTJ (partOf_0) (root_0) (x2) (x4) (x5)) (f7 : RTI (partOf_0) (root_0) (x4)) : RTPT (partOf_0) (root_0) (x6) := by
  first
    | exact rtp_store (v := x1) ‹RTI _ _ _› (by omega) (by omega) (by assumption) (by omega) (by omega) (by omega)
    | (intro q a b; exfalso; omega)
    | assumption
    | (intro q a b; exact ‹RTPT _ _ _› q a (by omega))
    | (have g := ‹RTJ _ _ _ _ _›
       have g2 := g.2
       have h := ‹RTI _ _ _›
       refine rtp_next h (by omega) ?_
       rcases g2 with q | ⟨q, w⟩
       · omega
       · exfalso
         obtain ⟨v, v0, v1, v2⟩ := ‹PTP _ _ _ _› ‹SGR _ _› x4 (by omega) (by omega)
         exact w v (by omega) (by omega) v2)
  
def o_Mo_tree_4 : or_T := (42, 7, [(2, (0, 0, 24, [])), (3, (0, 1, 24, [])), (4, (0, 0, 23, [])), (5, (0, -1, -1, [])), (6, (0, 1, 24, []))], [(6, [6, 4], [1]), (8, [5], [2]), (20, [0], [60, 1, 1, 197, 5, 2]), (20, [2, 0], [50, 1, 1, 1005, 1002, 1, 2, 1, 0, 3, 1, 2, 2, 1, 5]), (20, [0, 3], [60, 1, 2, 375, 5, 2, 16]), (20, [0, 2, 4, 5], [60, 0, 2, 377, 16, 129]), (20, [0, 4], [60, 0, 2, 811, 16, 129])], [], [], [(20, [0, 2, 6], [60, 0, 1, 376, 129]), (20, [0, 6], [60, 0, 2, 810, 16, 129])], [], [(6, 4, 1, 1), (6, 3, -4294967296, 0), (4, 3, -4294967296, -1)])
theorem oo_Mo_tree_4 {kA : Nat → ClassId} : or_ok PRD kA GG o_Mo_tree_4 := by
  refine or_mk fun A ta ws vs hD hth hl => ?_
  intro t2 k2 t3 k3 t4 k4 t5 k5 t6 k6 d0 d1 d2 f0 f1 f2 f3 f4 f5 f7
  have nf0 : fc_1 PRD (20, [0, 2, 6], [60, 0, 1, 376, 129]) ws (vs) := ⟨nf_in hl rfl, sgq_1950 (vc_Mo_tree_4_0 (v_iv (n_v vs 2)) (v_iv (n_v vs 3)) (v_iv (n_v vs 4)) (v_iv (n_v vs 5)) (v_iv (n_v vs 6)) (w_ei ws (w_ar ws (n_v vs 0) 2)) (w_fi ws (n_v vs 0) 5) (w_ei ws (w_ar ws (n_v vs 0) 16)) (w_ei ws (w_ar ws (n_v vs 0) 129)) k2 k3 k4 k5 k6 d0 d1 d2 (shm_4 f0) (shm_39 f1) (shm_1452 f2) (shm_1581 f3) (shm_1653 f4) (shm_1956 f5))⟩
  have nf1 : fc_1 PRD (20, [0, 6], [60, 0, 2, 810, 16, 129]) ws (vs) := ⟨nf_in hl rfl, sgq_1951 (vc_Mo_tree_4_1 (v_iv (n_v vs 2)) (v_iv (n_v vs 3)) (v_iv (n_v vs 4)) (v_iv (n_v vs 5)) (v_iv (n_v vs 6)) (w_ei ws (w_ar ws (n_v vs 0) 2)) (w_fi ws (n_v vs 0) 5) (w_ei ws (w_ar ws (n_v vs 0) 16)) (w_ei ws (w_ar ws (n_v vs 0) 129)) k2 k3 k4 k5 k6 d0 d1 d2 (shm_4 f0) (shm_1452 f2) (shm_1581 f3) (shm_1653 f4) (shm_1956 f5) (shm_1957 f7))⟩
  refine ⟨(fun _ h => (by cases h)), [], trivial, ?_, (fun _ h => (by cases h))⟩
  rw [List.append_nil]
  exact List.forall_mem_cons.mpr ⟨⟨show (20 : Nat) < 100 from by decide, nf0⟩, List.forall_mem_cons.mpr ⟨⟨show (20 : Nat) < 100 from by decide, nf1⟩, (fun _ h => (by cases h))⟩⟩
set_option maxHeartbeats 4000000 in
theorem vc_Mo_tree_5_0 (x2 : Int) (x3 : Int) (x4 : Int) (x5 : Int) (x8 : Int) (partOf_0 : Int → Int) (all_0 : Int → Int) (r_0 : Int) (root_0 : Int → Int) (k2 : 1 ≤ x2 ∧ x2 ≤ 24) (k3 : 1 ≤ x3 ∧ x3 ≤ 24) (k4 : 0 ≤ x4 ∧ x4 ≤ 23) (k5 : (-1) ≤ x5 ∧ x5 ≤ (-1)) (k8 : 1 ≤ x8 ∧ x8 ≤ 24) (d0 : x4 + 1 ≤ x8 ∧ x8 ≤ x4 + 1) (d1 : x3 + (-4294967296) ≤ x8 ∧ x8 ≤ x3 + 0) (d3 : x3 + (-4294967296) ≤ x4 ∧ x4 ≤ x3 + (-1)) (f0 : x8 = x4 + 1) (f5 : x5 < 0) (f6 : SGR (r_0) (all_0)) (f7 : x2 = all_0 (r_0)) (f8 : PTP (r_0) (all_0) (partOf_0) (x3)) (f9 : RTJ (partOf_0) (root_0) (x2) (x4) (x5)) : RTK (root_0) (x2) (x8) := by
  first
    | (intro c a b; exfalso; omega)
    | exact rtj_end ‹RTJ _ _ _ _ _› (by omega) (by omega) ‹PTP _ _ _ _› ‹SGR _ _› (by omega) (by omega) (by omega)
    | exact rtj_end2 ‹RTJ _ _ _ _ _› (by omega) (by omega) (by assumption) (by omega) (by omega) (by omega)
set_option maxHeartbeats 4000000 in
theorem vc_Mo_tree_5_1 (x1 : Int) (x2 : Int) (x3 : Int) (x4 : Int) (x5 : Int) (x8 : Int) (partOf_0 : Int → Int) (all_0 : Int → Int) (r_0 : Int) (root_0 : Int → Int) (k2 : 1 ≤ x2 ∧ x2 ≤ 24) (k3 : 1 ≤ x3 ∧ x3 ≤ 24) (k4 : 0 ≤ x4 ∧ x4 ≤ 23) (k5 : (-1) ≤ x5 ∧ x5 ≤ (-1)) (k8 : 1 ≤ x8 ∧ x8 ≤ 24) (d0 : x4 + 1 ≤ x8 ∧ x8 ≤ x4 + 1) (d1 : x3 + (-4294967296) ≤ x8 ∧ x8 ≤ x3 + 0) (d3 : x3 + (-4294967296) ≤ x4 ∧ x4 ≤ x3 + (-1)) (f0 : x8 = x4 + 1) (f6 : SGR (r_0) (all_0)) (f7 : x2 = all_0 (r_0)) (f8 : PTP (r_0) (all_0) (partOf_0) (x3)) (f9 : RTJ (partOf_0) (root_0) (x2) (x4) (x5)) (f11 : RTI (partOf_0) (root_0) (x4)) : RTPT (partOf_0) (root_0) (x8) := by
  first
    | exact rtp_store (v := x1) ‹RTI _ _ _› (by omega) (by omega) (by assumption) (by omega) (by omega) (by omega)
    | (intro q a b; exfalso; omega)
    | assumption
    | (intro q a b; exact ‹RTPT _ _ _› q a (by omega))
    | (have g := ‹RTJ _ _ _ _ _›
       have g2 := g.2
       have h := ‹RTI _ _ _›
       refine rtp_next h (by omega) ?_
       rcases g2 with q | ⟨q, w⟩
       · omega
       · exfalso
         obtain ⟨v, v0, v1, v2⟩ := ‹PTP _ _ _ _› ‹SGR _ _› x4 (by omega) (by omega)
         exact w v (by omega) (by omega) v2)
  
def o_Mo_tree_5 : or_T := (42, 9, [(2, (0, 1, 24, [])), (3, (0, 1, 24, [])), (4, (0, 0, 23, [])), (5, (0, -1, -1, [])), (8, (0, 1, 24, []))], [(6, [8, 4], [1]), (8, [5], [2]), (20, [0], [60, 1, 1, 197, 5, 2]), (20, [2, 0], [50, 1, 1, 1005, 1002, 1, 2, 1, 0, 3, 1, 2, 2, 1, 5]), (20, [0, 3], [60, 1, 2, 375, 5, 2, 16]), (20, [0, 2, 4, 5], [60, 0, 2, 377, 16, 129]), (20, [0, 4], [60, 0, 2, 811, 16, 129])], [], [], [(20, [0, 2, 8], [60, 0, 1, 376, 129]), (20, [0, 8], [60, 0, 2, 810, 16, 129])], [], [(8, 4, 1, 1), (8, 3, -4294967296, 0), (4, 3, -4294967296, -1)])
theorem oo_Mo_tree_5 {kA : Nat → ClassId} : or_ok PRD kA GG o_Mo_tree_5 := by
  refine or_mk fun A ta ws vs hD hth hl => ?_
  intro t2 k2 t3 k3 t4 k4 t5 k5 t8 k8 d0 d1 d3 f0 f5 f6 f7 f8 f9 f11
  have nf0 : fc_1 PRD (20, [0, 2, 8], [60, 0, 1, 376, 129]) ws (vs) := ⟨nf_in hl rfl, sgq_1950 (vc_Mo_tree_5_0 (v_iv (n_v vs 2)) (v_iv (n_v vs 3)) (v_iv (n_v vs 4)) (v_iv (n_v vs 5)) (v_iv (n_v vs 8)) (w_ei ws (w_ar ws (n_v vs 0) 16)) (w_ei ws (w_ar ws (n_v vs 0) 2)) (w_fi ws (n_v vs 0) 5) (w_ei ws (w_ar ws (n_v vs 0) 129)) k2 k3 k4 k5 k8 d0 d1 d3 (shm_4 f0) (shm_39 f5) (shm_1452 f6) (shm_1581 f7) (shm_1653 f8) (shm_1956 f9))⟩
  have nf1 : fc_1 PRD (20, [0, 8], [60, 0, 2, 810, 16, 129]) ws (vs) := ⟨nf_in hl rfl, sgq_1951 (vc_Mo_tree_5_1 (v_iv (n_v vs 1)) (v_iv (n_v vs 2)) (v_iv (n_v vs 3)) (v_iv (n_v vs 4)) (v_iv (n_v vs 5)) (v_iv (n_v vs 8)) (w_ei ws (w_ar ws (n_v vs 0) 16)) (w_ei ws (w_ar ws (n_v vs 0) 2)) (w_fi ws (n_v vs 0) 5) (w_ei ws (w_ar ws (n_v vs 0) 129)) k2 k3 k4 k5 k8 d0 d1 d3 (shm_4 f0) (shm_1452 f6) (shm_1581 f7) (shm_1653 f8) (shm_1956 f9) (shm_1957 f11))⟩
  refine ⟨(fun _ h => (by cases h)), [], trivial, ?_, (fun _ h => (by cases h))⟩
  rw [List.append_nil]
  exact List.forall_mem_cons.mpr ⟨⟨show (20 : Nat) < 100 from by decide, nf0⟩, List.forall_mem_cons.mpr ⟨⟨show (20 : Nat) < 100 from by decide, nf1⟩, (fun _ h => (by cases h))⟩⟩
set_option maxHeartbeats 4000000 in
theorem vc_Mo_tree_6_0 (x1 : Int) (x2 : Int) (x4 : Int) (x5 : Int) (x7 : Int) (x9 : Int) (all_0 : Int → Int) (r_0 : Int) (partOf_0 : Int → Int) (partOf_1 : Int → Int) (all_1 : Int → Int) (r_1 : Int) (root_1 : Int → Int) (root_0 : Int → Int) (k1 : 0 ≤ x1 ∧ x1 ≤ 23) (k2 : 1 ≤ x2 ∧ x2 ≤ 24) (k4 : 0 ≤ x4 ∧ x4 ≤ 23) (k5 : (-1) ≤ x5 ∧ x5 ≤ (-1)) (k7 : 0 ≤ x7 ∧ x7 ≤ 23) (k9 : 1 ≤ x9 ∧ x9 ≤ 24) (d0 : x4 + 1 ≤ x9 ∧ x9 ≤ x4 + 1) (d2 : x4 + 0 ≤ x7 ∧ x7 ≤ x4 + 0) (d3 : x2 + (-4294967296) ≤ x1 ∧ x1 ≤ x2 + (-1)) (f0 : x9 = x4 + 1) (f2 : x2 = all_0 (r_0)) (h8 : x7 = partOf_1 (x1)) (f10 : 0 ≤ x1) (f15 : RTJ (partOf_1) (root_1) (x2) (x4) (x5)) (fe_0_5_1 : r_0 = r_1) (hE_0_2_1 : ∀ j : Int, all_0 j = all_1 j) (hE_0_16_1 : ∀ j : Int, partOf_0 j = partOf_1 j) (hE_0_129_1 : ∀ j : Int, 0 ≤ j → (j = x4 → root_0 j = x1) ∧ (j ≠ x4 → root_0 j = root_1 j)) : RTK (root_0) (x2) (x9) := by
  subst fe_0_5_1
  have e_hE_0_2_1 := funext hE_0_2_1; subst e_hE_0_2_1
  have e_hE_0_16_1 := funext hE_0_16_1; subst e_hE_0_16_1
  first
    | (intro c a b; exfalso; omega)
    | exact rtj_end ‹RTJ _ _ _ _ _› (by omega) (by omega) ‹PTP _ _ _ _› ‹SGR _ _› (by omega) (by omega) (by omega)
    | exact rtj_end2 ‹RTJ _ _ _ _ _› (by omega) (by omega) (by assumption) (by omega) (by omega) (by omega)
set_option maxHeartbeats 4000000 in
theorem vc_Mo_tree_6_1 (x1 : Int) (x4 : Int) (x7 : Int) (x9 : Int) (all_0 : Int → Int) (r_0 : Int) (partOf_0 : Int → Int) (partOf_1 : Int → Int) (all_1 : Int → Int) (r_1 : Int) (root_1 : Int → Int) (root_0 : Int → Int) (k1 : 0 ≤ x1 ∧ x1 ≤ 23) (k4 : 0 ≤ x4 ∧ x4 ≤ 23) (k7 : 0 ≤ x7 ∧ x7 ≤ 23) (k9 : 1 ≤ x9 ∧ x9 ≤ 24) (d0 : x4 + 1 ≤ x9 ∧ x9 ≤ x4 + 1) (d2 : x4 + 0 ≤ x7 ∧ x7 ≤ x4 + 0) (f0 : x9 = x4 + 1) (h8 : x7 = partOf_1 (x1)) (f10 : 0 ≤ x1) (f17 : RTI (partOf_1) (root_1) (x4)) (fe_0_5_1 : r_0 = r_1) (hE_0_2_1 : ∀ j : Int, all_0 j = all_1 j) (hE_0_16_1 : ∀ j : Int, partOf_0 j = partOf_1 j) (hE_0_129_1 : ∀ j : Int, 0 ≤ j → (j = x4 → root_0 j = x1) ∧ (j ≠ x4 → root_0 j = root_1 j)) : RTPT (partOf_0) (root_0) (x9) := by
  subst fe_0_5_1
  have e_hE_0_2_1 := funext hE_0_2_1; subst e_hE_0_2_1
  have e_hE_0_16_1 := funext hE_0_16_1; subst e_hE_0_16_1
  first
    | exact rtp_store (v := x1) ‹RTI _ _ _› (by omega) (by omega) (by assumption) (by omega) (by omega) (by omega)
    | (intro q a b; exfalso; omega)
    | assumption
    | (intro q a b; exact ‹RTPT _ _ _› q a (by omega))
    | (have g := ‹RTJ _ _ _ _ _›
       have g2 := g.2
       have h := ‹RTI _ _ _›
       refine rtp_next h (by omega) ?_
       rcases g2 with q | ⟨q, w⟩
       · omega
       · exfalso
         obtain ⟨v, v0, v1, v2⟩ := ‹PTP _ _ _ _› ‹SGR _ _› x4 (by omega) (by omega)
         exact w v (by omega) (by omega) v2)
  
def o_Mo_tree_6 : or_T := (42, 10, [(0, (2, 0, 0, [165])), (1, (0, 0, 23, [])), (2, (0, 1, 24, [])), (4, (0, 0, 23, [])), (5, (0, -1, -1, [])), (7, (0, 0, 23, [])), (8, (2, 0, 0, [259])), (9, (0, 1, 24, []))], [(6, [9, 4], [1]), (20, [2, 0], [50, 1, 1, 1005, 1002, 1, 2, 1, 0, 3, 1, 2, 2, 1, 5]), (100, [8, 4, 1], []), (9, [8, 0], [129]), (10, [7, 6, 1], []), (9, [6, 0], [16]), (8, [1], [3]), (20, [0, 2, 4, 5], [60, 0, 2, 377, 16, 129]), (20, [0, 4], [60, 0, 2, 811, 16, 129])], [], [], [(20, [0, 2, 9], [60, 0, 1, 376, 129]), (20, [0, 9], [60, 0, 2, 810, 16, 129])], [], [(9, 4, 1, 1), (7, 4, 0, 0), (1, 2, -4294967296, -1), (4, 3, -4294967296, -1)])
theorem oo_Mo_tree_6 {kA : Nat → ClassId} : or_ok PRD kA GG o_Mo_tree_6 := by
  refine or_mk fun A ta ws vs hD hth hl => ?_
  intro t0 r0 t1 k1 t2 k2 t4 k4 t5 k5 t7 k7 t8 r8 t9 k9 d0 d2 d3 d4 f0 f2 ta1 w1 le1 s1 f6 f8 f9 f10 f15 f17
  have s1 : (∀ b j, w_el ws b j = if b = v_ad (n_v vs 8) ∧ j = (v_iv (n_v vs 4)).toNat then v_iv (n_v vs 1) else w_el w1 b j) ∧ ∀ b k, w_fd ws b k = w_fd w1 b k := s1.2
  replace f6 := shm_1955 f6
  replace f8 := shm_107 f8
  replace f9 := shm_176 f9
  replace f15 := shm_1956 f15
  replace f17 := shm_1957 f17
  have ar_0_2_1 : w_ar w1 (n_v vs 0) 2 = w_ar ws (n_v vs 0) 2 := congrArg v_ad (s1.2 _ _).symm
  have cr_0_2 := fdq_10 hD hth r0
  have ar_0_16_1 : w_ar w1 (n_v vs 0) 16 = w_ar ws (n_v vs 0) 16 := congrArg v_ad (s1.2 _ _).symm
  have cr_0_16 := fdq_153 hD hth r0
  have ar_0_129_1 : w_ar w1 (n_v vs 0) 129 = w_ar ws (n_v vs 0) 129 := congrArg v_ad (s1.2 _ _).symm
  have ad_8 : v_ad (n_v vs 8) = w_ar ws (n_v vs 0) 129 := (congrArg v_ad f6).trans ar_0_129_1
  have ad_6 : v_ad (n_v vs 6) = w_ar ws (n_v vs 0) 16 := (congrArg v_ad f9).trans ar_0_16_1
  simp only [ad_6] at f8
  have h8 : v_iv (n_v vs 7) = w_ei w1 (w_ar ws (n_v vs 0) 16) (v_iv (n_v vs 1)) := f8
  simp only [ar_0_2_1, ar_0_16_1, ar_0_129_1] at f15 f17
  have fe_0_5_1 : w_fi ws (n_v vs 0) 5 = w_fi w1 (n_v vs 0) 5 := congrArg v_iv (s1.2 _ _)
  have hE_0_2_1 : ∀ j : Int, w_ei ws (w_ar ws (n_v vs 0) 2) j = w_ei w1 (w_ar ws (n_v vs 0) 2) j := el_kp s1.1 r8 cr_0_2 (by decide)
  have hE_0_16_1 : ∀ j : Int, w_ei ws (w_ar ws (n_v vs 0) 16) j = w_ei w1 (w_ar ws (n_v vs 0) 16) j := el_kp s1.1 r8 cr_0_16 (by decide)
  have hE_0_129_1 : ∀ j : Int, 0 ≤ j → (j = v_iv (n_v vs 4) → w_ei ws (w_ar ws (n_v vs 0) 129) j = v_iv (n_v vs 1)) ∧ (j ≠ v_iv (n_v vs 4) → w_ei ws (w_ar ws (n_v vs 0) 129) j = w_ei w1 (w_ar ws (n_v vs 0) 129) j) := fun j hj => ⟨fun h => by unfold w_ei; rw [s1.1, if_pos ⟨ad_8.symm, by rw [h]⟩], fun h => by unfold w_ei; rw [s1.1, if_neg (fun e => h (by have := e.2; omega))]⟩
  have nf0 : fc_1 PRD (20, [0, 2, 9], [60, 0, 1, 376, 129]) ws (vs) := ⟨nf_in hl rfl, sgq_1950 (vc_Mo_tree_6_0 (v_iv (n_v vs 1)) (v_iv (n_v vs 2)) (v_iv (n_v vs 4)) (v_iv (n_v vs 5)) (v_iv (n_v vs 7)) (v_iv (n_v vs 9)) (w_ei ws (w_ar ws (n_v vs 0) 2)) (w_fi ws (n_v vs 0) 5) (w_ei ws (w_ar ws (n_v vs 0) 16)) (w_ei w1 (w_ar ws (n_v vs 0) 16)) (w_ei w1 (w_ar ws (n_v vs 0) 2)) (w_fi w1 (n_v vs 0) 5) (w_ei w1 (w_ar ws (n_v vs 0) 129)) (w_ei ws (w_ar ws (n_v vs 0) 129)) k1 k2 k4 k5 k7 k9 d0 d2 d3 (shm_4 f0) (shm_1581 f2) h8 (shm_32 f10) f15 fe_0_5_1 hE_0_2_1 hE_0_16_1 hE_0_129_1)⟩
  have nf1 : fc_1 PRD (20, [0, 9], [60, 0, 2, 810, 16, 129]) ws (vs) := ⟨nf_in hl rfl, sgq_1951 (vc_Mo_tree_6_1 (v_iv (n_v vs 1)) (v_iv (n_v vs 4)) (v_iv (n_v vs 7)) (v_iv (n_v vs 9)) (w_ei ws (w_ar ws (n_v vs 0) 2)) (w_fi ws (n_v vs 0) 5) (w_ei ws (w_ar ws (n_v vs 0) 16)) (w_ei w1 (w_ar ws (n_v vs 0) 16)) (w_ei w1 (w_ar ws (n_v vs 0) 2)) (w_fi w1 (n_v vs 0) 5) (w_ei w1 (w_ar ws (n_v vs 0) 129)) (w_ei ws (w_ar ws (n_v vs 0) 129)) k1 k4 k7 k9 d0 d2 (shm_4 f0) h8 (shm_32 f10) f17 fe_0_5_1 hE_0_2_1 hE_0_16_1 hE_0_129_1)⟩
  refine ⟨(fun _ h => (by cases h)), [], trivial, ?_, (fun _ h => (by cases h))⟩
  rw [List.append_nil]
  exact List.forall_mem_cons.mpr ⟨⟨show (20 : Nat) < 100 from by decide, nf0⟩, List.forall_mem_cons.mpr ⟨⟨show (20 : Nat) < 100 from by decide, nf1⟩, (fun _ h => (by cases h))⟩⟩
set_option maxHeartbeats 4000000 in
theorem vc_Mo_tree_7_0 (x2 : Int) (x4 : Int) (x5 : Int) (x7 : Int) (x8 : Int) (partOf_0 : Int → Int) (root_0 : Int → Int) (k2 : 1 ≤ x2 ∧ x2 ≤ 24) (k4 : 0 ≤ x4 ∧ x4 ≤ 23) (k5 : 0 ≤ x5 ∧ x5 ≤ 23) (k7 : (-1) ≤ x7 ∧ x7 ≤ 24) (k8 : (-1) ≤ x8 ∧ x8 ≤ 22) (d0 : x5 + (-1) ≤ x8 ∧ x8 ≤ x5 + (-1)) (f1 : x7 ≠ x4) (h2 : x7 = partOf_0 (x5)) (f8 : RTJ (partOf_0) (root_0) (x2) (x4) (x5)) : RTJ (partOf_0) (root_0) (x2) (x4) (x8) := by
  first
    | exact rtj_skip ‹RTJ _ _ _ _ _› (by omega) (by omega)
    | exact rtj_take ‹RTJ _ _ _ _ _› (by omega) (by assumption) (by omega) (by omega) (by omega)
    | exact rtj_start ‹RTK _ _ _› (by omega) (by assumption) (by omega) (by omega) (by omega)
def o_Mo_tree_7 : or_T := (61, 9, [(0, (2, 0, 0, [165])), (2, (0, 1, 24, [])), (3, (0, 1, 24, [])), (4, (0, 0, 23, [])), (5, (0, 0, 23, [])), (6, (2, 0, 0, [171])), (7, (0, -1, 24, [])), (8, (0, -1, 22, []))], [(6, [8, 5], [-1]), (7, [7, 4], [1]), (10, [7, 6, 5], []), (9, [6, 0], [16]), (8, [5], [3]), (20, [0], [60, 1, 1, 197, 5, 2]), (20, [2, 0], [50, 1, 1, 1005, 1002, 1, 2, 1, 0, 3, 1, 2, 2, 1, 5]), (20, [0, 3], [60, 1, 2, 375, 5, 2, 16]), (20, [0, 2, 4, 5], [60, 0, 2, 377, 16, 129]), (20, [4, 3], [50, 0, 0, 0, 6, 4, 2, 1, 0, 0, 1, 1, 1]), (20, [0, 4], [60, 0, 2, 811, 16, 129])], [], [], [(20, [0, 2, 4, 8], [60, 0, 2, 377, 16, 129])], [], [(8, 5, -1, -1), (8, 2, -4294967296, -2), (4, 3, -4294967296, -1), (5, 2, -4294967296, -1)])
theorem oo_Mo_tree_7 {kA : Nat → ClassId} : or_ok PRD kA GG o_Mo_tree_7 := by
  refine or_mk fun A ta ws vs hD hth hl => ?_
  intro t0 r0 t2 k2 t3 k3 t4 k4 t5 k5 t6 r6 t7 k7 t8 k8 d0 d1 d2 d3 f0 f1 f2 f3 f4 f5 f6 f7 f8 f9 f10
  replace f2 := shm_107 f2
  replace f3 := shm_176 f3
  have ad_6 : v_ad (n_v vs 6) = w_ar ws (n_v vs 0) 16 := congrArg v_ad f3
  simp only [ad_6] at f2
  have h2 : v_iv (n_v vs 7) = w_ei ws (w_ar ws (n_v vs 0) 16) (v_iv (n_v vs 5)) := f2
  have nf0 : fc_1 PRD (20, [0, 2, 4, 8], [60, 0, 2, 377, 16, 129]) ws (vs) := ⟨nf_in hl rfl, sgq_1956 (vc_Mo_tree_7_0 (v_iv (n_v vs 2)) (v_iv (n_v vs 4)) (v_iv (n_v vs 5)) (v_iv (n_v vs 7)) (v_iv (n_v vs 8)) (w_ei ws (w_ar ws (n_v vs 0) 16)) (w_ei ws (w_ar ws (n_v vs 0) 129)) k2 k4 k5 k7 k8 d0 (shm_40 f1) h2 (shm_1956 f8))⟩
  refine ⟨(fun _ h => (by cases h)), [], trivial, ?_, (fun _ h => (by cases h))⟩
  rw [List.append_nil]
  exact List.forall_mem_cons.mpr ⟨⟨show (20 : Nat) < 100 from by decide, nf0⟩, (fun _ h => (by cases h))⟩
set_option maxHeartbeats 4000000 in
theorem vc_Mo_tree_8_0 (x2 : Int) (x4 : Int) (x5 : Int) (x7 : Int) (x9 : Int) (all_0 : Int → Int) (r_0 : Int) (partOf_0 : Int → Int) (partOf_1 : Int → Int) (all_1 : Int → Int) (r_1 : Int) (root_1 : Int → Int) (root_0 : Int → Int) (k2 : 1 ≤ x2 ∧ x2 ≤ 24) (k4 : 0 ≤ x4 ∧ x4 ≤ 23) (k5 : 0 ≤ x5 ∧ x5 ≤ 23) (k7 : 0 ≤ x7 ∧ x7 ≤ 23) (k9 : (-1) ≤ x9 ∧ x9 ≤ 22) (d0 : x5 + (-1) ≤ x9 ∧ x9 ≤ x5 + (-1)) (d1 : x2 + (-4294967296) ≤ x9 ∧ x9 ≤ x2 + (-2)) (d2 : x4 + 0 ≤ x7 ∧ x7 ≤ x4 + 0) (f2 : x2 = all_0 (r_0)) (h8 : x7 = partOf_1 (x5)) (f10 : 0 ≤ x5) (f14 : RTJ (partOf_1) (root_1) (x2) (x4) (x5)) (fe_0_5_1 : r_0 = r_1) (hE_0_2_1 : ∀ j : Int, all_0 j = all_1 j) (hE_0_16_1 : ∀ j : Int, partOf_0 j = partOf_1 j) (hE_0_129_1 : ∀ j : Int, 0 ≤ j → (j = x4 → root_0 j = x5) ∧ (j ≠ x4 → root_0 j = root_1 j)) : RTJ (partOf_0) (root_0) (x2) (x4) (x9) := by
  subst fe_0_5_1
  have e_hE_0_2_1 := funext hE_0_2_1; subst e_hE_0_2_1
  have e_hE_0_16_1 := funext hE_0_16_1; subst e_hE_0_16_1
  first
    | exact rtj_skip ‹RTJ _ _ _ _ _› (by omega) (by omega)
    | exact rtj_take ‹RTJ _ _ _ _ _› (by omega) (by assumption) (by omega) (by omega) (by omega)
    | exact rtj_start ‹RTK _ _ _› (by omega) (by assumption) (by omega) (by omega) (by omega)
set_option maxHeartbeats 4000000 in
theorem vc_Mo_tree_8_1 (x4 : Int) (x5 : Int) (x7 : Int) (all_0 : Int → Int) (r_0 : Int) (partOf_0 : Int → Int) (partOf_1 : Int → Int) (all_1 : Int → Int) (r_1 : Int) (root_1 : Int → Int) (root_0 : Int → Int) (k4 : 0 ≤ x4 ∧ x4 ≤ 23) (k5 : 0 ≤ x5 ∧ x5 ≤ 23) (k7 : 0 ≤ x7 ∧ x7 ≤ 23) (d2 : x4 + 0 ≤ x7 ∧ x7 ≤ x4 + 0) (h8 : x7 = partOf_1 (x5)) (f16 : RTI (partOf_1) (root_1) (x4)) (fe_0_5_1 : r_0 = r_1) (hE_0_2_1 : ∀ j : Int, all_0 j = all_1 j) (hE_0_16_1 : ∀ j : Int, partOf_0 j = partOf_1 j) (hE_0_129_1 : ∀ j : Int, 0 ≤ j → (j = x4 → root_0 j = x5) ∧ (j ≠ x4 → root_0 j = root_1 j)) : RTI (partOf_0) (root_0) (x4) := by
  subst fe_0_5_1
  have e_hE_0_2_1 := funext hE_0_2_1; subst e_hE_0_2_1
  have e_hE_0_16_1 := funext hE_0_16_1; subst e_hE_0_16_1
  first
    | assumption
    | exact rti_of ‹RTPT _ _ _› (by assumption) (by omega) (by omega) (by omega)
    | exact rti_step ‹RTI _ _ _› (by assumption) (by omega) (by omega) (Or.inr (by omega))
  
def o_Mo_tree_8 : or_T := (61, 10, [(0, (2, 0, 0, [165])), (2, (0, 1, 24, [])), (4, (0, 0, 23, [])), (5, (0, 0, 23, [])), (7, (0, 0, 23, [])), (8, (2, 0, 0, [259])), (9, (0, -1, 22, []))], [(20, [2, 0], [50, 1, 1, 1005, 1002, 1, 2, 1, 0, 3, 1, 2, 2, 1, 5]), (100, [8, 4, 5], []), (9, [8, 0], [129]), (10, [7, 6, 5], []), (9, [6, 0], [16]), (8, [5], [3]), (20, [0, 2, 4, 5], [60, 0, 2, 377, 16, 129]), (20, [0, 4], [60, 0, 2, 811, 16, 129])], [], [], [(20, [0, 2, 4, 9], [60, 0, 2, 377, 16, 129]), (20, [0, 4], [60, 0, 2, 811, 16, 129])], [], [(9, 5, -1, -1), (9, 2, -4294967296, -2), (7, 4, 0, 0), (4, 3, -4294967296, -1), (5, 2, -4294967296, -1)])
theorem oo_Mo_tree_8 {kA : Nat → ClassId} : or_ok PRD kA GG o_Mo_tree_8 := by
  refine or_mk fun A ta ws vs hD hth hl => ?_
  intro t0 r0 t2 k2 t4 k4 t5 k5 t7 k7 t8 r8 t9 k9 d0 d1 d2 d3 d4 f2 ta1 w1 le1 s1 f6 f8 f9 f10 f14 f16
  have s1 : (∀ b j, w_el ws b j = if b = v_ad (n_v vs 8) ∧ j = (v_iv (n_v vs 4)).toNat then v_iv (n_v vs 5) else w_el w1 b j) ∧ ∀ b k, w_fd ws b k = w_fd w1 b k := s1.2
  replace f6 := shm_1955 f6
  replace f8 := shm_107 f8
  replace f9 := shm_176 f9
  replace f14 := shm_1956 f14
  replace f16 := shm_1957 f16
  have ar_0_2_1 : w_ar w1 (n_v vs 0) 2 = w_ar ws (n_v vs 0) 2 := congrArg v_ad (s1.2 _ _).symm
  have cr_0_2 := fdq_10 hD hth r0
  have ar_0_16_1 : w_ar w1 (n_v vs 0) 16 = w_ar ws (n_v vs 0) 16 := congrArg v_ad (s1.2 _ _).symm
  have cr_0_16 := fdq_153 hD hth r0
  have ar_0_129_1 : w_ar w1 (n_v vs 0) 129 = w_ar ws (n_v vs 0) 129 := congrArg v_ad (s1.2 _ _).symm
  have ad_8 : v_ad (n_v vs 8) = w_ar ws (n_v vs 0) 129 := (congrArg v_ad f6).trans ar_0_129_1
  have ad_6 : v_ad (n_v vs 6) = w_ar ws (n_v vs 0) 16 := (congrArg v_ad f9).trans ar_0_16_1
  simp only [ad_6] at f8
  have h8 : v_iv (n_v vs 7) = w_ei w1 (w_ar ws (n_v vs 0) 16) (v_iv (n_v vs 5)) := f8
  simp only [ar_0_2_1, ar_0_16_1, ar_0_129_1] at f14 f16
  have fe_0_5_1 : w_fi ws (n_v vs 0) 5 = w_fi w1 (n_v vs 0) 5 := congrArg v_iv (s1.2 _ _)
  have hE_0_2_1 : ∀ j : Int, w_ei ws (w_ar ws (n_v vs 0) 2) j = w_ei w1 (w_ar ws (n_v vs 0) 2) j := el_kp s1.1 r8 cr_0_2 (by decide)
  have hE_0_16_1 : ∀ j : Int, w_ei ws (w_ar ws (n_v vs 0) 16) j = w_ei w1 (w_ar ws (n_v vs 0) 16) j := el_kp s1.1 r8 cr_0_16 (by decide)
  have hE_0_129_1 : ∀ j : Int, 0 ≤ j → (j = v_iv (n_v vs 4) → w_ei ws (w_ar ws (n_v vs 0) 129) j = v_iv (n_v vs 5)) ∧ (j ≠ v_iv (n_v vs 4) → w_ei ws (w_ar ws (n_v vs 0) 129) j = w_ei w1 (w_ar ws (n_v vs 0) 129) j) := fun j hj => ⟨fun h => by unfold w_ei; rw [s1.1, if_pos ⟨ad_8.symm, by rw [h]⟩], fun h => by unfold w_ei; rw [s1.1, if_neg (fun e => h (by have := e.2; omega))]⟩
  have nf0 : fc_1 PRD (20, [0, 2, 4, 9], [60, 0, 2, 377, 16, 129]) ws (vs) := ⟨nf_in hl rfl, sgq_1956 (vc_Mo_tree_8_0 (v_iv (n_v vs 2)) (v_iv (n_v vs 4)) (v_iv (n_v vs 5)) (v_iv (n_v vs 7)) (v_iv (n_v vs 9)) (w_ei ws (w_ar ws (n_v vs 0) 2)) (w_fi ws (n_v vs 0) 5) (w_ei ws (w_ar ws (n_v vs 0) 16)) (w_ei w1 (w_ar ws (n_v vs 0) 16)) (w_ei w1 (w_ar ws (n_v vs 0) 2)) (w_fi w1 (n_v vs 0) 5) (w_ei w1 (w_ar ws (n_v vs 0) 129)) (w_ei ws (w_ar ws (n_v vs 0) 129)) k2 k4 k5 k7 k9 d0 d1 d2 (shm_1581 f2) h8 (shm_32 f10) f14 fe_0_5_1 hE_0_2_1 hE_0_16_1 hE_0_129_1)⟩
  have nf1 : fc_1 PRD (20, [0, 4], [60, 0, 2, 811, 16, 129]) ws (vs) := ⟨nf_in hl rfl, sgq_1957 (vc_Mo_tree_8_1 (v_iv (n_v vs 4)) (v_iv (n_v vs 5)) (v_iv (n_v vs 7)) (w_ei ws (w_ar ws (n_v vs 0) 2)) (w_fi ws (n_v vs 0) 5) (w_ei ws (w_ar ws (n_v vs 0) 16)) (w_ei w1 (w_ar ws (n_v vs 0) 16)) (w_ei w1 (w_ar ws (n_v vs 0) 2)) (w_fi w1 (n_v vs 0) 5) (w_ei w1 (w_ar ws (n_v vs 0) 129)) (w_ei ws (w_ar ws (n_v vs 0) 129)) k4 k5 k7 d2 h8 f16 fe_0_5_1 hE_0_2_1 hE_0_16_1 hE_0_129_1)⟩
  refine ⟨(fun _ h => (by cases h)), [], trivial, ?_, (fun _ h => (by cases h))⟩
  rw [List.append_nil]
  exact List.forall_mem_cons.mpr ⟨⟨show (20 : Nat) < 100 from by decide, nf0⟩, List.forall_mem_cons.mpr ⟨⟨show (20 : Nat) < 100 from by decide, nf1⟩, (fun _ h => (by cases h))⟩⟩
set_option maxHeartbeats 4000000 in
theorem vc_Mo_tree_9_0 (x2 : Int) (x4 : Int) (all_0 : Int → Int) (r_0 : Int) (above_0 : Int → Int) (level_0 : Int → Int) (k2 : 0 ≤ x2 ∧ x2 ≤ 24) (k4 : 0 ≤ x4 ∧ x4 ≤ 24) (d0 : x2 + 0 ≤ x4 ∧ x4 ≤ x2 + 4294967296) (d1 : x2 + (-4294967296) ≤ x4 ∧ x4 ≤ x2 + 0) (f2 : x2 = all_0 (r_0)) (f4 : ABI (above_0) (level_0) (x4)) : ABI (above_0) (level_0) (x2) := by
  first
    | assumption
    | (intro c a b; exact ‹ABI _ _ _› c a (by omega))
    | exact abi_root ‹ABI _ _ _› (by assumption) (by omega)
set_option maxHeartbeats 4000000 in
theorem vc_Mo_tree_9_1 (x2 : Int) (x4 : Int) (all_0 : Int → Int) (r_0 : Int) (nx_0 : Int → Int) (k2 : 0 ≤ x2 ∧ x2 ≤ 24) (k4 : 0 ≤ x4 ∧ x4 ≤ 24) (d0 : x2 + 0 ≤ x4 ∧ x4 ≤ x2 + 4294967296) (d1 : x2 + (-4294967296) ≤ x4 ∧ x4 ≤ x2 + 0) (f2 : x2 = all_0 (r_0)) (f6 : NX0 (nx_0) (x4)) : NX0 (nx_0) (x2) := by
  first
    | (intro j a b; exfalso; omega)
    | assumption
    | (intro j a b; exact ‹NX0 _ _› j a (by omega))
    | exact nx0_step ‹NX0 _ _› (by omega) (by assumption) (by omega) (by omega)
  
set_option maxHeartbeats 4000000 in
theorem vc_Mo_tree_9_2 (x2 : Int) (x4 : Int) (x5 : Int) (all_0 : Int → Int) (r_0 : Int) (root_0 : Int → Int) (above_0 : Int → Int) (level_0 : Int → Int) (partOf_0 : Int → Int) (k2 : 0 ≤ x2 ∧ x2 ≤ 24) (k4 : 0 ≤ x4 ∧ x4 ≤ 24) (k5 : 0 ≤ x5 ∧ x5 ≤ 0) (d0 : x2 + 0 ≤ x4 ∧ x4 ≤ x2 + 4294967296) (d1 : x2 + (-4294967296) ≤ x4 ∧ x4 ≤ x2 + 0) (f2 : x2 = all_0 (r_0)) (f7 : LVN (level_0) (x4)) : LVZ (partOf_0) (level_0) (root_0) (x2) (x5) := by
  first
    | exact lvz_start (ab := above_0) (m := 0) (fun c a b => ‹LVN _ _› c a (by omega)) (by omega)
    | (have hr := ‹RTK _ _ _› x4 (by omega) (by omega)
       have hp := ‹RTPT _ _ _› x4 (by omega) (by omega)
       exact lvz_step ‹LVZ _ _ _ _ _› hp hr.1 hr.2 (by omega) (by assumption) (by assumption) (by omega))
  
def o_Mo_tree_9 : or_T := (164, 6, [(2, (0, 0, 24, [])), (4, (0, 0, 24, [])), (5, (0, 0, 0, []))], [(20, [2, 0], [50, 1, 1, 1005, 1002, 1, 2, 1, 0, 3, 1, 2, 2, 1, 5]), (20, [0, 4], [60, 0, 2, 378, 127, 128]), (20, [0, 4], [60, 0, 1, 817, 74]), (20, [0, 4], [60, 0, 1, 820, 128])], [], [], [(20, [0, 2], [60, 0, 2, 378, 127, 128]), (20, [0, 2], [60, 0, 1, 817, 74]), (20, [0, 2, 5], [60, 0, 3, 812, 16, 128, 129])], [], [(4, 2, 0, 4294967296), (4, 2, -4294967296, 0)])
theorem oo_Mo_tree_9 {kA : Nat → ClassId} : or_ok PRD kA GG o_Mo_tree_9 := by
  refine or_mk fun A ta ws vs hD hth hl => ?_
  intro t2 k2 t4 k4 t5 k5 d0 d1 f2 f4 f6 f7
  have nf0 : fc_1 PRD (20, [0, 2], [60, 0, 2, 378, 127, 128]) ws (vs) := ⟨nf_in hl rfl, sgq_1952 (vc_Mo_tree_9_0 (v_iv (n_v vs 2)) (v_iv (n_v vs 4)) (w_ei ws (w_ar ws (n_v vs 0) 2)) (w_fi ws (n_v vs 0) 5) (w_ei ws (w_ar ws (n_v vs 0) 127)) (w_ei ws (w_ar ws (n_v vs 0) 128)) k2 k4 d0 d1 (shm_1581 f2) (shm_1952 f4))⟩
  have nf1 : fc_1 PRD (20, [0, 2], [60, 0, 1, 817, 74]) ws (vs) := ⟨nf_in hl rfl, sgq_1953 (vc_Mo_tree_9_1 (v_iv (n_v vs 2)) (v_iv (n_v vs 4)) (w_ei ws (w_ar ws (n_v vs 0) 2)) (w_fi ws (n_v vs 0) 5) (w_ei ws (w_ar ws (n_v vs 0) 74)) k2 k4 d0 d1 (shm_1581 f2) (shm_1953 f6))⟩
  have nf2 : fc_1 PRD (20, [0, 2, 5], [60, 0, 3, 812, 16, 128, 129]) ws (vs) := ⟨nf_in hl rfl, sgq_1958 (vc_Mo_tree_9_2 (v_iv (n_v vs 2)) (v_iv (n_v vs 4)) (v_iv (n_v vs 5)) (w_ei ws (w_ar ws (n_v vs 0) 2)) (w_fi ws (n_v vs 0) 5) (w_ei ws (w_ar ws (n_v vs 0) 129)) (w_ei ws (w_ar ws (n_v vs 0) 127)) (w_ei ws (w_ar ws (n_v vs 0) 128)) (w_ei ws (w_ar ws (n_v vs 0) 16)) k2 k4 k5 d0 d1 (shm_1581 f2) (shm_1954 f7))⟩
  refine ⟨(fun _ h => (by cases h)), [], trivial, ?_, (fun _ h => (by cases h))⟩
  rw [List.append_nil]
  exact List.forall_mem_cons.mpr ⟨⟨show (20 : Nat) < 100 from by decide, nf0⟩, List.forall_mem_cons.mpr ⟨⟨show (20 : Nat) < 100 from by decide, nf1⟩, List.forall_mem_cons.mpr ⟨⟨show (20 : Nat) < 100 from by decide, nf2⟩, (fun _ h => (by cases h))⟩⟩⟩
set_option maxHeartbeats 4000000 in
theorem vc_Mo_tree_10_0 (x4 : Int) (x6 : Int) (x8 : Int) (x11 : Int) (all_0 : Int → Int) (r_0 : Int) (root_0 : Int → Int) (partOf_0 : Int → Int) (all_1 : Int → Int) (r_1 : Int) (root_1 : Int → Int) (partOf_1 : Int → Int) (nx_1 : Int → Int) (all_2 : Int → Int) (r_2 : Int) (root_2 : Int → Int) (partOf_2 : Int → Int) (nx_2 : Int → Int) (level_2 : Int → Int) (all_3 : Int → Int) (r_3 : Int) (root_3 : Int → Int) (above_3 : Int → Int) (level_3 : Int → Int) (partOf_3 : Int → Int) (nx_3 : Int → Int) (above_0 : Int → Int) (above_1 : Int → Int) (above_2 : Int → Int) (level_0 : Int → Int) (level_1 : Int → Int) (k4 : 0 ≤ x4 ∧ x4 ≤ 23) (k6 : (-1) ≤ x6 ∧ x6 ≤ (-1)) (k8 : (-1) ≤ x8 ∧ x8 ≤ (-1)) (k11 : 1 ≤ x11 ∧ x11 ≤ 24) (f0 : x11 = x4 + 1) (f26 : ABI (above_3) (level_3) (x4)) (fe_0_5_1 : r_0 = r_1) (fe_0_5_2 : r_1 = r_2) (fe_0_5_3 : r_2 = r_3) (hE_0_2_1 : ∀ j : Int, all_0 j = all_1 j) (hE_0_2_2 : ∀ j : Int, all_1 j = all_2 j) (hE_0_2_3 : ∀ j : Int, all_2 j = all_3 j) (hE_0_16_1 : ∀ j : Int, partOf_0 j = partOf_1 j) (hE_0_16_2 : ∀ j : Int, partOf_1 j = partOf_2 j) (hE_0_16_3 : ∀ j : Int, partOf_2 j = partOf_3 j) (hE_0_74_2 : ∀ j : Int, nx_1 j = nx_2 j) (hE_0_74_3 : ∀ j : Int, nx_2 j = nx_3 j) (hE_0_127_1 : ∀ j : Int, above_0 j = above_1 j) (hE_0_127_2 : ∀ j : Int, above_1 j = above_2 j) (hE_0_127_3 : ∀ j : Int, 0 ≤ j → (j = x4 → above_2 j = x6) ∧ (j ≠ x4 → above_2 j = above_3 j)) (hE_0_128_1 : ∀ j : Int, level_0 j = level_1 j) (hE_0_128_2 : ∀ j : Int, 0 ≤ j → (j = x4 → level_1 j = x8) ∧ (j ≠ x4 → level_1 j = level_2 j)) (hE_0_128_3 : ∀ j : Int, level_2 j = level_3 j) (hE_0_129_1 : ∀ j : Int, root_0 j = root_1 j) (hE_0_129_2 : ∀ j : Int, root_1 j = root_2 j) (hE_0_129_3 : ∀ j : Int, root_2 j = root_3 j) : ABI (above_0) (level_0) (x11) := by
  subst fe_0_5_1
  subst fe_0_5_2
  subst fe_0_5_3
  have e_hE_0_2_1 := funext hE_0_2_1; subst e_hE_0_2_1
  have e_hE_0_2_2 := funext hE_0_2_2; subst e_hE_0_2_2
  have e_hE_0_2_3 := funext hE_0_2_3; subst e_hE_0_2_3
  have e_hE_0_16_1 := funext hE_0_16_1; subst e_hE_0_16_1
  have e_hE_0_16_2 := funext hE_0_16_2; subst e_hE_0_16_2
  have e_hE_0_16_3 := funext hE_0_16_3; subst e_hE_0_16_3
  have e_hE_0_74_2 := funext hE_0_74_2; subst e_hE_0_74_2
  have e_hE_0_74_3 := funext hE_0_74_3; subst e_hE_0_74_3
  have e_hE_0_127_1 := funext hE_0_127_1; subst e_hE_0_127_1
  have e_hE_0_127_2 := funext hE_0_127_2; subst e_hE_0_127_2
  have e_hE_0_128_1 := funext hE_0_128_1; subst e_hE_0_128_1
  have e_hE_0_128_3 := funext hE_0_128_3; subst e_hE_0_128_3
  have e_hE_0_129_1 := funext hE_0_129_1; subst e_hE_0_129_1
  have e_hE_0_129_2 := funext hE_0_129_2; subst e_hE_0_129_2
  have e_hE_0_129_3 := funext hE_0_129_3; subst e_hE_0_129_3
  first
    | (intro c a b; exfalso; omega)
    | exact abi_step ‹ABI _ _ _› (by omega) (by assumption) (by omega) (by omega) (by assumption) (by omega) (by omega)
set_option maxHeartbeats 4000000 in
theorem vc_Mo_tree_10_1 (x4 : Int) (x10 : Int) (x11 : Int) (all_0 : Int → Int) (r_0 : Int) (root_0 : Int → Int) (partOf_0 : Int → Int) (all_1 : Int → Int) (r_1 : Int) (root_1 : Int → Int) (partOf_1 : Int → Int) (nx_1 : Int → Int) (all_2 : Int → Int) (r_2 : Int) (root_2 : Int → Int) (partOf_2 : Int → Int) (nx_2 : Int → Int) (level_2 : Int → Int) (all_3 : Int → Int) (r_3 : Int) (root_3 : Int → Int) (level_3 : Int → Int) (partOf_3 : Int → Int) (nx_3 : Int → Int) (nx_0 : Int → Int) (above_0 : Int → Int) (above_1 : Int → Int) (above_2 : Int → Int) (level_0 : Int → Int) (level_1 : Int → Int) (k4 : 0 ≤ x4 ∧ x4 ≤ 23) (k10 : 0 ≤ x10 ∧ x10 ≤ 0) (k11 : 1 ≤ x11 ∧ x11 ≤ 24) (f0 : x11 = x4 + 1) (f28 : NX0 (nx_3) (x4)) (fe_0_5_1 : r_0 = r_1) (fe_0_5_2 : r_1 = r_2) (fe_0_5_3 : r_2 = r_3) (hE_0_2_1 : ∀ j : Int, all_0 j = all_1 j) (hE_0_2_2 : ∀ j : Int, all_1 j = all_2 j) (hE_0_2_3 : ∀ j : Int, all_2 j = all_3 j) (hE_0_16_1 : ∀ j : Int, partOf_0 j = partOf_1 j) (hE_0_16_2 : ∀ j : Int, partOf_1 j = partOf_2 j) (hE_0_16_3 : ∀ j : Int, partOf_2 j = partOf_3 j) (hE_0_74_1 : ∀ j : Int, 0 ≤ j → (j = x4 → nx_0 j = x10) ∧ (j ≠ x4 → nx_0 j = nx_1 j)) (hE_0_74_2 : ∀ j : Int, nx_1 j = nx_2 j) (hE_0_74_3 : ∀ j : Int, nx_2 j = nx_3 j) (hE_0_127_1 : ∀ j : Int, above_0 j = above_1 j) (hE_0_127_2 : ∀ j : Int, above_1 j = above_2 j) (hE_0_128_1 : ∀ j : Int, level_0 j = level_1 j) (hE_0_128_3 : ∀ j : Int, level_2 j = level_3 j) (hE_0_129_1 : ∀ j : Int, root_0 j = root_1 j) (hE_0_129_2 : ∀ j : Int, root_1 j = root_2 j) (hE_0_129_3 : ∀ j : Int, root_2 j = root_3 j) : NX0 (nx_0) (x11) := by
  subst fe_0_5_1
  subst fe_0_5_2
  subst fe_0_5_3
  have e_hE_0_2_1 := funext hE_0_2_1; subst e_hE_0_2_1
  have e_hE_0_2_2 := funext hE_0_2_2; subst e_hE_0_2_2
  have e_hE_0_2_3 := funext hE_0_2_3; subst e_hE_0_2_3
  have e_hE_0_16_1 := funext hE_0_16_1; subst e_hE_0_16_1
  have e_hE_0_16_2 := funext hE_0_16_2; subst e_hE_0_16_2
  have e_hE_0_16_3 := funext hE_0_16_3; subst e_hE_0_16_3
  have e_hE_0_74_2 := funext hE_0_74_2; subst e_hE_0_74_2
  have e_hE_0_74_3 := funext hE_0_74_3; subst e_hE_0_74_3
  have e_hE_0_127_1 := funext hE_0_127_1; subst e_hE_0_127_1
  have e_hE_0_127_2 := funext hE_0_127_2; subst e_hE_0_127_2
  have e_hE_0_128_1 := funext hE_0_128_1; subst e_hE_0_128_1
  have e_hE_0_128_3 := funext hE_0_128_3; subst e_hE_0_128_3
  have e_hE_0_129_1 := funext hE_0_129_1; subst e_hE_0_129_1
  have e_hE_0_129_2 := funext hE_0_129_2; subst e_hE_0_129_2
  have e_hE_0_129_3 := funext hE_0_129_3; subst e_hE_0_129_3
  first
    | (intro j a b; exfalso; omega)
    | assumption
    | (intro j a b; exact ‹NX0 _ _› j a (by omega))
    | exact nx0_step ‹NX0 _ _› (by omega) (by assumption) (by omega) (by omega)
  
set_option maxHeartbeats 4000000 in
theorem vc_Mo_tree_10_2 (x4 : Int) (x8 : Int) (x11 : Int) (all_0 : Int → Int) (r_0 : Int) (root_0 : Int → Int) (partOf_0 : Int → Int) (all_1 : Int → Int) (r_1 : Int) (root_1 : Int → Int) (partOf_1 : Int → Int) (nx_1 : Int → Int) (all_2 : Int → Int) (r_2 : Int) (root_2 : Int → Int) (partOf_2 : Int → Int) (nx_2 : Int → Int) (level_2 : Int → Int) (all_3 : Int → Int) (r_3 : Int) (root_3 : Int → Int) (level_3 : Int → Int) (partOf_3 : Int → Int) (nx_3 : Int → Int) (above_0 : Int → Int) (above_1 : Int → Int) (above_2 : Int → Int) (level_0 : Int → Int) (level_1 : Int → Int) (k4 : 0 ≤ x4 ∧ x4 ≤ 23) (k8 : (-1) ≤ x8 ∧ x8 ≤ (-1)) (k11 : 1 ≤ x11 ∧ x11 ≤ 24) (f0 : x11 = x4 + 1) (f29 : LVN (level_3) (x4)) (fe_0_5_1 : r_0 = r_1) (fe_0_5_2 : r_1 = r_2) (fe_0_5_3 : r_2 = r_3) (hE_0_2_1 : ∀ j : Int, all_0 j = all_1 j) (hE_0_2_2 : ∀ j : Int, all_1 j = all_2 j) (hE_0_2_3 : ∀ j : Int, all_2 j = all_3 j) (hE_0_16_1 : ∀ j : Int, partOf_0 j = partOf_1 j) (hE_0_16_2 : ∀ j : Int, partOf_1 j = partOf_2 j) (hE_0_16_3 : ∀ j : Int, partOf_2 j = partOf_3 j) (hE_0_74_2 : ∀ j : Int, nx_1 j = nx_2 j) (hE_0_74_3 : ∀ j : Int, nx_2 j = nx_3 j) (hE_0_127_1 : ∀ j : Int, above_0 j = above_1 j) (hE_0_127_2 : ∀ j : Int, above_1 j = above_2 j) (hE_0_128_1 : ∀ j : Int, level_0 j = level_1 j) (hE_0_128_2 : ∀ j : Int, 0 ≤ j → (j = x4 → level_1 j = x8) ∧ (j ≠ x4 → level_1 j = level_2 j)) (hE_0_128_3 : ∀ j : Int, level_2 j = level_3 j) (hE_0_129_1 : ∀ j : Int, root_0 j = root_1 j) (hE_0_129_2 : ∀ j : Int, root_1 j = root_2 j) (hE_0_129_3 : ∀ j : Int, root_2 j = root_3 j) : LVN (level_0) (x11) := by
  subst fe_0_5_1
  subst fe_0_5_2
  subst fe_0_5_3
  have e_hE_0_2_1 := funext hE_0_2_1; subst e_hE_0_2_1
  have e_hE_0_2_2 := funext hE_0_2_2; subst e_hE_0_2_2
  have e_hE_0_2_3 := funext hE_0_2_3; subst e_hE_0_2_3
  have e_hE_0_16_1 := funext hE_0_16_1; subst e_hE_0_16_1
  have e_hE_0_16_2 := funext hE_0_16_2; subst e_hE_0_16_2
  have e_hE_0_16_3 := funext hE_0_16_3; subst e_hE_0_16_3
  have e_hE_0_74_2 := funext hE_0_74_2; subst e_hE_0_74_2
  have e_hE_0_74_3 := funext hE_0_74_3; subst e_hE_0_74_3
  have e_hE_0_127_1 := funext hE_0_127_1; subst e_hE_0_127_1
  have e_hE_0_127_2 := funext hE_0_127_2; subst e_hE_0_127_2
  have e_hE_0_128_1 := funext hE_0_128_1; subst e_hE_0_128_1
  have e_hE_0_128_3 := funext hE_0_128_3; subst e_hE_0_128_3
  have e_hE_0_129_1 := funext hE_0_129_1; subst e_hE_0_129_1
  have e_hE_0_129_2 := funext hE_0_129_2; subst e_hE_0_129_2
  have e_hE_0_129_3 := funext hE_0_129_3; subst e_hE_0_129_3
  first
    | (intro j a b; exfalso; omega)
    | exact lvn_step ‹LVN _ _› (by omega) (by assumption) (by omega) (by omega)
  
def o_Mo_tree_10 : or_T := (125, 12, [(0, (2, 0, 0, [165])), (4, (0, 0, 23, [])), (5, (2, 0, 0, [257])), (6, (0, -1, -1, [])), (7, (2, 0, 0, [258])), (8, (0, -1, -1, [])), (9, (2, 0, 0, [214])), (10, (0, 0, 0, [])), (11, (0, 1, 24, []))], [(6, [11, 4], [1]), (100, [9, 4, 10], []), (9, [9, 0], [74]), (100, [7, 4, 8], []), (9, [7, 0], [128]), (100, [5, 4, 6], []), (9, [5, 0], [127]), (20, [0, 4], [60, 0, 2, 378, 127, 128]), (20, [0, 4], [60, 0, 1, 817, 74]), (20, [0, 4], [60, 0, 1, 820, 128])], [], [], [(20, [0, 11], [60, 0, 2, 378, 127, 128]), (20, [0, 11], [60, 0, 1, 817, 74]), (20, [0, 11], [60, 0, 1, 820, 128])], [], [(11, 4, 1, 1), (4, 2, -4294967296, -1), (4, 2, -4294967296, 0)])
theorem oo_Mo_tree_10 {kA : Nat → ClassId} : or_ok PRD kA GG o_Mo_tree_10 := by
  refine or_mk fun A ta ws vs hD hth hl => ?_
  intro t0 r0 t4 k4 t5 r5 t6 k6 t7 r7 t8 k8 t9 r9 t10 k10 t11 k11 d0 d3 d4 f0 ta1 w1 le1 s1 f6 ta2 w2 le2 s2 f13 ta3 w3 le3 s3 f21 f26 f28 f29
  have s1 : (∀ b j, w_el ws b j = if b = v_ad (n_v vs 9) ∧ j = (v_iv (n_v vs 4)).toNat then v_iv (n_v vs 10) else w_el w1 b j) ∧ ∀ b k, w_fd ws b k = w_fd w1 b k := s1.2
  replace f6 := shm_647 f6
  have s2 : (∀ b j, w_el w1 b j = if b = v_ad (n_v vs 7) ∧ j = (v_iv (n_v vs 4)).toNat then v_iv (n_v vs 8) else w_el w2 b j) ∧ ∀ b k, w_fd w1 b k = w_fd w2 b k := s2.2
  replace f13 := shm_598 f13
  have s3 : (∀ b j, w_el w2 b j = if b = v_ad (n_v vs 5) ∧ j = (v_iv (n_v vs 4)).toNat then v_iv (n_v vs 6) else w_el w3 b j) ∧ ∀ b k, w_fd w2 b k = w_fd w3 b k := s3.2
  replace f21 := shm_600 f21
  replace f26 := shm_1952 f26
  replace f28 := shm_1953 f28
  replace f29 := shm_1954 f29
  have ar_0_2_1 : w_ar w1 (n_v vs 0) 2 = w_ar ws (n_v vs 0) 2 := congrArg v_ad (s1.2 _ _).symm
  have ar_0_2_2 : w_ar w2 (n_v vs 0) 2 = w_ar ws (n_v vs 0) 2 := by rw [← ar_0_2_1]; show v_ad (w_fd w2 _ _) = v_ad (w_fd w1 _ _); rw [s2.2]
  have ar_0_2_3 : w_ar w3 (n_v vs 0) 2 = w_ar ws (n_v vs 0) 2 := by rw [← ar_0_2_2]; show v_ad (w_fd w3 _ _) = v_ad (w_fd w2 _ _); rw [s3.2]
  have cr_0_2 := fdq_10 hD hth r0
  have ar_0_16_1 : w_ar w1 (n_v vs 0) 16 = w_ar ws (n_v vs 0) 16 := congrArg v_ad (s1.2 _ _).symm
  have ar_0_16_2 : w_ar w2 (n_v vs 0) 16 = w_ar ws (n_v vs 0) 16 := by rw [← ar_0_16_1]; show v_ad (w_fd w2 _ _) = v_ad (w_fd w1 _ _); rw [s2.2]
  have ar_0_16_3 : w_ar w3 (n_v vs 0) 16 = w_ar ws (n_v vs 0) 16 := by rw [← ar_0_16_2]; show v_ad (w_fd w3 _ _) = v_ad (w_fd w2 _ _); rw [s3.2]
  have cr_0_16 := fdq_153 hD hth r0
  have ar_0_74_1 : w_ar w1 (n_v vs 0) 74 = w_ar ws (n_v vs 0) 74 := congrArg v_ad (s1.2 _ _).symm
  have ar_0_74_2 : w_ar w2 (n_v vs 0) 74 = w_ar ws (n_v vs 0) 74 := by rw [← ar_0_74_1]; show v_ad (w_fd w2 _ _) = v_ad (w_fd w1 _ _); rw [s2.2]
  have ar_0_74_3 : w_ar w3 (n_v vs 0) 74 = w_ar ws (n_v vs 0) 74 := by rw [← ar_0_74_2]; show v_ad (w_fd w3 _ _) = v_ad (w_fd w2 _ _); rw [s3.2]
  have cr_0_74 := fdq_164 hD hth r0
  have ar_0_127_1 : w_ar w1 (n_v vs 0) 127 = w_ar ws (n_v vs 0) 127 := congrArg v_ad (s1.2 _ _).symm
  have ar_0_127_2 : w_ar w2 (n_v vs 0) 127 = w_ar ws (n_v vs 0) 127 := by rw [← ar_0_127_1]; show v_ad (w_fd w2 _ _) = v_ad (w_fd w1 _ _); rw [s2.2]
  have ar_0_127_3 : w_ar w3 (n_v vs 0) 127 = w_ar ws (n_v vs 0) 127 := by rw [← ar_0_127_2]; show v_ad (w_fd w3 _ _) = v_ad (w_fd w2 _ _); rw [s3.2]
  have cr_0_127 := fdq_154 hD hth r0
  have ar_0_128_1 : w_ar w1 (n_v vs 0) 128 = w_ar ws (n_v vs 0) 128 := congrArg v_ad (s1.2 _ _).symm
  have ar_0_128_2 : w_ar w2 (n_v vs 0) 128 = w_ar ws (n_v vs 0) 128 := by rw [← ar_0_128_1]; show v_ad (w_fd w2 _ _) = v_ad (w_fd w1 _ _); rw [s2.2]
  have ar_0_128_3 : w_ar w3 (n_v vs 0) 128 = w_ar ws (n_v vs 0) 128 := by rw [← ar_0_128_2]; show v_ad (w_fd w3 _ _) = v_ad (w_fd w2 _ _); rw [s3.2]
  have cr_0_128 := fdq_155 hD hth r0
  have ar_0_129_1 : w_ar w1 (n_v vs 0) 129 = w_ar ws (n_v vs 0) 129 := congrArg v_ad (s1.2 _ _).symm
  have ar_0_129_2 : w_ar w2 (n_v vs 0) 129 = w_ar ws (n_v vs 0) 129 := by rw [← ar_0_129_1]; show v_ad (w_fd w2 _ _) = v_ad (w_fd w1 _ _); rw [s2.2]
  have ar_0_129_3 : w_ar w3 (n_v vs 0) 129 = w_ar ws (n_v vs 0) 129 := by rw [← ar_0_129_2]; show v_ad (w_fd w3 _ _) = v_ad (w_fd w2 _ _); rw [s3.2]
  have cr_0_129 := fdq_156 hD hth r0
  have ad_9 : v_ad (n_v vs 9) = w_ar ws (n_v vs 0) 74 := (congrArg v_ad f6).trans ar_0_74_1
  have ad_7 : v_ad (n_v vs 7) = w_ar ws (n_v vs 0) 128 := (congrArg v_ad f13).trans ar_0_128_2
  have ad_5 : v_ad (n_v vs 5) = w_ar ws (n_v vs 0) 127 := (congrArg v_ad f21).trans ar_0_127_3
  simp only [ar_0_2_1, ar_0_129_1, ar_0_16_1, ar_0_74_1, ar_0_2_2, ar_0_129_2, ar_0_16_2, ar_0_74_2, ar_0_128_2, ar_0_2_3, ar_0_129_3, ar_0_127_3, ar_0_128_3, ar_0_16_3, ar_0_74_3] at f26 f28 f29
  have fe_0_5_1 : w_fi ws (n_v vs 0) 5 = w_fi w1 (n_v vs 0) 5 := congrArg v_iv (s1.2 _ _)
  have fe_0_5_2 : w_fi w1 (n_v vs 0) 5 = w_fi w2 (n_v vs 0) 5 := congrArg v_iv (s2.2 _ _)
  have fe_0_5_3 : w_fi w2 (n_v vs 0) 5 = w_fi w3 (n_v vs 0) 5 := congrArg v_iv (s3.2 _ _)
  have hE_0_2_1 : ∀ j : Int, w_ei ws (w_ar ws (n_v vs 0) 2) j = w_ei w1 (w_ar ws (n_v vs 0) 2) j := el_kp s1.1 r9 cr_0_2 (by decide)
  have hE_0_2_2 : ∀ j : Int, w_ei w1 (w_ar ws (n_v vs 0) 2) j = w_ei w2 (w_ar ws (n_v vs 0) 2) j := el_kp s2.1 r7 cr_0_2 (by decide)
  have hE_0_2_3 : ∀ j : Int, w_ei w2 (w_ar ws (n_v vs 0) 2) j = w_ei w3 (w_ar ws (n_v vs 0) 2) j := el_kp s3.1 r5 cr_0_2 (by decide)
  have hE_0_16_1 : ∀ j : Int, w_ei ws (w_ar ws (n_v vs 0) 16) j = w_ei w1 (w_ar ws (n_v vs 0) 16) j := el_kp s1.1 r9 cr_0_16 (by decide)
  have hE_0_16_2 : ∀ j : Int, w_ei w1 (w_ar ws (n_v vs 0) 16) j = w_ei w2 (w_ar ws (n_v vs 0) 16) j := el_kp s2.1 r7 cr_0_16 (by decide)
  have hE_0_16_3 : ∀ j : Int, w_ei w2 (w_ar ws (n_v vs 0) 16) j = w_ei w3 (w_ar ws (n_v vs 0) 16) j := el_kp s3.1 r5 cr_0_16 (by decide)
  have hE_0_74_1 : ∀ j : Int, 0 ≤ j → (j = v_iv (n_v vs 4) → w_ei ws (w_ar ws (n_v vs 0) 74) j = v_iv (n_v vs 10)) ∧ (j ≠ v_iv (n_v vs 4) → w_ei ws (w_ar ws (n_v vs 0) 74) j = w_ei w1 (w_ar ws (n_v vs 0) 74) j) := fun j hj => ⟨fun h => by unfold w_ei; rw [s1.1, if_pos ⟨ad_9.symm, by rw [h]⟩], fun h => by unfold w_ei; rw [s1.1, if_neg (fun e => h (by have := e.2; omega))]⟩
  have hE_0_74_2 : ∀ j : Int, w_ei w1 (w_ar ws (n_v vs 0) 74) j = w_ei w2 (w_ar ws (n_v vs 0) 74) j := el_kp s2.1 r7 cr_0_74 (by decide)
  have hE_0_74_3 : ∀ j : Int, w_ei w2 (w_ar ws (n_v vs 0) 74) j = w_ei w3 (w_ar ws (n_v vs 0) 74) j := el_kp s3.1 r5 cr_0_74 (by decide)
  have hE_0_127_1 : ∀ j : Int, w_ei ws (w_ar ws (n_v vs 0) 127) j = w_ei w1 (w_ar ws (n_v vs 0) 127) j := el_kp s1.1 r9 cr_0_127 (by decide)
  have hE_0_127_2 : ∀ j : Int, w_ei w1 (w_ar ws (n_v vs 0) 127) j = w_ei w2 (w_ar ws (n_v vs 0) 127) j := el_kp s2.1 r7 cr_0_127 (by decide)
  have hE_0_127_3 : ∀ j : Int, 0 ≤ j → (j = v_iv (n_v vs 4) → w_ei w2 (w_ar ws (n_v vs 0) 127) j = v_iv (n_v vs 6)) ∧ (j ≠ v_iv (n_v vs 4) → w_ei w2 (w_ar ws (n_v vs 0) 127) j = w_ei w3 (w_ar ws (n_v vs 0) 127) j) := fun j hj => ⟨fun h => by unfold w_ei; rw [s3.1, if_pos ⟨ad_5.symm, by rw [h]⟩], fun h => by unfold w_ei; rw [s3.1, if_neg (fun e => h (by have := e.2; omega))]⟩
  have hE_0_128_1 : ∀ j : Int, w_ei ws (w_ar ws (n_v vs 0) 128) j = w_ei w1 (w_ar ws (n_v vs 0) 128) j := el_kp s1.1 r9 cr_0_128 (by decide)
  have hE_0_128_2 : ∀ j : Int, 0 ≤ j → (j = v_iv (n_v vs 4) → w_ei w1 (w_ar ws (n_v vs 0) 128) j = v_iv (n_v vs 8)) ∧ (j ≠ v_iv (n_v vs 4) → w_ei w1 (w_ar ws (n_v vs 0) 128) j = w_ei w2 (w_ar ws (n_v vs 0) 128) j) := fun j hj => ⟨fun h => by unfold w_ei; rw [s2.1, if_pos ⟨ad_7.symm, by rw [h]⟩], fun h => by unfold w_ei; rw [s2.1, if_neg (fun e => h (by have := e.2; omega))]⟩
  have hE_0_128_3 : ∀ j : Int, w_ei w2 (w_ar ws (n_v vs 0) 128) j = w_ei w3 (w_ar ws (n_v vs 0) 128) j := el_kp s3.1 r5 cr_0_128 (by decide)
  have hE_0_129_1 : ∀ j : Int, w_ei ws (w_ar ws (n_v vs 0) 129) j = w_ei w1 (w_ar ws (n_v vs 0) 129) j := el_kp s1.1 r9 cr_0_129 (by decide)
  have hE_0_129_2 : ∀ j : Int, w_ei w1 (w_ar ws (n_v vs 0) 129) j = w_ei w2 (w_ar ws (n_v vs 0) 129) j := el_kp s2.1 r7 cr_0_129 (by decide)
  have hE_0_129_3 : ∀ j : Int, w_ei w2 (w_ar ws (n_v vs 0) 129) j = w_ei w3 (w_ar ws (n_v vs 0) 129) j := el_kp s3.1 r5 cr_0_129 (by decide)
  have nf0 : fc_1 PRD (20, [0, 11], [60, 0, 2, 378, 127, 128]) ws (vs) := ⟨nf_in hl rfl, sgq_1952 (vc_Mo_tree_10_0 (v_iv (n_v vs 4)) (v_iv (n_v vs 6)) (v_iv (n_v vs 8)) (v_iv (n_v vs 11)) (w_ei ws (w_ar ws (n_v vs 0) 2)) (w_fi ws (n_v vs 0) 5) (w_ei ws (w_ar ws (n_v vs 0) 129)) (w_ei ws (w_ar ws (n_v vs 0) 16)) (w_ei w1 (w_ar ws (n_v vs 0) 2)) (w_fi w1 (n_v vs 0) 5) (w_ei w1 (w_ar ws (n_v vs 0) 129)) (w_ei w1 (w_ar ws (n_v vs 0) 16)) (w_ei w1 (w_ar ws (n_v vs 0) 74)) (w_ei w2 (w_ar ws (n_v vs 0) 2)) (w_fi w2 (n_v vs 0) 5) (w_ei w2 (w_ar ws (n_v vs 0) 129)) (w_ei w2 (w_ar ws (n_v vs 0) 16)) (w_ei w2 (w_ar ws (n_v vs 0) 74)) (w_ei w2 (w_ar ws (n_v vs 0) 128)) (w_ei w3 (w_ar ws (n_v vs 0) 2)) (w_fi w3 (n_v vs 0) 5) (w_ei w3 (w_ar ws (n_v vs 0) 129)) (w_ei w3 (w_ar ws (n_v vs 0) 127)) (w_ei w3 (w_ar ws (n_v vs 0) 128)) (w_ei w3 (w_ar ws (n_v vs 0) 16)) (w_ei w3 (w_ar ws (n_v vs 0) 74)) (w_ei ws (w_ar ws (n_v vs 0) 127)) (w_ei w1 (w_ar ws (n_v vs 0) 127)) (w_ei w2 (w_ar ws (n_v vs 0) 127)) (w_ei ws (w_ar ws (n_v vs 0) 128)) (w_ei w1 (w_ar ws (n_v vs 0) 128)) k4 k6 k8 k11 (shm_4 f0) f26 fe_0_5_1 fe_0_5_2 fe_0_5_3 hE_0_2_1 hE_0_2_2 hE_0_2_3 hE_0_16_1 hE_0_16_2 hE_0_16_3 hE_0_74_2 hE_0_74_3 hE_0_127_1 hE_0_127_2 hE_0_127_3 hE_0_128_1 hE_0_128_2 hE_0_128_3 hE_0_129_1 hE_0_129_2 hE_0_129_3)⟩
  have nf1 : fc_1 PRD (20, [0, 11], [60, 0, 1, 817, 74]) ws (vs) := ⟨nf_in hl rfl, sgq_1953 (vc_Mo_tree_10_1 (v_iv (n_v vs 4)) (v_iv (n_v vs 10)) (v_iv (n_v vs 11)) (w_ei ws (w_ar ws (n_v vs 0) 2)) (w_fi ws (n_v vs 0) 5) (w_ei ws (w_ar ws (n_v vs 0) 129)) (w_ei ws (w_ar ws (n_v vs 0) 16)) (w_ei w1 (w_ar ws (n_v vs 0) 2)) (w_fi w1 (n_v vs 0) 5) (w_ei w1 (w_ar ws (n_v vs 0) 129)) (w_ei w1 (w_ar ws (n_v vs 0) 16)) (w_ei w1 (w_ar ws (n_v vs 0) 74)) (w_ei w2 (w_ar ws (n_v vs 0) 2)) (w_fi w2 (n_v vs 0) 5) (w_ei w2 (w_ar ws (n_v vs 0) 129)) (w_ei w2 (w_ar ws (n_v vs 0) 16)) (w_ei w2 (w_ar ws (n_v vs 0) 74)) (w_ei w2 (w_ar ws (n_v vs 0) 128)) (w_ei w3 (w_ar ws (n_v vs 0) 2)) (w_fi w3 (n_v vs 0) 5) (w_ei w3 (w_ar ws (n_v vs 0) 129)) (w_ei w3 (w_ar ws (n_v vs 0) 128)) (w_ei w3 (w_ar ws (n_v vs 0) 16)) (w_ei w3 (w_ar ws (n_v vs 0) 74)) (w_ei ws (w_ar ws (n_v vs 0) 74)) (w_ei ws (w_ar ws (n_v vs 0) 127)) (w_ei w1 (w_ar ws (n_v vs 0) 127)) (w_ei w2 (w_ar ws (n_v vs 0) 127)) (w_ei ws (w_ar ws (n_v vs 0) 128)) (w_ei w1 (w_ar ws (n_v vs 0) 128)) k4 k10 k11 (shm_4 f0) f28 fe_0_5_1 fe_0_5_2 fe_0_5_3 hE_0_2_1 hE_0_2_2 hE_0_2_3 hE_0_16_1 hE_0_16_2 hE_0_16_3 hE_0_74_1 hE_0_74_2 hE_0_74_3 hE_0_127_1 hE_0_127_2 hE_0_128_1 hE_0_128_3 hE_0_129_1 hE_0_129_2 hE_0_129_3)⟩
  have nf2 : fc_1 PRD (20, [0, 11], [60, 0, 1, 820, 128]) ws (vs) := ⟨nf_in hl rfl, sgq_1954 (vc_Mo_tree_10_2 (v_iv (n_v vs 4)) (v_iv (n_v vs 8)) (v_iv (n_v vs 11)) (w_ei ws (w_ar ws (n_v vs 0) 2)) (w_fi ws (n_v vs 0) 5) (w_ei ws (w_ar ws (n_v vs 0) 129)) (w_ei ws (w_ar ws (n_v vs 0) 16)) (w_ei w1 (w_ar ws (n_v vs 0) 2)) (w_fi w1 (n_v vs 0) 5) (w_ei w1 (w_ar ws (n_v vs 0) 129)) (w_ei w1 (w_ar ws (n_v vs 0) 16)) (w_ei w1 (w_ar ws (n_v vs 0) 74)) (w_ei w2 (w_ar ws (n_v vs 0) 2)) (w_fi w2 (n_v vs 0) 5) (w_ei w2 (w_ar ws (n_v vs 0) 129)) (w_ei w2 (w_ar ws (n_v vs 0) 16)) (w_ei w2 (w_ar ws (n_v vs 0) 74)) (w_ei w2 (w_ar ws (n_v vs 0) 128)) (w_ei w3 (w_ar ws (n_v vs 0) 2)) (w_fi w3 (n_v vs 0) 5) (w_ei w3 (w_ar ws (n_v vs 0) 129)) (w_ei w3 (w_ar ws (n_v vs 0) 128)) (w_ei w3 (w_ar ws (n_v vs 0) 16)) (w_ei w3 (w_ar ws (n_v vs 0) 74)) (w_ei ws (w_ar ws (n_v vs 0) 127)) (w_ei w1 (w_ar ws (n_v vs 0) 127)) (w_ei w2 (w_ar ws (n_v vs 0) 127)) (w_ei ws (w_ar ws (n_v vs 0) 128)) (w_ei w1 (w_ar ws (n_v vs 0) 128)) k4 k8 k11 (shm_4 f0) f29 fe_0_5_1 fe_0_5_2 fe_0_5_3 hE_0_2_1 hE_0_2_2 hE_0_2_3 hE_0_16_1 hE_0_16_2 hE_0_16_3 hE_0_74_2 hE_0_74_3 hE_0_127_1 hE_0_127_2 hE_0_128_1 hE_0_128_2 hE_0_128_3 hE_0_129_1 hE_0_129_2 hE_0_129_3)⟩
  refine ⟨(fun _ h => (by cases h)), [], trivial, ?_, (fun _ h => (by cases h))⟩
  rw [List.append_nil]
  exact List.forall_mem_cons.mpr ⟨⟨show (20 : Nat) < 100 from by decide, nf0⟩, List.forall_mem_cons.mpr ⟨⟨show (20 : Nat) < 100 from by decide, nf1⟩, List.forall_mem_cons.mpr ⟨⟨show (20 : Nat) < 100 from by decide, nf2⟩, (fun _ h => (by cases h))⟩⟩⟩
set_option maxHeartbeats 4000000 in
theorem vc_Mo_tree_11_0 (x2 : Int) (all_0 : Int → Int) (r_0 : Int) (above_0 : Int → Int) (level_0 : Int → Int) (k2 : 0 ≤ x2 ∧ x2 ≤ 24) (f2 : x2 = all_0 (r_0)) (f4 : ABI (above_0) (level_0) (x2)) : ∀ j0 : Int, 0 ≤ j0 → j0 < 24 → (((j0 + 1) ≤ all_0 (r_0)) → (((-1) ≤ level_0 (j0)) ∧ ((level_0 (j0) ≤ 24) ∧ ((0 ≤ above_0 (j0)) → (((above_0 (j0) + 1) ≤ all_0 (r_0)) ∧ ((0 ≤ level_0 (above_0 (j0))) ∧ ((level_0 (above_0 (j0)) + 1) ≤ level_0 (j0)))))))) := by
  first
    | omega
    | assumption
    | (intro j a b c
       have h := ‹ABI _ _ _› j a (by omega)
       refine ⟨by omega, by omega, fun z => ?_⟩
       exfalso; omega)
set_option maxHeartbeats 4000000 in
theorem vc_Mo_tree_11_1 (x2 : Int) (x3 : Int) (x4 : Int) (all_0 : Int → Int) (r_0 : Int) (root_0 : Int → Int) (above_0 : Int → Int) (level_0 : Int → Int) (partOf_0 : Int → Int) (k2 : 0 ≤ x2 ∧ x2 ≤ 24) (k3 : 0 ≤ x3 ∧ x3 ≤ 24) (k4 : 0 ≤ x4 ∧ x4 ≤ 24) (d0 : x3 + 0 ≤ x4 ∧ x4 ≤ x3 + 4294967296) (d1 : x3 + (-4294967296) ≤ x4 ∧ x4 ≤ x3 + 0) (f0 : x3 ≤ x4) (f2 : x2 = all_0 (r_0)) (f3 : RTK (root_0) (x2) (x3)) (f4 : ABI (above_0) (level_0) (x2)) (f5 : RTPT (partOf_0) (root_0) (x3)) (f7 : LVZ (partOf_0) (level_0) (root_0) (x2) (x4)) : BFS (r_0) (all_0) (above_0) (level_0) (partOf_0) (root_0) (x3) := by
  try simp only [Int.add_zero] at *
  first
    | assumption
    | (rw [show x3 = x14 by omega]; assumption)
    | (rw [show x3 = x15 by omega]; assumption)
    | (rw [show x3 = x13 by omega]; assumption)
    | (rw [show gx = x3 by omega]; assumption)
    | (rw [show x3 = x4 by omega]; exact bfs_start (n := x2) ‹LVZ _ _ _ _ _› (fun q a b => ‹RTPT _ _ _› q a (by omega)) (fun q a b => ‹RTK _ _ _› q a (by omega)) ‹ABI _ _ _› (by omega) (by omega) (by omega))
  
def o_Mo_tree_11 : or_T := (195, 7, [(2, (0, 0, 24, [])), (3, (0, 0, 24, [])), (4, (0, 0, 24, []))], [(7, [4, 3], [3]), (20, [2, 0], [50, 1, 1, 1005, 1002, 1, 2, 1, 0, 3, 1, 2, 2, 1, 5]), (20, [0, 2, 3], [60, 0, 1, 376, 129]), (20, [0, 2], [60, 0, 2, 378, 127, 128]), (20, [0, 3], [60, 0, 2, 810, 16, 129]), (20, [0, 2, 4], [60, 0, 3, 812, 16, 128, 129])], [], [], [(20, [0], [50, 1, 3, 5, 2, 128, 127, 5, 2, 0, 24, 4, 14, 0, 6, 4, 2, 7, 0, 0, 1, 3, 0, 2, 2, 0, 5, 2, 9, 0, 2, 0, -1, 3, 0, 128, 7, 0, 2, 9, 0, 5, 3, 0, 128, 7, 0, 0, 24, 4, 9, 0, 2, 0, 0, 3, 0, 127, 7, 0, 2, 17, 0, 9, 4, 5, 3, 0, 127, 7, 0, 0, 1, 3, 0, 2, 2, 0, 5, 2, 12, 0, 2, 0, 0, 3, 0, 128, 3, 0, 127, 7, 0, 0, 12, 4, 8, 3, 0, 128, 3, 0, 127, 7, 0, 0, 1, 3, 0, 128, 7, 0]), (20, [0, 3], [60, 1, 5, 813, 5, 2, 127, 128, 16, 129])], [], [(4, 3, 0, 4294967296), (4, 3, -4294967296, 0)])
theorem oo_Mo_tree_11 {kA : Nat → ClassId} : or_ok PRD kA GG o_Mo_tree_11 := by
  refine or_mk fun A ta ws vs hD hth hl => ?_
  intro t2 k2 t3 k3 t4 k4 d0 d1 f0 f2 f3 f4 f5 f7
  have nf0 : fc_1 PRD (20, [0], [50, 1, 3, 5, 2, 128, 127, 5, 2, 0, 24, 4, 14, 0, 6, 4, 2, 7, 0, 0, 1, 3, 0, 2, 2, 0, 5, 2, 9, 0, 2, 0, -1, 3, 0, 128, 7, 0, 2, 9, 0, 5, 3, 0, 128, 7, 0, 0, 24, 4, 9, 0, 2, 0, 0, 3, 0, 127, 7, 0, 2, 17, 0, 9, 4, 5, 3, 0, 127, 7, 0, 0, 1, 3, 0, 2, 2, 0, 5, 2, 12, 0, 2, 0, 0, 3, 0, 128, 3, 0, 127, 7, 0, 0, 12, 4, 8, 3, 0, 128, 3, 0, 127, 7, 0, 0, 1, 3, 0, 128, 7, 0]) ws (vs) := ⟨nf_in hl rfl, sgq_601 (vc_Mo_tree_11_0 (v_iv (n_v vs 2)) (w_ei ws (w_ar ws (n_v vs 0) 2)) (w_fi ws (n_v vs 0) 5) (w_ei ws (w_ar ws (n_v vs 0) 127)) (w_ei ws (w_ar ws (n_v vs 0) 128)) k2 (shm_1581 f2) (shm_1952 f4))⟩
  have nf1 : fc_1 PRD (20, [0, 3], [60, 1, 5, 813, 5, 2, 127, 128, 16, 129]) ws (vs) := ⟨nf_in hl rfl, sgq_602 (vc_Mo_tree_11_1 (v_iv (n_v vs 2)) (v_iv (n_v vs 3)) (v_iv (n_v vs 4)) (w_ei ws (w_ar ws (n_v vs 0) 2)) (w_fi ws (n_v vs 0) 5) (w_ei ws (w_ar ws (n_v vs 0) 129)) (w_ei ws (w_ar ws (n_v vs 0) 127)) (w_ei ws (w_ar ws (n_v vs 0) 128)) (w_ei ws (w_ar ws (n_v vs 0) 16)) k2 k3 k4 d0 d1 (shm_2 f0) (shm_1581 f2) (shm_1950 f3) (shm_1952 f4) (shm_1951 f5) (shm_1958 f7))⟩
  refine ⟨(fun _ h => (by cases h)), [], trivial, ?_, (fun _ h => (by cases h))⟩
  rw [List.append_nil]
  exact List.forall_mem_cons.mpr ⟨⟨show (20 : Nat) < 100 from by decide, nf0⟩, List.forall_mem_cons.mpr ⟨⟨show (20 : Nat) < 100 from by decide, nf1⟩, (fun _ h => (by cases h))⟩⟩
set_option maxHeartbeats 4000000 in
theorem vc_Mo_tree_12_r0 (x2 : Int) (x3 : Int) (x4 : Int) (x7 : Int) (root_0 : Int → Int) (k2 : 0 ≤ x2 ∧ x2 ≤ 24) (k3 : 1 ≤ x3 ∧ x3 ≤ 24) (k4 : 0 ≤ x4 ∧ x4 ≤ 23) (k7 : (-1) ≤ x7 ∧ x7 ≤ 23) (h0 : x7 = root_0 (x4)) (f3 : x4 < x3) (f6 : RTK (root_0) (x2) (x3)) : 0 ≤ x7 ∧ x7 ≤ 23 := by
  have h := ‹RTK _ _ _› x4 (by omega) (by omega)
  omega
def o_Mo_tree_12 : or_T := (181, 8, [(0, (2, 0, 0, [165])), (2, (0, 0, 24, [])), (3, (0, 1, 24, [])), (4, (0, 0, 23, [])), (5, (2, 0, 0, [258])), (6, (2, 0, 0, [259])), (7, (0, -1, 23, []))], [(10, [7, 6, 4], []), (9, [6, 0], [129]), (9, [5, 0], [128]), (7, [4, 3], [2]), (20, [0], [60, 1, 1, 197, 5, 2]), (20, [2, 0], [50, 1, 1, 1005, 1002, 1, 2, 1, 0, 3, 1, 2, 2, 1, 5]), (20, [0, 2, 3], [60, 0, 1, 376, 129]), (20, [0, 2], [60, 0, 2, 378, 127, 128]), (20, [0, 3], [60, 0, 2, 810, 16, 129]), (20, [0, 2], [60, 0, 1, 817, 74]), (20, [0, 2, 4], [60, 0, 3, 812, 16, 128, 129])], [(7, (0, 0, 23, []))], [], [], [], [(4, 3, -4294967296, -1), (4, 3, -4294967296, 0)])
theorem oo_Mo_tree_12 {kA : Nat → ClassId} : or_ok PRD kA GG o_Mo_tree_12 := by
  refine or_mk fun A ta ws vs hD hth hl => ?_
  intro t0 r0 t2 k2 t3 k3 t4 k4 t5 r5 t6 r6 t7 k7 d0 d1 f0 f1 f2 f3 f4 f5 f6 f7 f8 f9 f10
  replace f0 := shm_107 f0
  replace f1 := shm_1955 f1
  have ad_6 : v_ad (n_v vs 6) = w_ar ws (n_v vs 0) 129 := congrArg v_ad f1
  simp only [ad_6] at f0
  have h0 : v_iv (n_v vs 7) = w_ei ws (w_ar ws (n_v vs 0) 129) (v_iv (n_v vs 4)) := f0
  have hrf0 : 0 ≤ v_iv (n_v vs 7) ∧ v_iv (n_v vs 7) ≤ 23 := vc_Mo_tree_12_r0 (v_iv (n_v vs 2)) (v_iv (n_v vs 3)) (v_iv (n_v vs 4)) (v_iv (n_v vs 7)) (w_ei ws (w_ar ws (n_v vs 0) 129)) k2 k3 k4 k7 h0 (shm_6 f3) (shm_1950 f6)
  have rf7 : tv_ok ta (0, 0, 23, []) (n_v vs 7) := tv_in t7 (by first | omega | grind) (by first | omega | grind)
  refine ⟨List.forall_mem_cons.mpr ⟨rf7, (fun _ h => (by cases h))⟩, [], trivial, ?_, (fun _ h => (by cases h))⟩
  rw [List.append_nil]
  exact (fun _ h => (by cases h))
set_option maxHeartbeats 4000000 in
theorem vc_Mo_tree_13_0 (x2 : Int) (x7 : Int) (x8 : Int) (all_0 : Int → Int) (r_0 : Int) (root_0 : Int → Int) (partOf_0 : Int → Int) (nx_0 : Int → Int) (root_1 : Int → Int) (all_1 : Int → Int) (r_1 : Int) (above_1 : Int → Int) (level_1 : Int → Int) (partOf_1 : Int → Int) (nx_1 : Int → Int) (above_0 : Int → Int) (level_0 : Int → Int) (k2 : 0 ≤ x2 ∧ x2 ≤ 24) (k7 : 0 ≤ x7 ∧ x7 ≤ 23) (k8 : 0 ≤ x8 ∧ x8 ≤ 0) (f14 : ABI (above_1) (level_1) (x2)) (fe_0_5_1 : r_0 = r_1) (hE_0_2_1 : ∀ j : Int, all_0 j = all_1 j) (hE_0_16_1 : ∀ j : Int, partOf_0 j = partOf_1 j) (hE_0_74_1 : ∀ j : Int, nx_0 j = nx_1 j) (hE_0_127_1 : ∀ j : Int, above_0 j = above_1 j) (hE_0_128_1 : ∀ j : Int, 0 ≤ j → (j = x7 → level_0 j = x8) ∧ (j ≠ x7 → level_0 j = level_1 j)) (hE_0_129_1 : ∀ j : Int, root_0 j = root_1 j) : ABI (above_0) (level_0) (x2) := by
  subst fe_0_5_1
  have e_hE_0_2_1 := funext hE_0_2_1; subst e_hE_0_2_1
  have e_hE_0_16_1 := funext hE_0_16_1; subst e_hE_0_16_1
  have e_hE_0_74_1 := funext hE_0_74_1; subst e_hE_0_74_1
  have e_hE_0_127_1 := funext hE_0_127_1; subst e_hE_0_127_1
  have e_hE_0_129_1 := funext hE_0_129_1; subst e_hE_0_129_1
  first
    | assumption
    | (intro c a b; exact ‹ABI _ _ _› c a (by omega))
    | exact abi_root ‹ABI _ _ _› (by assumption) (by omega)
set_option maxHeartbeats 4000000 in
theorem vc_Mo_tree_13_1 (x2 : Int) (x3 : Int) (x4 : Int) (x7 : Int) (x8 : Int) (x9 : Int) (all_0 : Int → Int) (r_0 : Int) (root_0 : Int → Int) (partOf_0 : Int → Int) (nx_0 : Int → Int) (root_1 : Int → Int) (all_1 : Int → Int) (r_1 : Int) (above_1 : Int → Int) (level_1 : Int → Int) (partOf_1 : Int → Int) (nx_1 : Int → Int) (above_0 : Int → Int) (level_0 : Int → Int) (k2 : 0 ≤ x2 ∧ x2 ≤ 24) (k3 : 1 ≤ x3 ∧ x3 ≤ 24) (k4 : 0 ≤ x4 ∧ x4 ≤ 23) (k7 : 0 ≤ x7 ∧ x7 ≤ 23) (k8 : 0 ≤ x8 ∧ x8 ≤ 0) (k9 : 1 ≤ x9 ∧ x9 ≤ 24) (d0 : x4 + 1 ≤ x9 ∧ x9 ≤ x4 + 1) (f0 : x9 = x4 + 1) (h7 : x7 = root_1 (x4)) (f10 : x4 < x3) (f13 : RTK (root_1) (x2) (x3)) (f15 : RTPT (partOf_1) (root_1) (x3)) (f17 : LVZ (partOf_1) (level_1) (root_1) (x2) (x4)) (fe_0_5_1 : r_0 = r_1) (hE_0_2_1 : ∀ j : Int, all_0 j = all_1 j) (hE_0_16_1 : ∀ j : Int, partOf_0 j = partOf_1 j) (hE_0_74_1 : ∀ j : Int, nx_0 j = nx_1 j) (hE_0_127_1 : ∀ j : Int, above_0 j = above_1 j) (hE_0_128_1 : ∀ j : Int, 0 ≤ j → (j = x7 → level_0 j = x8) ∧ (j ≠ x7 → level_0 j = level_1 j)) (hE_0_129_1 : ∀ j : Int, root_0 j = root_1 j) : LVZ (partOf_0) (level_0) (root_0) (x2) (x9) := by
  subst fe_0_5_1
  have e_hE_0_2_1 := funext hE_0_2_1; subst e_hE_0_2_1
  have e_hE_0_16_1 := funext hE_0_16_1; subst e_hE_0_16_1
  have e_hE_0_74_1 := funext hE_0_74_1; subst e_hE_0_74_1
  have e_hE_0_127_1 := funext hE_0_127_1; subst e_hE_0_127_1
  have e_hE_0_129_1 := funext hE_0_129_1; subst e_hE_0_129_1
  first
    | exact lvz_start (ab := above_0) (m := 0) (fun c a b => ‹LVN _ _› c a (by omega)) (by omega)
    | (have hr := ‹RTK _ _ _› x4 (by omega) (by omega)
       have hp := ‹RTPT _ _ _› x4 (by omega) (by omega)
       exact lvz_step ‹LVZ _ _ _ _ _› hp hr.1 hr.2 (by omega) (by assumption) (by assumption) (by omega))
  
def o_Mo_tree_13 : or_T := (164, 10, [(0, (2, 0, 0, [165])), (2, (0, 0, 24, [])), (3, (0, 1, 24, [])), (4, (0, 0, 23, [])), (5, (2, 0, 0, [258])), (7, (0, 0, 23, [])), (8, (0, 0, 0, [])), (9, (0, 1, 24, []))], [(6, [9, 4], [1]), (100, [5, 7, 8], []), (10, [7, 6, 4], []), (9, [6, 0], [129]), (9, [5, 0], [128]), (7, [4, 3], [2]), (20, [0, 2, 3], [60, 0, 1, 376, 129]), (20, [0, 2], [60, 0, 2, 378, 127, 128]), (20, [0, 3], [60, 0, 2, 810, 16, 129]), (20, [0, 2, 4], [60, 0, 3, 812, 16, 128, 129])], [], [], [(20, [0, 2], [60, 0, 2, 378, 127, 128]), (20, [0, 2, 9], [60, 0, 3, 812, 16, 128, 129])], [], [(9, 4, 1, 1)])
theorem oo_Mo_tree_13 {kA : Nat → ClassId} : or_ok PRD kA GG o_Mo_tree_13 := by
  refine or_mk fun A ta ws vs hD hth hl => ?_
  intro t0 r0 t2 k2 t3 k3 t4 k4 t5 r5 t7 k7 t8 k8 t9 k9 d0 f0 ta1 w1 le1 s1 f7 f8 f9 f10 f13 f14 f15 f17
  have s1 : (∀ b j, w_el ws b j = if b = v_ad (n_v vs 5) ∧ j = (v_iv (n_v vs 7)).toNat then v_iv (n_v vs 8) else w_el w1 b j) ∧ ∀ b k, w_fd ws b k = w_fd w1 b k := s1.2
  replace f7 := shm_107 f7
  replace f8 := shm_1955 f8
  replace f9 := shm_598 f9
  replace f13 := shm_1950 f13
  replace f14 := shm_1952 f14
  replace f15 := shm_1951 f15
  replace f17 := shm_1958 f17
  have ar_0_2_1 : w_ar w1 (n_v vs 0) 2 = w_ar ws (n_v vs 0) 2 := congrArg v_ad (s1.2 _ _).symm
  have cr_0_2 := fdq_10 hD hth r0
  have ar_0_16_1 : w_ar w1 (n_v vs 0) 16 = w_ar ws (n_v vs 0) 16 := congrArg v_ad (s1.2 _ _).symm
  have cr_0_16 := fdq_153 hD hth r0
  have ar_0_74_1 : w_ar w1 (n_v vs 0) 74 = w_ar ws (n_v vs 0) 74 := congrArg v_ad (s1.2 _ _).symm
  have cr_0_74 := fdq_164 hD hth r0
  have ar_0_127_1 : w_ar w1 (n_v vs 0) 127 = w_ar ws (n_v vs 0) 127 := congrArg v_ad (s1.2 _ _).symm
  have cr_0_127 := fdq_154 hD hth r0
  have ar_0_128_1 : w_ar w1 (n_v vs 0) 128 = w_ar ws (n_v vs 0) 128 := congrArg v_ad (s1.2 _ _).symm
  have ar_0_129_1 : w_ar w1 (n_v vs 0) 129 = w_ar ws (n_v vs 0) 129 := congrArg v_ad (s1.2 _ _).symm
  have cr_0_129 := fdq_156 hD hth r0
  have ad_6 : v_ad (n_v vs 6) = w_ar ws (n_v vs 0) 129 := (congrArg v_ad f8).trans ar_0_129_1
  have ad_5 : v_ad (n_v vs 5) = w_ar ws (n_v vs 0) 128 := (congrArg v_ad f9).trans ar_0_128_1
  simp only [ad_6] at f7
  have h7 : v_iv (n_v vs 7) = w_ei w1 (w_ar ws (n_v vs 0) 129) (v_iv (n_v vs 4)) := f7
  simp only [ar_0_2_1, ar_0_129_1, ar_0_127_1, ar_0_128_1, ar_0_16_1, ar_0_74_1] at f13 f14 f15 f17
  have fe_0_5_1 : w_fi ws (n_v vs 0) 5 = w_fi w1 (n_v vs 0) 5 := congrArg v_iv (s1.2 _ _)
  have hE_0_2_1 : ∀ j : Int, w_ei ws (w_ar ws (n_v vs 0) 2) j = w_ei w1 (w_ar ws (n_v vs 0) 2) j := el_kp s1.1 r5 cr_0_2 (by decide)
  have hE_0_16_1 : ∀ j : Int, w_ei ws (w_ar ws (n_v vs 0) 16) j = w_ei w1 (w_ar ws (n_v vs 0) 16) j := el_kp s1.1 r5 cr_0_16 (by decide)
  have hE_0_74_1 : ∀ j : Int, w_ei ws (w_ar ws (n_v vs 0) 74) j = w_ei w1 (w_ar ws (n_v vs 0) 74) j := el_kp s1.1 r5 cr_0_74 (by decide)
  have hE_0_127_1 : ∀ j : Int, w_ei ws (w_ar ws (n_v vs 0) 127) j = w_ei w1 (w_ar ws (n_v vs 0) 127) j := el_kp s1.1 r5 cr_0_127 (by decide)
  have hE_0_128_1 : ∀ j : Int, 0 ≤ j → (j = v_iv (n_v vs 7) → w_ei ws (w_ar ws (n_v vs 0) 128) j = v_iv (n_v vs 8)) ∧ (j ≠ v_iv (n_v vs 7) → w_ei ws (w_ar ws (n_v vs 0) 128) j = w_ei w1 (w_ar ws (n_v vs 0) 128) j) := fun j hj => ⟨fun h => by unfold w_ei; rw [s1.1, if_pos ⟨ad_5.symm, by rw [h]⟩], fun h => by unfold w_ei; rw [s1.1, if_neg (fun e => h (by have := e.2; omega))]⟩
  have hE_0_129_1 : ∀ j : Int, w_ei ws (w_ar ws (n_v vs 0) 129) j = w_ei w1 (w_ar ws (n_v vs 0) 129) j := el_kp s1.1 r5 cr_0_129 (by decide)
  have nf0 : fc_1 PRD (20, [0, 2], [60, 0, 2, 378, 127, 128]) ws (vs) := ⟨nf_in hl rfl, sgq_1952 (vc_Mo_tree_13_0 (v_iv (n_v vs 2)) (v_iv (n_v vs 7)) (v_iv (n_v vs 8)) (w_ei ws (w_ar ws (n_v vs 0) 2)) (w_fi ws (n_v vs 0) 5) (w_ei ws (w_ar ws (n_v vs 0) 129)) (w_ei ws (w_ar ws (n_v vs 0) 16)) (w_ei ws (w_ar ws (n_v vs 0) 74)) (w_ei w1 (w_ar ws (n_v vs 0) 129)) (w_ei w1 (w_ar ws (n_v vs 0) 2)) (w_fi w1 (n_v vs 0) 5) (w_ei w1 (w_ar ws (n_v vs 0) 127)) (w_ei w1 (w_ar ws (n_v vs 0) 128)) (w_ei w1 (w_ar ws (n_v vs 0) 16)) (w_ei w1 (w_ar ws (n_v vs 0) 74)) (w_ei ws (w_ar ws (n_v vs 0) 127)) (w_ei ws (w_ar ws (n_v vs 0) 128)) k2 k7 k8 f14 fe_0_5_1 hE_0_2_1 hE_0_16_1 hE_0_74_1 hE_0_127_1 hE_0_128_1 hE_0_129_1)⟩
  have nf1 : fc_1 PRD (20, [0, 2, 9], [60, 0, 3, 812, 16, 128, 129]) ws (vs) := ⟨nf_in hl rfl, sgq_1958 (vc_Mo_tree_13_1 (v_iv (n_v vs 2)) (v_iv (n_v vs 3)) (v_iv (n_v vs 4)) (v_iv (n_v vs 7)) (v_iv (n_v vs 8)) (v_iv (n_v vs 9)) (w_ei ws (w_ar ws (n_v vs 0) 2)) (w_fi ws (n_v vs 0) 5) (w_ei ws (w_ar ws (n_v vs 0) 129)) (w_ei ws (w_ar ws (n_v vs 0) 16)) (w_ei ws (w_ar ws (n_v vs 0) 74)) (w_ei w1 (w_ar ws (n_v vs 0) 129)) (w_ei w1 (w_ar ws (n_v vs 0) 2)) (w_fi w1 (n_v vs 0) 5) (w_ei w1 (w_ar ws (n_v vs 0) 127)) (w_ei w1 (w_ar ws (n_v vs 0) 128)) (w_ei w1 (w_ar ws (n_v vs 0) 16)) (w_ei w1 (w_ar ws (n_v vs 0) 74)) (w_ei ws (w_ar ws (n_v vs 0) 127)) (w_ei ws (w_ar ws (n_v vs 0) 128)) k2 k3 k4 k7 k8 k9 d0 (shm_4 f0) h7 (shm_6 f10) f13 f15 f17 fe_0_5_1 hE_0_2_1 hE_0_16_1 hE_0_74_1 hE_0_127_1 hE_0_128_1 hE_0_129_1)⟩
  refine ⟨(fun _ h => (by cases h)), [], trivial, ?_, (fun _ h => (by cases h))⟩
  rw [List.append_nil]
  exact List.forall_mem_cons.mpr ⟨⟨show (20 : Nat) < 100 from by decide, nf0⟩, List.forall_mem_cons.mpr ⟨⟨show (20 : Nat) < 100 from by decide, nf1⟩, (fun _ h => (by cases h))⟩⟩
set_option maxHeartbeats 4000000 in
theorem vc_Mo_tree_14_0 (x2 : Int) (x5 : Int) (all_0 : Int → Int) (r_0 : Int) (k2 : 1 ≤ x2 ∧ x2 ≤ 24) (k5 : 0 ≤ x5 ∧ x5 ≤ 23) (d0 : x2 + (-4294967296) ≤ x5 ∧ x5 ≤ x2 + (-1)) (f2 : x2 = all_0 (r_0)) : (x5 + 1) ≤ x2 := by
  first
    | omega
    | assumption
    | (simp only [Int.add_zero] at *; omega)
  
def o_Mo_tree_14 : or_T := (204, 7, [(2, (0, 1, 24, [])), (5, (0, 0, 23, []))], [(20, [2, 0], [50, 1, 1, 1005, 1002, 1, 2, 1, 0, 3, 1, 2, 2, 1, 5])], [], [], [(20, [5, 2], [50, 0, 0, 0, 6, 4, 2, 1, 0, 0, 1, 1, 1])], [], [(5, 2, -4294967296, -1)])
theorem oo_Mo_tree_14 {kA : Nat → ClassId} : or_ok PRD kA GG o_Mo_tree_14 := by
  refine or_mk fun A ta ws vs hD hth hl => ?_
  intro t2 k2 t5 k5 d0 f2
  have nf0 : fc_1 PRD (20, [5, 2], [50, 0, 0, 0, 6, 4, 2, 1, 0, 0, 1, 1, 1]) ws (vs) := ⟨nf_in hl rfl, sgq_396 (vc_Mo_tree_14_0 (v_iv (n_v vs 2)) (v_iv (n_v vs 5)) (w_ei ws (w_ar ws (n_v vs 0) 2)) (w_fi ws (n_v vs 0) 5) k2 k5 d0 (shm_1581 f2))⟩
  refine ⟨(fun _ h => (by cases h)), [], trivial, ?_, (fun _ h => (by cases h))⟩
  rw [List.append_nil]
  exact List.forall_mem_cons.mpr ⟨⟨show (20 : Nat) < 100 from by decide, nf0⟩, (fun _ h => (by cases h))⟩
set_option maxHeartbeats 4000000 in
theorem vc_Mo_tree_15_0 (x3 : Int) (x6 : Int) (gx : Int) (k3 : 0 ≤ x3 ∧ x3 ≤ 24) (ex2 : gx = x3) : 1 * gx + ((-1) * x3 + 0) ≤ 0 := by
  try simp only [Int.add_zero] at *
  first
    | omega
    | assumption
    | (have hs := ‹SGR _ _›
       have h := hs.2.1 x6 (by omega) (by omega)
       simp only at h
       omega)
set_option maxHeartbeats 4000000 in
theorem vc_Mo_tree_15_1 (x3 : Int) (x6 : Int) (gx : Int) (k3 : 0 ≤ x3 ∧ x3 ≤ 24) (ex2 : gx = x3) : (-1) * gx + (1 * x3 + 0) ≤ 0 := by
  try simp only [Int.add_zero] at *
  first
    | omega
    | assumption
    | (have hs := ‹SGR _ _›
       have h := hs.2.1 x6 (by omega) (by omega)
       simp only at h
       omega)
set_option maxHeartbeats 4000000 in
theorem vc_Mo_tree_15_2 (x6 : Int) (level_0 : Int → Int) (all_0 : Int → Int) (r_0 : Int) (above_0 : Int → Int) (f15 : ∀ j0 : Int, 0 ≤ j0 → j0 < 24 → (((j0 + 1) ≤ all_0 (r_0)) → (((-1) ≤ level_0 (j0)) ∧ ((level_0 (j0) ≤ 24) ∧ ((0 ≤ above_0 (j0)) → (((above_0 (j0) + 1) ≤ all_0 (r_0)) ∧ ((0 ≤ level_0 (above_0 (j0))) ∧ ((level_0 (above_0 (j0)) + 1) ≤ level_0 (j0))))))))) : ∀ j0 : Int, 0 ≤ j0 → j0 < 24 → (((j0 + 1) ≤ all_0 (r_0)) → (((-1) ≤ level_0 (j0)) ∧ ((level_0 (j0) ≤ 24) ∧ ((0 ≤ above_0 (j0)) → (((above_0 (j0) + 1) ≤ all_0 (r_0)) ∧ ((0 ≤ level_0 (above_0 (j0))) ∧ ((level_0 (above_0 (j0)) + 1) ≤ level_0 (j0)))))))) := by
  try simp only [Int.add_zero] at *
  first
    | omega
    | assumption
    | (have hs := ‹SGR _ _›
       have h := hs.2.1 x6 (by omega) (by omega)
       simp only at h
       omega)
set_option maxHeartbeats 4000000 in
theorem vc_Mo_tree_15_3 (x6 : Int) (x7 : Int) (x8 : Int) (all_0 : Int → Int) (r_0 : Int) (k6 : 0 ≤ x6 ∧ x6 ≤ 47) (k7 : 1 ≤ x7 ∧ x7 ≤ 48) (k8 : 0 ≤ x8 ∧ x8 ≤ 23) (d1 : x7 + (-4294967296) ≤ x6 ∧ x6 ≤ x7 + (-1)) (f8 : x8 = all_0 (((r_0 + 267) + x6))) (f10 : 1 * x7 + ((-1) * all_0 (r_0 + 1) + 0) ≤ 0) (f11 : (-1) * x7 + (1 * all_0 (r_0 + 1) + 0) ≤ 0) (f12 : SGR (r_0) (all_0)) : 1 * x8 + ((-1) * all_0 (r_0 + 0) + 0) ≤ (-1) := by
  try simp only [Int.add_zero] at *
  first
    | omega
    | assumption
    | (have hs := ‹SGR _ _›
       have h := hs.2.1 x6 (by omega) (by omega)
       simp only at h
       omega)
set_option maxHeartbeats 4000000 in
theorem vc_Mo_tree_15_4 (x6 : Int) (x7 : Int) (x9 : Int) (all_0 : Int → Int) (r_0 : Int) (k6 : 0 ≤ x6 ∧ x6 ≤ 47) (k7 : 1 ≤ x7 ∧ x7 ≤ 48) (k9 : 0 ≤ x9 ∧ x9 ≤ 23) (d1 : x7 + (-4294967296) ≤ x6 ∧ x6 ≤ x7 + (-1)) (f7 : x9 = all_0 (((r_0 + 315) + x6))) (f10 : 1 * x7 + ((-1) * all_0 (r_0 + 1) + 0) ≤ 0) (f11 : (-1) * x7 + (1 * all_0 (r_0 + 1) + 0) ≤ 0) (f12 : SGR (r_0) (all_0)) : 1 * x9 + ((-1) * all_0 (r_0 + 0) + 0) ≤ (-1) := by
  try simp only [Int.add_zero] at *
  first
    | omega
    | assumption
    | (have hs := ‹SGR _ _›
       have h := hs.2.1 x6 (by omega) (by omega)
       simp only at h
       omega)
set_option maxHeartbeats 4000000 in
theorem vc_Mo_tree_15_5 (x5 : Int) (x6 : Int) (x8 : Int) (x9 : Int) (x12 : Int) (x13 : Int) (level_0 : Int → Int) (k5 : 0 ≤ x5 ∧ x5 ≤ 23) (k8 : 0 ≤ x8 ∧ x8 ≤ 23) (k9 : 0 ≤ x9 ∧ x9 ≤ 23) (k12 : 0 ≤ x12 ∧ x12 ≤ 23) (k13 : (-23) ≤ x13 ∧ x13 ≤ (-1)) (h1 : x13 = level_0 (x8)) (f3 : x12 = x5) (h4 : x12 = level_0 (x9)) : (0 ≤ level_0 (x9)) ∧ ((level_0 (x9) ≤ 23) ∧ (level_0 (x8) ≤ (-1))) := by
  try simp only [Int.add_zero] at *
  first
    | omega
    | assumption
    | (have hs := ‹SGR _ _›
       have h := hs.2.1 x6 (by omega) (by omega)
       simp only at h
       omega)
set_option maxHeartbeats 4000000 in
theorem vc_Mo_tree_15_6 (x2 : Int) (x3 : Int) (x13 : Int) (level_0 : Int → Int) (all_0 : Int → Int) (r_0 : Int) (root_0 : Int → Int) (above_0 : Int → Int) (partOf_0 : Int → Int) (gx : Int) (k3 : 0 ≤ x3 ∧ x3 ≤ 24) (f17 : BFS (r_0) (all_0) (above_0) (level_0) (partOf_0) (root_0) (x3)) (ex2 : gx = x3) : BFS (r_0) (all_0) (above_0) (level_0) (partOf_0) (root_0) (gx) := by
  try simp only [Int.add_zero] at *
  first
    | assumption
    | (rw [show x3 = x14 by omega]; assumption)
    | (rw [show x3 = x15 by omega]; assumption)
    | (rw [show x3 = x13 by omega]; assumption)
    | (rw [show gx = x3 by omega]; assumption)
    | (rw [show x3 = x4 by omega]; exact bfs_start (n := x2) ‹LVZ _ _ _ _ _› (fun q a b => ‹RTPT _ _ _› q a (by omega)) (fun q a b => ‹RTK _ _ _› q a (by omega)) ‹ABI _ _ _› (by omega) (by omega) (by omega))
  
def o_Mo_tree_15 : or_T := (289, 14, [(3, (0, 0, 24, [])), (5, (0, 0, 23, [])), (6, (0, 0, 47, [])), (7, (0, 1, 48, [])), (8, (0, 0, 23, [])), (9, (0, 0, 23, [])), (12, (0, 0, 23, [])), (13, (0, -23, -1, []))], [(10, [13, 10, 8], []), (9, [10, 0], [128]), (7, [12, 5], [0]), (10, [12, 10, 9], []), (20, [9, 0, 6], [50, 1, 1, 1005, 1002, 1, 2, 1, 0, 3, 1, 2, 4, 7, 4, 3, 2, 1, 5, 0, 315, 1, 2]), (20, [8, 0, 6], [50, 1, 1, 1005, 1002, 1, 2, 1, 0, 3, 1, 2, 4, 7, 4, 3, 2, 1, 5, 0, 267, 1, 2]), (20, [7, 0], [30, 0, 1, 0, 0, -1, 3, 2005001]), (20, [7, 0], [30, 0, -1, 0, 0, 1, 3, 2005001]), (20, [0], [60, 1, 1, 197, 5, 2]), (20, [0], [50, 1, 3, 5, 2, 128, 127, 5, 2, 0, 24, 4, 14, 0, 6, 4, 2, 7, 0, 0, 1, 3, 0, 2, 2, 0, 5, 2, 9, 0, 2, 0, -1, 3, 0, 128, 7, 0, 2, 9, 0, 5, 3, 0, 128, 7, 0, 0, 24, 4, 9, 0, 2, 0, 0, 3, 0, 127, 7, 0, 2, 17, 0, 9, 4, 5, 3, 0, 127, 7, 0, 0, 1, 3, 0, 2, 2, 0, 5, 2, 12, 0, 2, 0, 0, 3, 0, 128, 3, 0, 127, 7, 0, 0, 12, 4, 8, 3, 0, 128, 3, 0, 127, 7, 0, 0, 1, 3, 0, 128, 7, 0]), (20, [0, 3], [60, 1, 5, 813, 5, 2, 127, 128, 16, 129])], [], [(0, 0, 24, [])], [(23, [14, 3], [0, 1, -1]), (23, [14, 3], [0, -1, 1]), (20, [0], [50, 1, 3, 5, 2, 128, 127, 5, 2, 0, 24, 4, 14, 0, 6, 4, 2, 7, 0, 0, 1, 3, 0, 2, 2, 0, 5, 2, 9, 0, 2, 0, -1, 3, 0, 128, 7, 0, 2, 9, 0, 5, 3, 0, 128, 7, 0, 0, 24, 4, 9, 0, 2, 0, 0, 3, 0, 127, 7, 0, 2, 17, 0, 9, 4, 5, 3, 0, 127, 7, 0, 0, 1, 3, 0, 2, 2, 0, 5, 2, 12, 0, 2, 0, 0, 3, 0, 128, 3, 0, 127, 7, 0, 0, 12, 4, 8, 3, 0, 128, 3, 0, 127, 7, 0, 0, 1, 3, 0, 128, 7, 0]), (20, [8, 0], [30, -1, 1, 0, 0, -1, 3, 2005000]), (20, [9, 0], [30, -1, 1, 0, 0, -1, 3, 2005000]), (20, [0, 9, 8], [50, 0, 1, 128, 2, 9, 0, 2, 0, 0, 3, 0, 128, 1, 1, 2, 9, 0, 5, 3, 0, 128, 1, 1, 0, 23, 0, 5, 3, 0, 128, 1, 2, 0, -1]), (20, [0, 14], [60, 1, 5, 813, 5, 2, 127, 128, 16, 129])], [], [(6, 7, -4294967296, -1)])
theorem oo_Mo_tree_15 {kA : Nat → ClassId} : or_ok PRD kA GG o_Mo_tree_15 := by
  refine or_mk fun A ta ws vs hD hth hl => ?_
  intro t3 k3 t5 k5 t6 k6 t7 k7 t8 k8 t9 k9 t12 k12 t13 k13 d1 f1 f2 f3 f4 f7 f8 f10 f11 f12 f15 f17
  replace f1 := shm_107 f1
  replace f2 := shm_598 f2
  replace f3 := shm_37 f3
  replace f4 := shm_107 f4
  replace f7 := shm_603 f7
  replace f8 := shm_749 f8
  replace f10 := shm_121 f10
  replace f11 := shm_122 f11
  replace f12 := shm_1452 f12
  replace f15 := shm_601 f15
  replace f17 := shm_602 f17
  have ad_10 : v_ad (n_v vs 10) = w_ar ws (n_v vs 0) 128 := congrArg v_ad f2
  simp only [ad_10] at f1
  have h1 : v_iv (n_v vs 13) = w_ei ws (w_ar ws (n_v vs 0) 128) (v_iv (n_v vs 8)) := f1
  simp only [ad_10] at f4
  have h4 : v_iv (n_v vs 12) = w_ei ws (w_ar ws (n_v vs 0) 128) (v_iv (n_v vs 9)) := f4
  obtain ⟨x, ex, hx⟩ := iv_ex (ta := ta) (lo := 0) (hi := 24) (z := v_iv (n_v vs 3)) (by omega) (by omega) (by omega) (by omega)
  have ex2 : v_iv (Value.int x) = v_iv (n_v vs 3) := ex
  have ex3 : 0 ≤ v_iv (Value.int x) ∧ v_iv (Value.int x) ≤ 24 := tv_rng hx
  have e_0 : n_v (vs ++ [Value.int x]) 0 = n_v vs 0 := n_v_old (by rw [hl]; decide)
  have e_3 : n_v (vs ++ [Value.int x]) 3 = n_v vs 3 := n_v_old (by rw [hl]; decide)
  have e_8 : n_v (vs ++ [Value.int x]) 8 = n_v vs 8 := n_v_old (by rw [hl]; decide)
  have e_9 : n_v (vs ++ [Value.int x]) 9 = n_v vs 9 := n_v_old (by rw [hl]; decide)
  have e_14 : n_v (vs ++ [Value.int x]) 14 = Value.int x := n_v_new hl
  have nf0 : fc_1 PRD (23, [14, 3], [0, 1, -1]) ws (vs ++ [Value.int x]) := by
    refine ⟨nf_inA hl rfl, sgq_7 ?_⟩
    · show 1 * v_iv (n_v (vs ++ [Value.int x]) 14) + ((-1) * v_iv (n_v (vs ++ [Value.int x]) 3) + 0) ≤ 0
      simp only [e_3, e_14]
      exact vc_Mo_tree_15_0 (v_iv (n_v vs 3)) (v_iv (n_v vs 6)) (v_iv (Value.int x)) k3 ex2
  have nf1 : fc_1 PRD (23, [14, 3], [0, -1, 1]) ws (vs ++ [Value.int x]) := by
    refine ⟨nf_inA hl rfl, sgq_22 ?_⟩
    · show (-1) * v_iv (n_v (vs ++ [Value.int x]) 14) + (1 * v_iv (n_v (vs ++ [Value.int x]) 3) + 0) ≤ 0
      simp only [e_3, e_14]
      exact vc_Mo_tree_15_1 (v_iv (n_v vs 3)) (v_iv (n_v vs 6)) (v_iv (Value.int x)) k3 ex2
  have nf2 : fc_1 PRD (20, [0], [50, 1, 3, 5, 2, 128, 127, 5, 2, 0, 24, 4, 14, 0, 6, 4, 2, 7, 0, 0, 1, 3, 0, 2, 2, 0, 5, 2, 9, 0, 2, 0, -1, 3, 0, 128, 7, 0, 2, 9, 0, 5, 3, 0, 128, 7, 0, 0, 24, 4, 9, 0, 2, 0, 0, 3, 0, 127, 7, 0, 2, 17, 0, 9, 4, 5, 3, 0, 127, 7, 0, 0, 1, 3, 0, 2, 2, 0, 5, 2, 12, 0, 2, 0, 0, 3, 0, 128, 3, 0, 127, 7, 0, 0, 12, 4, 8, 3, 0, 128, 3, 0, 127, 7, 0, 0, 1, 3, 0, 128, 7, 0]) ws (vs ++ [Value.int x]) := by
    refine ⟨nf_inA hl rfl, sgq_601 ?_⟩
    · show ∀ j0 : Int, 0 ≤ j0 → j0 < 24 → (((j0 + 1) ≤ w_ei ws (w_ar ws (n_v (vs ++ [Value.int x]) 0) 2) (w_fi ws (n_v (vs ++ [Value.int x]) 0) 5)) → (((-1) ≤ w_ei ws (w_ar ws (n_v (vs ++ [Value.int x]) 0) 128) (j0)) ∧ ((w_ei ws (w_ar ws (n_v (vs ++ [Value.int x]) 0) 128) (j0) ≤ 24) ∧ ((0 ≤ w_ei ws (w_ar ws (n_v (vs ++ [Value.int x]) 0) 127) (j0)) → (((w_ei ws (w_ar ws (n_v (vs ++ [Value.int x]) 0) 127) (j0) + 1) ≤ w_ei ws (w_ar ws (n_v (vs ++ [Value.int x]) 0) 2) (w_fi ws (n_v (vs ++ [Value.int x]) 0) 5)) ∧ ((0 ≤ w_ei ws (w_ar ws (n_v (vs ++ [Value.int x]) 0) 128) (w_ei ws (w_ar ws (n_v (vs ++ [Value.int x]) 0) 127) (j0))) ∧ ((w_ei ws (w_ar ws (n_v (vs ++ [Value.int x]) 0) 128) (w_ei ws (w_ar ws (n_v (vs ++ [Value.int x]) 0) 127) (j0)) + 1) ≤ w_ei ws (w_ar ws (n_v (vs ++ [Value.int x]) 0) 128) (j0))))))))
      rw [e_0]
      exact vc_Mo_tree_15_2 (v_iv (n_v vs 6)) (w_ei ws (w_ar ws (n_v vs 0) 128)) (w_ei ws (w_ar ws (n_v vs 0) 2)) (w_fi ws (n_v vs 0) 5) (w_ei ws (w_ar ws (n_v vs 0) 127)) f15
  have nf3 : fc_1 PRD (20, [8, 0], [30, -1, 1, 0, 0, -1, 3, 2005000]) ws (vs ++ [Value.int x]) := by
    refine ⟨nf_inA hl rfl, sgq_269 ?_⟩
    · show 1 * v_iv (n_v (vs ++ [Value.int x]) 8) + ((-1) * w_el ws (w_ar ws (n_v (vs ++ [Value.int x]) 0) 2) (w_fi ws (n_v (vs ++ [Value.int x]) 0) 5 + 0).toNat + 0) ≤ (-1)
      simp only [e_0, e_8]
      exact vc_Mo_tree_15_3 (v_iv (n_v vs 6)) (v_iv (n_v vs 7)) (v_iv (n_v vs 8)) (w_ei ws (w_ar ws (n_v vs 0) 2)) (w_fi ws (n_v vs 0) 5) k6 k7 k8 d1 f8 f10 f11 f12
  have nf4 : fc_1 PRD (20, [9, 0], [30, -1, 1, 0, 0, -1, 3, 2005000]) ws (vs ++ [Value.int x]) := by
    refine ⟨nf_inA hl rfl, sgq_269 ?_⟩
    · show 1 * v_iv (n_v (vs ++ [Value.int x]) 9) + ((-1) * w_el ws (w_ar ws (n_v (vs ++ [Value.int x]) 0) 2) (w_fi ws (n_v (vs ++ [Value.int x]) 0) 5 + 0).toNat + 0) ≤ (-1)
      simp only [e_0, e_9]
      exact vc_Mo_tree_15_4 (v_iv (n_v vs 6)) (v_iv (n_v vs 7)) (v_iv (n_v vs 9)) (w_ei ws (w_ar ws (n_v vs 0) 2)) (w_fi ws (n_v vs 0) 5) k6 k7 k9 d1 f7 f10 f11 f12
  have nf5 : fc_1 PRD (20, [0, 9, 8], [50, 0, 1, 128, 2, 9, 0, 2, 0, 0, 3, 0, 128, 1, 1, 2, 9, 0, 5, 3, 0, 128, 1, 1, 0, 23, 0, 5, 3, 0, 128, 1, 2, 0, -1]) ws (vs ++ [Value.int x]) := by
    refine ⟨nf_inA hl rfl, sgq_599 ?_⟩
    · show (0 ≤ w_ei ws (w_ar ws (n_v (vs ++ [Value.int x]) 0) 128) (v_iv (n_v (vs ++ [Value.int x]) 9))) ∧ ((w_ei ws (w_ar ws (n_v (vs ++ [Value.int x]) 0) 128) (v_iv (n_v (vs ++ [Value.int x]) 9)) ≤ 23) ∧ (w_ei ws (w_ar ws (n_v (vs ++ [Value.int x]) 0) 128) (v_iv (n_v (vs ++ [Value.int x]) 8)) ≤ (-1)))
      simp only [e_0, e_8, e_9]
      exact vc_Mo_tree_15_5 (v_iv (n_v vs 5)) (v_iv (n_v vs 6)) (v_iv (n_v vs 8)) (v_iv (n_v vs 9)) (v_iv (n_v vs 12)) (v_iv (n_v vs 13)) (w_ei ws (w_ar ws (n_v vs 0) 128)) k5 k8 k9 k12 k13 h1 f3 h4
  have nf6 : fc_1 PRD (20, [0, 14], [60, 1, 5, 813, 5, 2, 127, 128, 16, 129]) ws (vs ++ [Value.int x]) := by
    refine ⟨nf_inA hl rfl, sgq_602 ?_⟩
    · show BFS (w_fi ws (n_v (vs ++ [Value.int x]) 0) 5) (w_ei ws (w_ar ws (n_v (vs ++ [Value.int x]) 0) 2)) (w_ei ws (w_ar ws (n_v (vs ++ [Value.int x]) 0) 127)) (w_ei ws (w_ar ws (n_v (vs ++ [Value.int x]) 0) 128)) (w_ei ws (w_ar ws (n_v (vs ++ [Value.int x]) 0) 16)) (w_ei ws (w_ar ws (n_v (vs ++ [Value.int x]) 0) 129)) (v_iv (n_v (vs ++ [Value.int x]) 14))
      simp only [e_0, e_14]
      exact vc_Mo_tree_15_6 (v_iv (n_v vs 2)) (v_iv (n_v vs 3)) (v_iv (n_v vs 13)) (w_ei ws (w_ar ws (n_v vs 0) 128)) (w_ei ws (w_ar ws (n_v vs 0) 2)) (w_fi ws (n_v vs 0) 5) (w_ei ws (w_ar ws (n_v vs 0) 129)) (w_ei ws (w_ar ws (n_v vs 0) 127)) (w_ei ws (w_ar ws (n_v vs 0) 16)) (v_iv (Value.int x)) k3 f17 ex2
  exact ⟨(fun _ h => (by cases h)), [Value.int x], ag_one hx, List.forall_mem_cons.mpr ⟨⟨show (23 : Nat) < 100 from by decide, nf0⟩, List.forall_mem_cons.mpr ⟨⟨show (23 : Nat) < 100 from by decide, nf1⟩, List.forall_mem_cons.mpr ⟨⟨show (20 : Nat) < 100 from by decide, nf2⟩, List.forall_mem_cons.mpr ⟨⟨show (20 : Nat) < 100 from by decide, nf3⟩, List.forall_mem_cons.mpr ⟨⟨show (20 : Nat) < 100 from by decide, nf4⟩, List.forall_mem_cons.mpr ⟨⟨show (20 : Nat) < 100 from by decide, nf5⟩, List.forall_mem_cons.mpr ⟨⟨show (20 : Nat) < 100 from by decide, nf6⟩, (fun _ h => (by cases h))⟩⟩⟩⟩⟩⟩⟩, (fun _ h => (by cases h))⟩
set_option maxHeartbeats 4000000 in
theorem vc_Mo_tree_16_0 (x2 : Int) (x3 : Int) (x14 : Int) (x15 : Int) (all_0 : Int → Int) (r_0 : Int) (root_0 : Int → Int) (level_0 : Int → Int) (above_0 : Int → Int) (partOf_0 : Int → Int) (k3 : 0 ≤ x3 ∧ x3 ≤ 24) (k14 : 0 ≤ x14 ∧ x14 ≤ 24) (f1 : 1 * x14 + ((-1) * x3 + 0) ≤ 0) (f2 : (-1) * x14 + (1 * x3 + 0) ≤ 0) (f15 : BFS (r_0) (all_0) (above_0) (level_0) (partOf_0) (root_0) (x14)) : BFS (r_0) (all_0) (above_0) (level_0) (partOf_0) (root_0) (x3) := by
  try simp only [Int.add_zero] at *
  first
    | assumption
    | (rw [show x3 = x14 by omega]; assumption)
    | (rw [show x3 = x15 by omega]; assumption)
    | (rw [show x3 = x13 by omega]; assumption)
    | (rw [show gx = x3 by omega]; assumption)
    | (rw [show x3 = x4 by omega]; exact bfs_start (n := x2) ‹LVZ _ _ _ _ _› (fun q a b => ‹RTPT _ _ _› q a (by omega)) (fun q a b => ‹RTK _ _ _› q a (by omega)) ‹ABI _ _ _› (by omega) (by omega) (by omega))
  
def o_Mo_tree_16 : or_T := (204, 16, [(3, (0, 0, 24, [])), (14, (0, 0, 24, []))], [(23, [14, 3], [0, 1, -1]), (23, [14, 3], [0, -1, 1]), (20, [0, 14], [60, 1, 5, 813, 5, 2, 127, 128, 16, 129])], [], [], [(20, [0, 3], [60, 1, 5, 813, 5, 2, 127, 128, 16, 129])], [], [])
theorem oo_Mo_tree_16 {kA : Nat → ClassId} : or_ok PRD kA GG o_Mo_tree_16 := by
  refine or_mk fun A ta ws vs hD hth hl => ?_
  intro t3 k3 t14 k14 f1 f2 f15
  have nf0 : fc_1 PRD (20, [0, 3], [60, 1, 5, 813, 5, 2, 127, 128, 16, 129]) ws (vs) := ⟨nf_in hl rfl, sgq_602 (vc_Mo_tree_16_0 (v_iv (n_v vs 2)) (v_iv (n_v vs 3)) (v_iv (n_v vs 14)) (v_iv (n_v vs 15)) (w_ei ws (w_ar ws (n_v vs 0) 2)) (w_fi ws (n_v vs 0) 5) (w_ei ws (w_ar ws (n_v vs 0) 129)) (w_ei ws (w_ar ws (n_v vs 0) 128)) (w_ei ws (w_ar ws (n_v vs 0) 127)) (w_ei ws (w_ar ws (n_v vs 0) 16)) k3 k14 (shm_7 f1) (shm_22 f2) (shm_602 f15))⟩
  refine ⟨(fun _ h => (by cases h)), [], trivial, ?_, (fun _ h => (by cases h))⟩
  rw [List.append_nil]
  exact List.forall_mem_cons.mpr ⟨⟨show (20 : Nat) < 100 from by decide, nf0⟩, (fun _ h => (by cases h))⟩
set_option maxHeartbeats 4000000 in
theorem vc_Mo_tree_17_0 (x3 : Int) (x5 : Int) (x6 : Int) (x8 : Int) (x9 : Int) (x11 : Int) (x13 : Int) (x14 : Int) (level_0 : Int → Int) (gx : Int) (k3 : 0 ≤ x3 ∧ x3 ≤ 24) (k5 : 0 ≤ x5 ∧ x5 ≤ 23) (k8 : 0 ≤ x8 ∧ x8 ≤ 23) (k9 : 0 ≤ x9 ∧ x9 ≤ 23) (k11 : 0 ≤ x11 ∧ x11 ≤ 23) (k13 : 0 ≤ x13 ∧ x13 ≤ 23) (k14 : (-23) ≤ x14 ∧ x14 ≤ (-1)) (h1 : x14 = level_0 (x8)) (f3 : x13 = x5) (h4 : x13 = level_0 (x9)) (f7 : x11 = x5) (h8 : x11 = level_0 (x8)) : 1 * gx + ((-1) * x3 + 0) ≤ 0 := by
  try simp only [Int.add_zero] at *
  first
    | omega
    | assumption
    | (have hs := ‹SGR _ _›
       have h := hs.2.1 x6 (by omega) (by omega)
       simp only at h
       omega)
set_option maxHeartbeats 4000000 in
theorem vc_Mo_tree_17_1 (x3 : Int) (x5 : Int) (x6 : Int) (x8 : Int) (x9 : Int) (x11 : Int) (x13 : Int) (x14 : Int) (level_0 : Int → Int) (gx : Int) (k3 : 0 ≤ x3 ∧ x3 ≤ 24) (k5 : 0 ≤ x5 ∧ x5 ≤ 23) (k8 : 0 ≤ x8 ∧ x8 ≤ 23) (k9 : 0 ≤ x9 ∧ x9 ≤ 23) (k11 : 0 ≤ x11 ∧ x11 ≤ 23) (k13 : 0 ≤ x13 ∧ x13 ≤ 23) (k14 : (-23) ≤ x14 ∧ x14 ≤ (-1)) (h1 : x14 = level_0 (x8)) (f3 : x13 = x5) (h4 : x13 = level_0 (x9)) (f7 : x11 = x5) (h8 : x11 = level_0 (x8)) : (-1) * gx + (1 * x3 + 0) ≤ 0 := by
  try simp only [Int.add_zero] at *
  first
    | omega
    | assumption
    | (have hs := ‹SGR _ _›
       have h := hs.2.1 x6 (by omega) (by omega)
       simp only at h
       omega)
set_option maxHeartbeats 4000000 in
theorem vc_Mo_tree_17_2 (x6 : Int) (level_0 : Int → Int) (all_0 : Int → Int) (r_0 : Int) (above_0 : Int → Int) (f17 : ∀ j0 : Int, 0 ≤ j0 → j0 < 24 → (((j0 + 1) ≤ all_0 (r_0)) → (((-1) ≤ level_0 (j0)) ∧ ((level_0 (j0) ≤ 24) ∧ ((0 ≤ above_0 (j0)) → (((above_0 (j0) + 1) ≤ all_0 (r_0)) ∧ ((0 ≤ level_0 (above_0 (j0))) ∧ ((level_0 (above_0 (j0)) + 1) ≤ level_0 (j0))))))))) : ∀ j0 : Int, 0 ≤ j0 → j0 < 24 → (((j0 + 1) ≤ all_0 (r_0)) → (((-1) ≤ level_0 (j0)) ∧ ((level_0 (j0) ≤ 24) ∧ ((0 ≤ above_0 (j0)) → (((above_0 (j0) + 1) ≤ all_0 (r_0)) ∧ ((0 ≤ level_0 (above_0 (j0))) ∧ ((level_0 (above_0 (j0)) + 1) ≤ level_0 (j0)))))))) := by
  try simp only [Int.add_zero] at *
  first
    | omega
    | assumption
    | (have hs := ‹SGR _ _›
       have h := hs.2.1 x6 (by omega) (by omega)
       simp only at h
       omega)
set_option maxHeartbeats 4000000 in
theorem vc_Mo_tree_17_3 (x5 : Int) (x6 : Int) (x8 : Int) (x9 : Int) (x11 : Int) (x13 : Int) (x14 : Int) (level_0 : Int → Int) (all_0 : Int → Int) (r_0 : Int) (k5 : 0 ≤ x5 ∧ x5 ≤ 23) (k8 : 0 ≤ x8 ∧ x8 ≤ 23) (k9 : 0 ≤ x9 ∧ x9 ≤ 23) (k11 : 0 ≤ x11 ∧ x11 ≤ 23) (k13 : 0 ≤ x13 ∧ x13 ≤ 23) (k14 : (-23) ≤ x14 ∧ x14 ≤ (-1)) (h1 : x14 = level_0 (x8)) (f3 : x13 = x5) (h4 : x13 = level_0 (x9)) (f7 : x11 = x5) (h8 : x11 = level_0 (x8)) : 1 * x8 + ((-1) * all_0 (r_0 + 0) + 0) ≤ (-1) := by
  try simp only [Int.add_zero] at *
  first
    | omega
    | assumption
    | (have hs := ‹SGR _ _›
       have h := hs.2.1 x6 (by omega) (by omega)
       simp only at h
       omega)
set_option maxHeartbeats 4000000 in
theorem vc_Mo_tree_17_4 (x5 : Int) (x6 : Int) (x8 : Int) (x9 : Int) (x11 : Int) (x13 : Int) (x14 : Int) (level_0 : Int → Int) (all_0 : Int → Int) (r_0 : Int) (k5 : 0 ≤ x5 ∧ x5 ≤ 23) (k8 : 0 ≤ x8 ∧ x8 ≤ 23) (k9 : 0 ≤ x9 ∧ x9 ≤ 23) (k11 : 0 ≤ x11 ∧ x11 ≤ 23) (k13 : 0 ≤ x13 ∧ x13 ≤ 23) (k14 : (-23) ≤ x14 ∧ x14 ≤ (-1)) (h1 : x14 = level_0 (x8)) (f3 : x13 = x5) (h4 : x13 = level_0 (x9)) (f7 : x11 = x5) (h8 : x11 = level_0 (x8)) : 1 * x9 + ((-1) * all_0 (r_0 + 0) + 0) ≤ (-1) := by
  try simp only [Int.add_zero] at *
  first
    | omega
    | assumption
    | (have hs := ‹SGR _ _›
       have h := hs.2.1 x6 (by omega) (by omega)
       simp only at h
       omega)
set_option maxHeartbeats 4000000 in
theorem vc_Mo_tree_17_5 (x5 : Int) (x6 : Int) (x8 : Int) (x9 : Int) (x11 : Int) (x13 : Int) (x14 : Int) (level_0 : Int → Int) (k5 : 0 ≤ x5 ∧ x5 ≤ 23) (k8 : 0 ≤ x8 ∧ x8 ≤ 23) (k9 : 0 ≤ x9 ∧ x9 ≤ 23) (k11 : 0 ≤ x11 ∧ x11 ≤ 23) (k13 : 0 ≤ x13 ∧ x13 ≤ 23) (k14 : (-23) ≤ x14 ∧ x14 ≤ (-1)) (h1 : x14 = level_0 (x8)) (f3 : x13 = x5) (h4 : x13 = level_0 (x9)) (f7 : x11 = x5) (h8 : x11 = level_0 (x8)) : (0 ≤ level_0 (x9)) ∧ ((level_0 (x9) ≤ 23) ∧ (level_0 (x8) ≤ (-1))) := by
  try simp only [Int.add_zero] at *
  first
    | omega
    | assumption
    | (have hs := ‹SGR _ _›
       have h := hs.2.1 x6 (by omega) (by omega)
       simp only at h
       omega)
set_option maxHeartbeats 4000000 in
theorem vc_Mo_tree_17_6 (x2 : Int) (x3 : Int) (x13 : Int) (x14 : Int) (level_0 : Int → Int) (all_0 : Int → Int) (r_0 : Int) (root_0 : Int → Int) (above_0 : Int → Int) (partOf_0 : Int → Int) (gx : Int) (k3 : 0 ≤ x3 ∧ x3 ≤ 24) (f19 : BFS (r_0) (all_0) (above_0) (level_0) (partOf_0) (root_0) (x3)) (ex2 : gx = x3) : BFS (r_0) (all_0) (above_0) (level_0) (partOf_0) (root_0) (gx) := by
  try simp only [Int.add_zero] at *
  first
    | assumption
    | (rw [show x3 = x14 by omega]; assumption)
    | (rw [show x3 = x15 by omega]; assumption)
    | (rw [show x3 = x13 by omega]; assumption)
    | (rw [show gx = x3 by omega]; assumption)
    | (rw [show x3 = x4 by omega]; exact bfs_start (n := x2) ‹LVZ _ _ _ _ _› (fun q a b => ‹RTPT _ _ _› q a (by omega)) (fun q a b => ‹RTK _ _ _› q a (by omega)) ‹ABI _ _ _› (by omega) (by omega) (by omega))
  
def o_Mo_tree_17 : or_T := (289, 15, [(3, (0, 0, 24, [])), (5, (0, 0, 23, [])), (8, (0, 0, 23, [])), (9, (0, 0, 23, [])), (11, (0, 0, 23, [])), (13, (0, 0, 23, [])), (14, (0, -23, -1, []))], [(10, [14, 10, 8], []), (9, [10, 0], [128]), (7, [13, 5], [0]), (10, [13, 10, 9], []), (7, [11, 5], [0]), (10, [11, 10, 8], []), (20, [0], [50, 1, 3, 5, 2, 128, 127, 5, 2, 0, 24, 4, 14, 0, 6, 4, 2, 7, 0, 0, 1, 3, 0, 2, 2, 0, 5, 2, 9, 0, 2, 0, -1, 3, 0, 128, 7, 0, 2, 9, 0, 5, 3, 0, 128, 7, 0, 0, 24, 4, 9, 0, 2, 0, 0, 3, 0, 127, 7, 0, 2, 17, 0, 9, 4, 5, 3, 0, 127, 7, 0, 0, 1, 3, 0, 2, 2, 0, 5, 2, 12, 0, 2, 0, 0, 3, 0, 128, 3, 0, 127, 7, 0, 0, 12, 4, 8, 3, 0, 128, 3, 0, 127, 7, 0, 0, 1, 3, 0, 128, 7, 0]), (20, [0, 3], [60, 1, 5, 813, 5, 2, 127, 128, 16, 129])], [], [(0, 0, 24, [])], [(23, [15, 3], [0, 1, -1]), (23, [15, 3], [0, -1, 1]), (20, [0], [50, 1, 3, 5, 2, 128, 127, 5, 2, 0, 24, 4, 14, 0, 6, 4, 2, 7, 0, 0, 1, 3, 0, 2, 2, 0, 5, 2, 9, 0, 2, 0, -1, 3, 0, 128, 7, 0, 2, 9, 0, 5, 3, 0, 128, 7, 0, 0, 24, 4, 9, 0, 2, 0, 0, 3, 0, 127, 7, 0, 2, 17, 0, 9, 4, 5, 3, 0, 127, 7, 0, 0, 1, 3, 0, 2, 2, 0, 5, 2, 12, 0, 2, 0, 0, 3, 0, 128, 3, 0, 127, 7, 0, 0, 12, 4, 8, 3, 0, 128, 3, 0, 127, 7, 0, 0, 1, 3, 0, 128, 7, 0]), (20, [8, 0], [30, -1, 1, 0, 0, -1, 3, 2005000]), (20, [9, 0], [30, -1, 1, 0, 0, -1, 3, 2005000]), (20, [0, 9, 8], [50, 0, 1, 128, 2, 9, 0, 2, 0, 0, 3, 0, 128, 1, 1, 2, 9, 0, 5, 3, 0, 128, 1, 1, 0, 23, 0, 5, 3, 0, 128, 1, 2, 0, -1]), (20, [0, 15], [60, 1, 5, 813, 5, 2, 127, 128, 16, 129])], [], [])
theorem oo_Mo_tree_17 {kA : Nat → ClassId} : or_ok PRD kA GG o_Mo_tree_17 := by
  refine or_mk fun A ta ws vs hD hth hl => ?_
  intro t3 k3 t5 k5 t8 k8 t9 k9 t11 k11 t13 k13 t14 k14 f1 f2 f3 f4 f7 f8 f17 f19
  replace f1 := shm_107 f1
  replace f2 := shm_598 f2
  replace f3 := shm_37 f3
  replace f4 := shm_107 f4
  replace f7 := shm_37 f7
  replace f8 := shm_107 f8
  replace f17 := shm_601 f17
  replace f19 := shm_602 f19
  have ad_10 : v_ad (n_v vs 10) = w_ar ws (n_v vs 0) 128 := congrArg v_ad f2
  simp only [ad_10] at f1
  have h1 : v_iv (n_v vs 14) = w_ei ws (w_ar ws (n_v vs 0) 128) (v_iv (n_v vs 8)) := f1
  simp only [ad_10] at f4
  have h4 : v_iv (n_v vs 13) = w_ei ws (w_ar ws (n_v vs 0) 128) (v_iv (n_v vs 9)) := f4
  simp only [ad_10] at f8
  have h8 : v_iv (n_v vs 11) = w_ei ws (w_ar ws (n_v vs 0) 128) (v_iv (n_v vs 8)) := f8
  obtain ⟨x, ex, hx⟩ := iv_ex (ta := ta) (lo := 0) (hi := 24) (z := v_iv (n_v vs 3)) (by omega) (by omega) (by omega) (by omega)
  have ex2 : v_iv (Value.int x) = v_iv (n_v vs 3) := ex
  have ex3 : 0 ≤ v_iv (Value.int x) ∧ v_iv (Value.int x) ≤ 24 := tv_rng hx
  have e_0 : n_v (vs ++ [Value.int x]) 0 = n_v vs 0 := n_v_old (by rw [hl]; decide)
  have e_3 : n_v (vs ++ [Value.int x]) 3 = n_v vs 3 := n_v_old (by rw [hl]; decide)
  have e_8 : n_v (vs ++ [Value.int x]) 8 = n_v vs 8 := n_v_old (by rw [hl]; decide)
  have e_9 : n_v (vs ++ [Value.int x]) 9 = n_v vs 9 := n_v_old (by rw [hl]; decide)
  have e_15 : n_v (vs ++ [Value.int x]) 15 = Value.int x := n_v_new hl
  have nf0 : fc_1 PRD (23, [15, 3], [0, 1, -1]) ws (vs ++ [Value.int x]) := by
    refine ⟨nf_inA hl rfl, sgq_7 ?_⟩
    · show 1 * v_iv (n_v (vs ++ [Value.int x]) 15) + ((-1) * v_iv (n_v (vs ++ [Value.int x]) 3) + 0) ≤ 0
      simp only [e_3, e_15]
      exact vc_Mo_tree_17_0 (v_iv (n_v vs 3)) (v_iv (n_v vs 5)) (v_iv (n_v vs 6)) (v_iv (n_v vs 8)) (v_iv (n_v vs 9)) (v_iv (n_v vs 11)) (v_iv (n_v vs 13)) (v_iv (n_v vs 14)) (w_ei ws (w_ar ws (n_v vs 0) 128)) (v_iv (Value.int x)) k3 k5 k8 k9 k11 k13 k14 h1 f3 h4 f7 h8
  have nf1 : fc_1 PRD (23, [15, 3], [0, -1, 1]) ws (vs ++ [Value.int x]) := by
    refine ⟨nf_inA hl rfl, sgq_22 ?_⟩
    · show (-1) * v_iv (n_v (vs ++ [Value.int x]) 15) + (1 * v_iv (n_v (vs ++ [Value.int x]) 3) + 0) ≤ 0
      simp only [e_3, e_15]
      exact vc_Mo_tree_17_1 (v_iv (n_v vs 3)) (v_iv (n_v vs 5)) (v_iv (n_v vs 6)) (v_iv (n_v vs 8)) (v_iv (n_v vs 9)) (v_iv (n_v vs 11)) (v_iv (n_v vs 13)) (v_iv (n_v vs 14)) (w_ei ws (w_ar ws (n_v vs 0) 128)) (v_iv (Value.int x)) k3 k5 k8 k9 k11 k13 k14 h1 f3 h4 f7 h8
  have nf2 : fc_1 PRD (20, [0], [50, 1, 3, 5, 2, 128, 127, 5, 2, 0, 24, 4, 14, 0, 6, 4, 2, 7, 0, 0, 1, 3, 0, 2, 2, 0, 5, 2, 9, 0, 2, 0, -1, 3, 0, 128, 7, 0, 2, 9, 0, 5, 3, 0, 128, 7, 0, 0, 24, 4, 9, 0, 2, 0, 0, 3, 0, 127, 7, 0, 2, 17, 0, 9, 4, 5, 3, 0, 127, 7, 0, 0, 1, 3, 0, 2, 2, 0, 5, 2, 12, 0, 2, 0, 0, 3, 0, 128, 3, 0, 127, 7, 0, 0, 12, 4, 8, 3, 0, 128, 3, 0, 127, 7, 0, 0, 1, 3, 0, 128, 7, 0]) ws (vs ++ [Value.int x]) := by
    refine ⟨nf_inA hl rfl, sgq_601 ?_⟩
    · show ∀ j0 : Int, 0 ≤ j0 → j0 < 24 → (((j0 + 1) ≤ w_ei ws (w_ar ws (n_v (vs ++ [Value.int x]) 0) 2) (w_fi ws (n_v (vs ++ [Value.int x]) 0) 5)) → (((-1) ≤ w_ei ws (w_ar ws (n_v (vs ++ [Value.int x]) 0) 128) (j0)) ∧ ((w_ei ws (w_ar ws (n_v (vs ++ [Value.int x]) 0) 128) (j0) ≤ 24) ∧ ((0 ≤ w_ei ws (w_ar ws (n_v (vs ++ [Value.int x]) 0) 127) (j0)) → (((w_ei ws (w_ar ws (n_v (vs ++ [Value.int x]) 0) 127) (j0) + 1) ≤ w_ei ws (w_ar ws (n_v (vs ++ [Value.int x]) 0) 2) (w_fi ws (n_v (vs ++ [Value.int x]) 0) 5)) ∧ ((0 ≤ w_ei ws (w_ar ws (n_v (vs ++ [Value.int x]) 0) 128) (w_ei ws (w_ar ws (n_v (vs ++ [Value.int x]) 0) 127) (j0))) ∧ ((w_ei ws (w_ar ws (n_v (vs ++ [Value.int x]) 0) 128) (w_ei ws (w_ar ws (n_v (vs ++ [Value.int x]) 0) 127) (j0)) + 1) ≤ w_ei ws (w_ar ws (n_v (vs ++ [Value.int x]) 0) 128) (j0))))))))
      rw [e_0]
      exact vc_Mo_tree_17_2 (v_iv (n_v vs 6)) (w_ei ws (w_ar ws (n_v vs 0) 128)) (w_ei ws (w_ar ws (n_v vs 0) 2)) (w_fi ws (n_v vs 0) 5) (w_ei ws (w_ar ws (n_v vs 0) 127)) f17
  have nf3 : fc_1 PRD (20, [8, 0], [30, -1, 1, 0, 0, -1, 3, 2005000]) ws (vs ++ [Value.int x]) := by
    refine ⟨nf_inA hl rfl, sgq_269 ?_⟩
    · show 1 * v_iv (n_v (vs ++ [Value.int x]) 8) + ((-1) * w_el ws (w_ar ws (n_v (vs ++ [Value.int x]) 0) 2) (w_fi ws (n_v (vs ++ [Value.int x]) 0) 5 + 0).toNat + 0) ≤ (-1)
      simp only [e_0, e_8]
      exact vc_Mo_tree_17_3 (v_iv (n_v vs 5)) (v_iv (n_v vs 6)) (v_iv (n_v vs 8)) (v_iv (n_v vs 9)) (v_iv (n_v vs 11)) (v_iv (n_v vs 13)) (v_iv (n_v vs 14)) (w_ei ws (w_ar ws (n_v vs 0) 128)) (w_ei ws (w_ar ws (n_v vs 0) 2)) (w_fi ws (n_v vs 0) 5) k5 k8 k9 k11 k13 k14 h1 f3 h4 f7 h8
  have nf4 : fc_1 PRD (20, [9, 0], [30, -1, 1, 0, 0, -1, 3, 2005000]) ws (vs ++ [Value.int x]) := by
    refine ⟨nf_inA hl rfl, sgq_269 ?_⟩
    · show 1 * v_iv (n_v (vs ++ [Value.int x]) 9) + ((-1) * w_el ws (w_ar ws (n_v (vs ++ [Value.int x]) 0) 2) (w_fi ws (n_v (vs ++ [Value.int x]) 0) 5 + 0).toNat + 0) ≤ (-1)
      simp only [e_0, e_9]
      exact vc_Mo_tree_17_4 (v_iv (n_v vs 5)) (v_iv (n_v vs 6)) (v_iv (n_v vs 8)) (v_iv (n_v vs 9)) (v_iv (n_v vs 11)) (v_iv (n_v vs 13)) (v_iv (n_v vs 14)) (w_ei ws (w_ar ws (n_v vs 0) 128)) (w_ei ws (w_ar ws (n_v vs 0) 2)) (w_fi ws (n_v vs 0) 5) k5 k8 k9 k11 k13 k14 h1 f3 h4 f7 h8
  have nf5 : fc_1 PRD (20, [0, 9, 8], [50, 0, 1, 128, 2, 9, 0, 2, 0, 0, 3, 0, 128, 1, 1, 2, 9, 0, 5, 3, 0, 128, 1, 1, 0, 23, 0, 5, 3, 0, 128, 1, 2, 0, -1]) ws (vs ++ [Value.int x]) := by
    refine ⟨nf_inA hl rfl, sgq_599 ?_⟩
    · show (0 ≤ w_ei ws (w_ar ws (n_v (vs ++ [Value.int x]) 0) 128) (v_iv (n_v (vs ++ [Value.int x]) 9))) ∧ ((w_ei ws (w_ar ws (n_v (vs ++ [Value.int x]) 0) 128) (v_iv (n_v (vs ++ [Value.int x]) 9)) ≤ 23) ∧ (w_ei ws (w_ar ws (n_v (vs ++ [Value.int x]) 0) 128) (v_iv (n_v (vs ++ [Value.int x]) 8)) ≤ (-1)))
      simp only [e_0, e_8, e_9]
      exact vc_Mo_tree_17_5 (v_iv (n_v vs 5)) (v_iv (n_v vs 6)) (v_iv (n_v vs 8)) (v_iv (n_v vs 9)) (v_iv (n_v vs 11)) (v_iv (n_v vs 13)) (v_iv (n_v vs 14)) (w_ei ws (w_ar ws (n_v vs 0) 128)) k5 k8 k9 k11 k13 k14 h1 f3 h4 f7 h8
  have nf6 : fc_1 PRD (20, [0, 15], [60, 1, 5, 813, 5, 2, 127, 128, 16, 129]) ws (vs ++ [Value.int x]) := by
    refine ⟨nf_inA hl rfl, sgq_602 ?_⟩
    · show BFS (w_fi ws (n_v (vs ++ [Value.int x]) 0) 5) (w_ei ws (w_ar ws (n_v (vs ++ [Value.int x]) 0) 2)) (w_ei ws (w_ar ws (n_v (vs ++ [Value.int x]) 0) 127)) (w_ei ws (w_ar ws (n_v (vs ++ [Value.int x]) 0) 128)) (w_ei ws (w_ar ws (n_v (vs ++ [Value.int x]) 0) 16)) (w_ei ws (w_ar ws (n_v (vs ++ [Value.int x]) 0) 129)) (v_iv (n_v (vs ++ [Value.int x]) 15))
      simp only [e_0, e_15]
      exact vc_Mo_tree_17_6 (v_iv (n_v vs 2)) (v_iv (n_v vs 3)) (v_iv (n_v vs 13)) (v_iv (n_v vs 14)) (w_ei ws (w_ar ws (n_v vs 0) 128)) (w_ei ws (w_ar ws (n_v vs 0) 2)) (w_fi ws (n_v vs 0) 5) (w_ei ws (w_ar ws (n_v vs 0) 129)) (w_ei ws (w_ar ws (n_v vs 0) 127)) (w_ei ws (w_ar ws (n_v vs 0) 16)) (v_iv (Value.int x)) k3 f19 ex2
  exact ⟨(fun _ h => (by cases h)), [Value.int x], ag_one hx, List.forall_mem_cons.mpr ⟨⟨show (23 : Nat) < 100 from by decide, nf0⟩, List.forall_mem_cons.mpr ⟨⟨show (23 : Nat) < 100 from by decide, nf1⟩, List.forall_mem_cons.mpr ⟨⟨show (20 : Nat) < 100 from by decide, nf2⟩, List.forall_mem_cons.mpr ⟨⟨show (20 : Nat) < 100 from by decide, nf3⟩, List.forall_mem_cons.mpr ⟨⟨show (20 : Nat) < 100 from by decide, nf4⟩, List.forall_mem_cons.mpr ⟨⟨show (20 : Nat) < 100 from by decide, nf5⟩, List.forall_mem_cons.mpr ⟨⟨show (20 : Nat) < 100 from by decide, nf6⟩, (fun _ h => (by cases h))⟩⟩⟩⟩⟩⟩⟩, (fun _ h => (by cases h))⟩
set_option maxHeartbeats 4000000 in
theorem vc_Mo_tree_18_0 (x2 : Int) (x3 : Int) (x13 : Int) (x15 : Int) (all_0 : Int → Int) (r_0 : Int) (root_0 : Int → Int) (level_0 : Int → Int) (above_0 : Int → Int) (partOf_0 : Int → Int) (k3 : 0 ≤ x3 ∧ x3 ≤ 24) (k15 : 0 ≤ x15 ∧ x15 ≤ 24) (f1 : 1 * x15 + ((-1) * x3 + 0) ≤ 0) (f2 : (-1) * x15 + (1 * x3 + 0) ≤ 0) (f15 : BFS (r_0) (all_0) (above_0) (level_0) (partOf_0) (root_0) (x15)) : BFS (r_0) (all_0) (above_0) (level_0) (partOf_0) (root_0) (x3) := by
  try simp only [Int.add_zero] at *
  first
    | assumption
    | (rw [show x3 = x14 by omega]; assumption)
    | (rw [show x3 = x15 by omega]; assumption)
    | (rw [show x3 = x13 by omega]; assumption)
    | (rw [show gx = x3 by omega]; assumption)
    | (rw [show x3 = x4 by omega]; exact bfs_start (n := x2) ‹LVZ _ _ _ _ _› (fun q a b => ‹RTPT _ _ _› q a (by omega)) (fun q a b => ‹RTK _ _ _› q a (by omega)) ‹ABI _ _ _› (by omega) (by omega) (by omega))
  
def o_Mo_tree_18 : or_T := (204, 17, [(3, (0, 0, 24, [])), (15, (0, 0, 24, []))], [(23, [15, 3], [0, 1, -1]), (23, [15, 3], [0, -1, 1]), (20, [0, 15], [60, 1, 5, 813, 5, 2, 127, 128, 16, 129])], [], [], [(20, [0, 3], [60, 1, 5, 813, 5, 2, 127, 128, 16, 129])], [], [])
theorem oo_Mo_tree_18 {kA : Nat → ClassId} : or_ok PRD kA GG o_Mo_tree_18 := by
  refine or_mk fun A ta ws vs hD hth hl => ?_
  intro t3 k3 t15 k15 f1 f2 f15
  have nf0 : fc_1 PRD (20, [0, 3], [60, 1, 5, 813, 5, 2, 127, 128, 16, 129]) ws (vs) := ⟨nf_in hl rfl, sgq_602 (vc_Mo_tree_18_0 (v_iv (n_v vs 2)) (v_iv (n_v vs 3)) (v_iv (n_v vs 13)) (v_iv (n_v vs 15)) (w_ei ws (w_ar ws (n_v vs 0) 2)) (w_fi ws (n_v vs 0) 5) (w_ei ws (w_ar ws (n_v vs 0) 129)) (w_ei ws (w_ar ws (n_v vs 0) 128)) (w_ei ws (w_ar ws (n_v vs 0) 127)) (w_ei ws (w_ar ws (n_v vs 0) 16)) k3 k15 (shm_7 f1) (shm_22 f2) (shm_602 f15))⟩
  refine ⟨(fun _ h => (by cases h)), [], trivial, ?_, (fun _ h => (by cases h))⟩
  rw [List.append_nil]
  exact List.forall_mem_cons.mpr ⟨⟨show (20 : Nat) < 100 from by decide, nf0⟩, (fun _ h => (by cases h))⟩
set_option maxHeartbeats 4000000 in
theorem vc_Mo_tree_19_0 (x3 : Int) (x6 : Int) (gx : Int) (k3 : 0 ≤ x3 ∧ x3 ≤ 24) (ex2 : gx = x3) : 1 * gx + ((-1) * x3 + 0) ≤ 0 := by
  try simp only [Int.add_zero] at *
  first
    | omega
    | assumption
    | (have hs := ‹SGR _ _›
       have h := hs.2.1 x6 (by omega) (by omega)
       simp only at h
       omega)
set_option maxHeartbeats 4000000 in
theorem vc_Mo_tree_19_1 (x3 : Int) (x6 : Int) (gx : Int) (k3 : 0 ≤ x3 ∧ x3 ≤ 24) (ex2 : gx = x3) : (-1) * gx + (1 * x3 + 0) ≤ 0 := by
  try simp only [Int.add_zero] at *
  first
    | omega
    | assumption
    | (have hs := ‹SGR _ _›
       have h := hs.2.1 x6 (by omega) (by omega)
       simp only at h
       omega)
set_option maxHeartbeats 4000000 in
theorem vc_Mo_tree_19_2 (x6 : Int) (level_0 : Int → Int) (all_0 : Int → Int) (r_0 : Int) (above_0 : Int → Int) (f13 : ∀ j0 : Int, 0 ≤ j0 → j0 < 24 → (((j0 + 1) ≤ all_0 (r_0)) → (((-1) ≤ level_0 (j0)) ∧ ((level_0 (j0) ≤ 24) ∧ ((0 ≤ above_0 (j0)) → (((above_0 (j0) + 1) ≤ all_0 (r_0)) ∧ ((0 ≤ level_0 (above_0 (j0))) ∧ ((level_0 (above_0 (j0)) + 1) ≤ level_0 (j0))))))))) : ∀ j0 : Int, 0 ≤ j0 → j0 < 24 → (((j0 + 1) ≤ all_0 (r_0)) → (((-1) ≤ level_0 (j0)) ∧ ((level_0 (j0) ≤ 24) ∧ ((0 ≤ above_0 (j0)) → (((above_0 (j0) + 1) ≤ all_0 (r_0)) ∧ ((0 ≤ level_0 (above_0 (j0))) ∧ ((level_0 (above_0 (j0)) + 1) ≤ level_0 (j0)))))))) := by
  try simp only [Int.add_zero] at *
  first
    | omega
    | assumption
    | (have hs := ‹SGR _ _›
       have h := hs.2.1 x6 (by omega) (by omega)
       simp only at h
       omega)
set_option maxHeartbeats 4000000 in
theorem vc_Mo_tree_19_3 (x6 : Int) (x7 : Int) (x9 : Int) (all_0 : Int → Int) (r_0 : Int) (k6 : 0 ≤ x6 ∧ x6 ≤ 47) (k7 : 1 ≤ x7 ∧ x7 ≤ 48) (k9 : 0 ≤ x9 ∧ x9 ≤ 23) (d1 : x7 + (-4294967296) ≤ x6 ∧ x6 ≤ x7 + (-1)) (f5 : x9 = all_0 (((r_0 + 315) + x6))) (f8 : 1 * x7 + ((-1) * all_0 (r_0 + 1) + 0) ≤ 0) (f9 : (-1) * x7 + (1 * all_0 (r_0 + 1) + 0) ≤ 0) (f10 : SGR (r_0) (all_0)) : 1 * x9 + ((-1) * all_0 (r_0 + 0) + 0) ≤ (-1) := by
  try simp only [Int.add_zero] at *
  first
    | omega
    | assumption
    | (have hs := ‹SGR _ _›
       have h := hs.2.1 x6 (by omega) (by omega)
       simp only at h
       omega)
set_option maxHeartbeats 4000000 in
theorem vc_Mo_tree_19_4 (x6 : Int) (x7 : Int) (x8 : Int) (all_0 : Int → Int) (r_0 : Int) (k6 : 0 ≤ x6 ∧ x6 ≤ 47) (k7 : 1 ≤ x7 ∧ x7 ≤ 48) (k8 : 0 ≤ x8 ∧ x8 ≤ 23) (d1 : x7 + (-4294967296) ≤ x6 ∧ x6 ≤ x7 + (-1)) (f6 : x8 = all_0 (((r_0 + 267) + x6))) (f8 : 1 * x7 + ((-1) * all_0 (r_0 + 1) + 0) ≤ 0) (f9 : (-1) * x7 + (1 * all_0 (r_0 + 1) + 0) ≤ 0) (f10 : SGR (r_0) (all_0)) : 1 * x8 + ((-1) * all_0 (r_0 + 0) + 0) ≤ (-1) := by
  try simp only [Int.add_zero] at *
  first
    | omega
    | assumption
    | (have hs := ‹SGR _ _›
       have h := hs.2.1 x6 (by omega) (by omega)
       simp only at h
       omega)
set_option maxHeartbeats 4000000 in
theorem vc_Mo_tree_19_5 (x6 : Int) (x8 : Int) (x9 : Int) (x11 : Int) (x12 : Int) (level_0 : Int → Int) (k8 : 0 ≤ x8 ∧ x8 ≤ 23) (k9 : 0 ≤ x9 ∧ x9 ≤ 23) (k11 : 0 ≤ x11 ∧ x11 ≤ 23) (k12 : (-23) ≤ x12 ∧ x12 ≤ (-1)) (h1 : x12 = level_0 (x9)) (h4 : x11 = level_0 (x8)) : (0 ≤ level_0 (x8)) ∧ ((level_0 (x8) ≤ 23) ∧ (level_0 (x9) ≤ (-1))) := by
  try simp only [Int.add_zero] at *
  first
    | omega
    | assumption
    | (have hs := ‹SGR _ _›
       have h := hs.2.1 x6 (by omega) (by omega)
       simp only at h
       omega)
set_option maxHeartbeats 4000000 in
theorem vc_Mo_tree_19_6 (x2 : Int) (x3 : Int) (level_0 : Int → Int) (all_0 : Int → Int) (r_0 : Int) (root_0 : Int → Int) (above_0 : Int → Int) (partOf_0 : Int → Int) (gx : Int) (k3 : 0 ≤ x3 ∧ x3 ≤ 24) (f15 : BFS (r_0) (all_0) (above_0) (level_0) (partOf_0) (root_0) (x3)) (ex2 : gx = x3) : BFS (r_0) (all_0) (above_0) (level_0) (partOf_0) (root_0) (gx) := by
  try simp only [Int.add_zero] at *
  first
    | assumption
    | (rw [show x3 = x14 by omega]; assumption)
    | (rw [show x3 = x15 by omega]; assumption)
    | (rw [show x3 = x13 by omega]; assumption)
    | (rw [show gx = x3 by omega]; assumption)
    | (rw [show x3 = x4 by omega]; exact bfs_start (n := x2) ‹LVZ _ _ _ _ _› (fun q a b => ‹RTPT _ _ _› q a (by omega)) (fun q a b => ‹RTK _ _ _› q a (by omega)) ‹ABI _ _ _› (by omega) (by omega) (by omega))
  
def o_Mo_tree_19 : or_T := (256, 13, [(3, (0, 0, 24, [])), (6, (0, 0, 47, [])), (7, (0, 1, 48, [])), (8, (0, 0, 23, [])), (9, (0, 0, 23, [])), (11, (0, 0, 23, [])), (12, (0, -23, -1, []))], [(10, [12, 10, 9], []), (9, [10, 0], [128]), (10, [11, 10, 8], []), (20, [9, 0, 6], [50, 1, 1, 1005, 1002, 1, 2, 1, 0, 3, 1, 2, 4, 7, 4, 3, 2, 1, 5, 0, 315, 1, 2]), (20, [8, 0, 6], [50, 1, 1, 1005, 1002, 1, 2, 1, 0, 3, 1, 2, 4, 7, 4, 3, 2, 1, 5, 0, 267, 1, 2]), (20, [7, 0], [30, 0, 1, 0, 0, -1, 3, 2005001]), (20, [7, 0], [30, 0, -1, 0, 0, 1, 3, 2005001]), (20, [0], [60, 1, 1, 197, 5, 2]), (20, [0], [50, 1, 3, 5, 2, 128, 127, 5, 2, 0, 24, 4, 14, 0, 6, 4, 2, 7, 0, 0, 1, 3, 0, 2, 2, 0, 5, 2, 9, 0, 2, 0, -1, 3, 0, 128, 7, 0, 2, 9, 0, 5, 3, 0, 128, 7, 0, 0, 24, 4, 9, 0, 2, 0, 0, 3, 0, 127, 7, 0, 2, 17, 0, 9, 4, 5, 3, 0, 127, 7, 0, 0, 1, 3, 0, 2, 2, 0, 5, 2, 12, 0, 2, 0, 0, 3, 0, 128, 3, 0, 127, 7, 0, 0, 12, 4, 8, 3, 0, 128, 3, 0, 127, 7, 0, 0, 1, 3, 0, 128, 7, 0]), (20, [0, 3], [60, 1, 5, 813, 5, 2, 127, 128, 16, 129])], [], [(0, 0, 24, [])], [(23, [13, 3], [0, 1, -1]), (23, [13, 3], [0, -1, 1]), (20, [0], [50, 1, 3, 5, 2, 128, 127, 5, 2, 0, 24, 4, 14, 0, 6, 4, 2, 7, 0, 0, 1, 3, 0, 2, 2, 0, 5, 2, 9, 0, 2, 0, -1, 3, 0, 128, 7, 0, 2, 9, 0, 5, 3, 0, 128, 7, 0, 0, 24, 4, 9, 0, 2, 0, 0, 3, 0, 127, 7, 0, 2, 17, 0, 9, 4, 5, 3, 0, 127, 7, 0, 0, 1, 3, 0, 2, 2, 0, 5, 2, 12, 0, 2, 0, 0, 3, 0, 128, 3, 0, 127, 7, 0, 0, 12, 4, 8, 3, 0, 128, 3, 0, 127, 7, 0, 0, 1, 3, 0, 128, 7, 0]), (20, [9, 0], [30, -1, 1, 0, 0, -1, 3, 2005000]), (20, [8, 0], [30, -1, 1, 0, 0, -1, 3, 2005000]), (20, [0, 8, 9], [50, 0, 1, 128, 2, 9, 0, 2, 0, 0, 3, 0, 128, 1, 1, 2, 9, 0, 5, 3, 0, 128, 1, 1, 0, 23, 0, 5, 3, 0, 128, 1, 2, 0, -1]), (20, [0, 13], [60, 1, 5, 813, 5, 2, 127, 128, 16, 129])], [], [(6, 7, -4294967296, -1)])
theorem oo_Mo_tree_19 {kA : Nat → ClassId} : or_ok PRD kA GG o_Mo_tree_19 := by
  refine or_mk fun A ta ws vs hD hth hl => ?_
  intro t3 k3 t6 k6 t7 k7 t8 k8 t9 k9 t11 k11 t12 k12 d1 f1 f2 f4 f5 f6 f8 f9 f10 f13 f15
  replace f1 := shm_107 f1
  replace f2 := shm_598 f2
  replace f4 := shm_107 f4
  replace f5 := shm_603 f5
  replace f6 := shm_749 f6
  replace f8 := shm_121 f8
  replace f9 := shm_122 f9
  replace f10 := shm_1452 f10
  replace f13 := shm_601 f13
  replace f15 := shm_602 f15
  have ad_10 : v_ad (n_v vs 10) = w_ar ws (n_v vs 0) 128 := congrArg v_ad f2
  simp only [ad_10] at f1
  have h1 : v_iv (n_v vs 12) = w_ei ws (w_ar ws (n_v vs 0) 128) (v_iv (n_v vs 9)) := f1
  simp only [ad_10] at f4
  have h4 : v_iv (n_v vs 11) = w_ei ws (w_ar ws (n_v vs 0) 128) (v_iv (n_v vs 8)) := f4
  obtain ⟨x, ex, hx⟩ := iv_ex (ta := ta) (lo := 0) (hi := 24) (z := v_iv (n_v vs 3)) (by omega) (by omega) (by omega) (by omega)
  have ex2 : v_iv (Value.int x) = v_iv (n_v vs 3) := ex
  have ex3 : 0 ≤ v_iv (Value.int x) ∧ v_iv (Value.int x) ≤ 24 := tv_rng hx
  have e_0 : n_v (vs ++ [Value.int x]) 0 = n_v vs 0 := n_v_old (by rw [hl]; decide)
  have e_3 : n_v (vs ++ [Value.int x]) 3 = n_v vs 3 := n_v_old (by rw [hl]; decide)
  have e_8 : n_v (vs ++ [Value.int x]) 8 = n_v vs 8 := n_v_old (by rw [hl]; decide)
  have e_9 : n_v (vs ++ [Value.int x]) 9 = n_v vs 9 := n_v_old (by rw [hl]; decide)
  have e_13 : n_v (vs ++ [Value.int x]) 13 = Value.int x := n_v_new hl
  have nf0 : fc_1 PRD (23, [13, 3], [0, 1, -1]) ws (vs ++ [Value.int x]) := by
    refine ⟨nf_inA hl rfl, sgq_7 ?_⟩
    · show 1 * v_iv (n_v (vs ++ [Value.int x]) 13) + ((-1) * v_iv (n_v (vs ++ [Value.int x]) 3) + 0) ≤ 0
      simp only [e_3, e_13]
      exact vc_Mo_tree_19_0 (v_iv (n_v vs 3)) (v_iv (n_v vs 6)) (v_iv (Value.int x)) k3 ex2
  have nf1 : fc_1 PRD (23, [13, 3], [0, -1, 1]) ws (vs ++ [Value.int x]) := by
    refine ⟨nf_inA hl rfl, sgq_22 ?_⟩
    · show (-1) * v_iv (n_v (vs ++ [Value.int x]) 13) + (1 * v_iv (n_v (vs ++ [Value.int x]) 3) + 0) ≤ 0
      simp only [e_3, e_13]
      exact vc_Mo_tree_19_1 (v_iv (n_v vs 3)) (v_iv (n_v vs 6)) (v_iv (Value.int x)) k3 ex2
  have nf2 : fc_1 PRD (20, [0], [50, 1, 3, 5, 2, 128, 127, 5, 2, 0, 24, 4, 14, 0, 6, 4, 2, 7, 0, 0, 1, 3, 0, 2, 2, 0, 5, 2, 9, 0, 2, 0, -1, 3, 0, 128, 7, 0, 2, 9, 0, 5, 3, 0, 128, 7, 0, 0, 24, 4, 9, 0, 2, 0, 0, 3, 0, 127, 7, 0, 2, 17, 0, 9, 4, 5, 3, 0, 127, 7, 0, 0, 1, 3, 0, 2, 2, 0, 5, 2, 12, 0, 2, 0, 0, 3, 0, 128, 3, 0, 127, 7, 0, 0, 12, 4, 8, 3, 0, 128, 3, 0, 127, 7, 0, 0, 1, 3, 0, 128, 7, 0]) ws (vs ++ [Value.int x]) := by
    refine ⟨nf_inA hl rfl, sgq_601 ?_⟩
    · show ∀ j0 : Int, 0 ≤ j0 → j0 < 24 → (((j0 + 1) ≤ w_ei ws (w_ar ws (n_v (vs ++ [Value.int x]) 0) 2) (w_fi ws (n_v (vs ++ [Value.int x]) 0) 5)) → (((-1) ≤ w_ei ws (w_ar ws (n_v (vs ++ [Value.int x]) 0) 128) (j0)) ∧ ((w_ei ws (w_ar ws (n_v (vs ++ [Value.int x]) 0) 128) (j0) ≤ 24) ∧ ((0 ≤ w_ei ws (w_ar ws (n_v (vs ++ [Value.int x]) 0) 127) (j0)) → (((w_ei ws (w_ar ws (n_v (vs ++ [Value.int x]) 0) 127) (j0) + 1) ≤ w_ei ws (w_ar ws (n_v (vs ++ [Value.int x]) 0) 2) (w_fi ws (n_v (vs ++ [Value.int x]) 0) 5)) ∧ ((0 ≤ w_ei ws (w_ar ws (n_v (vs ++ [Value.int x]) 0) 128) (w_ei ws (w_ar ws (n_v (vs ++ [Value.int x]) 0) 127) (j0))) ∧ ((w_ei ws (w_ar ws (n_v (vs ++ [Value.int x]) 0) 128) (w_ei ws (w_ar ws (n_v (vs ++ [Value.int x]) 0) 127) (j0)) + 1) ≤ w_ei ws (w_ar ws (n_v (vs ++ [Value.int x]) 0) 128) (j0))))))))
      rw [e_0]
      exact vc_Mo_tree_19_2 (v_iv (n_v vs 6)) (w_ei ws (w_ar ws (n_v vs 0) 128)) (w_ei ws (w_ar ws (n_v vs 0) 2)) (w_fi ws (n_v vs 0) 5) (w_ei ws (w_ar ws (n_v vs 0) 127)) f13
  have nf3 : fc_1 PRD (20, [9, 0], [30, -1, 1, 0, 0, -1, 3, 2005000]) ws (vs ++ [Value.int x]) := by
    refine ⟨nf_inA hl rfl, sgq_269 ?_⟩
    · show 1 * v_iv (n_v (vs ++ [Value.int x]) 9) + ((-1) * w_el ws (w_ar ws (n_v (vs ++ [Value.int x]) 0) 2) (w_fi ws (n_v (vs ++ [Value.int x]) 0) 5 + 0).toNat + 0) ≤ (-1)
      simp only [e_0, e_9]
      exact vc_Mo_tree_19_3 (v_iv (n_v vs 6)) (v_iv (n_v vs 7)) (v_iv (n_v vs 9)) (w_ei ws (w_ar ws (n_v vs 0) 2)) (w_fi ws (n_v vs 0) 5) k6 k7 k9 d1 f5 f8 f9 f10
  have nf4 : fc_1 PRD (20, [8, 0], [30, -1, 1, 0, 0, -1, 3, 2005000]) ws (vs ++ [Value.int x]) := by
    refine ⟨nf_inA hl rfl, sgq_269 ?_⟩
    · show 1 * v_iv (n_v (vs ++ [Value.int x]) 8) + ((-1) * w_el ws (w_ar ws (n_v (vs ++ [Value.int x]) 0) 2) (w_fi ws (n_v (vs ++ [Value.int x]) 0) 5 + 0).toNat + 0) ≤ (-1)
      simp only [e_0, e_8]
      exact vc_Mo_tree_19_4 (v_iv (n_v vs 6)) (v_iv (n_v vs 7)) (v_iv (n_v vs 8)) (w_ei ws (w_ar ws (n_v vs 0) 2)) (w_fi ws (n_v vs 0) 5) k6 k7 k8 d1 f6 f8 f9 f10
  have nf5 : fc_1 PRD (20, [0, 8, 9], [50, 0, 1, 128, 2, 9, 0, 2, 0, 0, 3, 0, 128, 1, 1, 2, 9, 0, 5, 3, 0, 128, 1, 1, 0, 23, 0, 5, 3, 0, 128, 1, 2, 0, -1]) ws (vs ++ [Value.int x]) := by
    refine ⟨nf_inA hl rfl, sgq_599 ?_⟩
    · show (0 ≤ w_ei ws (w_ar ws (n_v (vs ++ [Value.int x]) 0) 128) (v_iv (n_v (vs ++ [Value.int x]) 8))) ∧ ((w_ei ws (w_ar ws (n_v (vs ++ [Value.int x]) 0) 128) (v_iv (n_v (vs ++ [Value.int x]) 8)) ≤ 23) ∧ (w_ei ws (w_ar ws (n_v (vs ++ [Value.int x]) 0) 128) (v_iv (n_v (vs ++ [Value.int x]) 9)) ≤ (-1)))
      simp only [e_0, e_8, e_9]
      exact vc_Mo_tree_19_5 (v_iv (n_v vs 6)) (v_iv (n_v vs 8)) (v_iv (n_v vs 9)) (v_iv (n_v vs 11)) (v_iv (n_v vs 12)) (w_ei ws (w_ar ws (n_v vs 0) 128)) k8 k9 k11 k12 h1 h4
  have nf6 : fc_1 PRD (20, [0, 13], [60, 1, 5, 813, 5, 2, 127, 128, 16, 129]) ws (vs ++ [Value.int x]) := by
    refine ⟨nf_inA hl rfl, sgq_602 ?_⟩
    · show BFS (w_fi ws (n_v (vs ++ [Value.int x]) 0) 5) (w_ei ws (w_ar ws (n_v (vs ++ [Value.int x]) 0) 2)) (w_ei ws (w_ar ws (n_v (vs ++ [Value.int x]) 0) 127)) (w_ei ws (w_ar ws (n_v (vs ++ [Value.int x]) 0) 128)) (w_ei ws (w_ar ws (n_v (vs ++ [Value.int x]) 0) 16)) (w_ei ws (w_ar ws (n_v (vs ++ [Value.int x]) 0) 129)) (v_iv (n_v (vs ++ [Value.int x]) 13))
      simp only [e_0, e_13]
      exact vc_Mo_tree_19_6 (v_iv (n_v vs 2)) (v_iv (n_v vs 3)) (w_ei ws (w_ar ws (n_v vs 0) 128)) (w_ei ws (w_ar ws (n_v vs 0) 2)) (w_fi ws (n_v vs 0) 5) (w_ei ws (w_ar ws (n_v vs 0) 129)) (w_ei ws (w_ar ws (n_v vs 0) 127)) (w_ei ws (w_ar ws (n_v vs 0) 16)) (v_iv (Value.int x)) k3 f15 ex2
  exact ⟨(fun _ h => (by cases h)), [Value.int x], ag_one hx, List.forall_mem_cons.mpr ⟨⟨show (23 : Nat) < 100 from by decide, nf0⟩, List.forall_mem_cons.mpr ⟨⟨show (23 : Nat) < 100 from by decide, nf1⟩, List.forall_mem_cons.mpr ⟨⟨show (20 : Nat) < 100 from by decide, nf2⟩, List.forall_mem_cons.mpr ⟨⟨show (20 : Nat) < 100 from by decide, nf3⟩, List.forall_mem_cons.mpr ⟨⟨show (20 : Nat) < 100 from by decide, nf4⟩, List.forall_mem_cons.mpr ⟨⟨show (20 : Nat) < 100 from by decide, nf5⟩, List.forall_mem_cons.mpr ⟨⟨show (20 : Nat) < 100 from by decide, nf6⟩, (fun _ h => (by cases h))⟩⟩⟩⟩⟩⟩⟩, (fun _ h => (by cases h))⟩
set_option maxHeartbeats 4000000 in
theorem vc_Mo_tree_20_0 (x2 : Int) (x3 : Int) (x13 : Int) (x14 : Int) (all_0 : Int → Int) (r_0 : Int) (root_0 : Int → Int) (level_0 : Int → Int) (above_0 : Int → Int) (partOf_0 : Int → Int) (k3 : 0 ≤ x3 ∧ x3 ≤ 24) (k13 : 0 ≤ x13 ∧ x13 ≤ 24) (f1 : 1 * x13 + ((-1) * x3 + 0) ≤ 0) (f2 : (-1) * x13 + (1 * x3 + 0) ≤ 0) (f15 : BFS (r_0) (all_0) (above_0) (level_0) (partOf_0) (root_0) (x13)) : BFS (r_0) (all_0) (above_0) (level_0) (partOf_0) (root_0) (x3) := by
  try simp only [Int.add_zero] at *
  first
    | assumption
    | (rw [show x3 = x14 by omega]; assumption)
    | (rw [show x3 = x15 by omega]; assumption)
    | (rw [show x3 = x13 by omega]; assumption)
    | (rw [show gx = x3 by omega]; assumption)
    | (rw [show x3 = x4 by omega]; exact bfs_start (n := x2) ‹LVZ _ _ _ _ _› (fun q a b => ‹RTPT _ _ _› q a (by omega)) (fun q a b => ‹RTK _ _ _› q a (by omega)) ‹ABI _ _ _› (by omega) (by omega) (by omega))
  
def o_Mo_tree_20 : or_T := (204, 15, [(3, (0, 0, 24, [])), (13, (0, 0, 24, []))], [(23, [13, 3], [0, 1, -1]), (23, [13, 3], [0, -1, 1]), (20, [0, 13], [60, 1, 5, 813, 5, 2, 127, 128, 16, 129])], [], [], [(20, [0, 3], [60, 1, 5, 813, 5, 2, 127, 128, 16, 129])], [], [])
theorem oo_Mo_tree_20 {kA : Nat → ClassId} : or_ok PRD kA GG o_Mo_tree_20 := by
  refine or_mk fun A ta ws vs hD hth hl => ?_
  intro t3 k3 t13 k13 f1 f2 f15
  have nf0 : fc_1 PRD (20, [0, 3], [60, 1, 5, 813, 5, 2, 127, 128, 16, 129]) ws (vs) := ⟨nf_in hl rfl, sgq_602 (vc_Mo_tree_20_0 (v_iv (n_v vs 2)) (v_iv (n_v vs 3)) (v_iv (n_v vs 13)) (v_iv (n_v vs 14)) (w_ei ws (w_ar ws (n_v vs 0) 2)) (w_fi ws (n_v vs 0) 5) (w_ei ws (w_ar ws (n_v vs 0) 129)) (w_ei ws (w_ar ws (n_v vs 0) 128)) (w_ei ws (w_ar ws (n_v vs 0) 127)) (w_ei ws (w_ar ws (n_v vs 0) 16)) k3 k13 (shm_7 f1) (shm_22 f2) (shm_602 f15))⟩
  refine ⟨(fun _ h => (by cases h)), [], trivial, ?_, (fun _ h => (by cases h))⟩
  rw [List.append_nil]
  exact List.forall_mem_cons.mpr ⟨⟨show (20 : Nat) < 100 from by decide, nf0⟩, (fun _ h => (by cases h))⟩
set_option maxHeartbeats 4000000 in
theorem vc_Mo_tree_21_0 (x2 : Int) (x4 : Int) (all_0 : Int → Int) (level_0 : Int → Int) (above_0 : Int → Int) (r_0 : Int) (nx_0 : Int → Int) (k2 : 0 ≤ x2 ∧ x2 ≤ 24) (k4 : 0 ≤ x4 ∧ x4 ≤ 24) (f4 : x2 = all_0 (r_0)) (f5 : NX0 (nx_0) (x2)) : TL3 (r_0) (all_0) (nx_0) (above_0) (level_0) (x4) := by
  first
    | exact tl3_start ‹NX0 _ _› (by omega)
    | exact tl3_next ‹TL7 _ _ _ _ _ _ _› (by omega)
  
def o_Mo_tree_21 : or_T := (337, 6, [(2, (0, 0, 24, [])), (4, (0, 0, 24, []))], [(20, [2, 0], [50, 1, 1, 1005, 1002, 1, 2, 1, 0, 3, 1, 2, 2, 1, 5]), (20, [0, 2], [60, 0, 1, 817, 74])], [], [], [(20, [0, 4], [60, 1, 4, 815, 5, 2, 74, 127, 128])], [], [])
theorem oo_Mo_tree_21 {kA : Nat → ClassId} : or_ok PRD kA GG o_Mo_tree_21 := by
  refine or_mk fun A ta ws vs hD hth hl => ?_
  intro t2 k2 t4 k4 f4 f5
  have nf0 : fc_1 PRD (20, [0, 4], [60, 1, 4, 815, 5, 2, 74, 127, 128]) ws (vs) := ⟨nf_in hl rfl, sgq_1959 (vc_Mo_tree_21_0 (v_iv (n_v vs 2)) (v_iv (n_v vs 4)) (w_ei ws (w_ar ws (n_v vs 0) 2)) (w_ei ws (w_ar ws (n_v vs 0) 128)) (w_ei ws (w_ar ws (n_v vs 0) 127)) (w_fi ws (n_v vs 0) 5) (w_ei ws (w_ar ws (n_v vs 0) 74)) k2 k4 (shm_1581 f4) (shm_1953 f5))⟩
  refine ⟨(fun _ h => (by cases h)), [], trivial, ?_, (fun _ h => (by cases h))⟩
  rw [List.append_nil]
  exact List.forall_mem_cons.mpr ⟨⟨show (20 : Nat) < 100 from by decide, nf0⟩, (fun _ h => (by cases h))⟩
set_option maxHeartbeats 4000000 in
theorem vc_Mo_tree_22_0 (x5 : Int) (x6 : Int) (all_0 : Int → Int) (level_0 : Int → Int) (above_0 : Int → Int) (r_0 : Int) (nx_0 : Int → Int) (k5 : (-1) ≤ x5 ∧ x5 ≤ (-1)) (k6 : 1 ≤ x6 ∧ x6 ≤ 1) (f5 : TL3 (r_0) (all_0) (nx_0) (above_0) (level_0) (x5)) : TLR (r_0) (all_0) (nx_0) (above_0) (x6) := by
  first
    | exact tlr_start ‹TL3 _ _ _ _ _ _› (by omega)
    | exact tlr_next (p := x5) ‹TRZ _ _ _ _ _ _ _ _ _› ‹BFS _ _ _ _ _ _ _› (by omega) (by omega) (by assumption) (by omega)
  
set_option maxHeartbeats 4000000 in
theorem vc_Mo_tree_22_1 (x3 : Int) (x6 : Int) (k3 : 0 ≤ x3 ∧ x3 ≤ 24) (k6 : 1 ≤ x6 ∧ x6 ≤ 1) : (x6 ≤ x3) ∨ (x6 ≤ 1) := by
  first
    | omega
    | assumption
    | (simp only [Int.add_zero] at *; omega)
  
def o_Mo_tree_22 : or_T := (384, 7, [(3, (0, 0, 24, [])), (5, (0, -1, -1, [])), (6, (0, 1, 1, []))], [(20, [0, 5], [60, 1, 4, 815, 5, 2, 74, 127, 128])], [], [], [(20, [0, 6], [60, 1, 3, 816, 5, 2, 74, 127]), (20, [6, 3], [50, 0, 0, 3, 6, 0, 2, 1, 0, 1, 1, 0, 2, 1, 0, 0, 1])], [], [])
theorem oo_Mo_tree_22 {kA : Nat → ClassId} : or_ok PRD kA GG o_Mo_tree_22 := by
  refine or_mk fun A ta ws vs hD hth hl => ?_
  intro t3 k3 t5 k5 t6 k6 f5
  have nf0 : fc_1 PRD (20, [0, 6], [60, 1, 3, 816, 5, 2, 74, 127]) ws (vs) := ⟨nf_in hl rfl, sgq_1960 (vc_Mo_tree_22_0 (v_iv (n_v vs 5)) (v_iv (n_v vs 6)) (w_ei ws (w_ar ws (n_v vs 0) 2)) (w_ei ws (w_ar ws (n_v vs 0) 128)) (w_ei ws (w_ar ws (n_v vs 0) 127)) (w_fi ws (n_v vs 0) 5) (w_ei ws (w_ar ws (n_v vs 0) 74)) k5 k6 (shm_1959 f5))⟩
  have nf1 : fc_1 PRD (20, [6, 3], [50, 0, 0, 3, 6, 0, 2, 1, 0, 1, 1, 0, 2, 1, 0, 0, 1]) ws (vs) := ⟨nf_in hl rfl, sgq_1110 (vc_Mo_tree_22_1 (v_iv (n_v vs 3)) (v_iv (n_v vs 6)) k3 k6)⟩
  refine ⟨(fun _ h => (by cases h)), [], trivial, ?_, (fun _ h => (by cases h))⟩
  rw [List.append_nil]
  exact List.forall_mem_cons.mpr ⟨⟨show (20 : Nat) < 100 from by decide, nf0⟩, List.forall_mem_cons.mpr ⟨⟨show (20 : Nat) < 100 from by decide, nf1⟩, (fun _ h => (by cases h))⟩⟩
set_option maxHeartbeats 4000000 in
theorem vc_Mo_tree_23_0 (x5 : Int) (x6 : Int) (all_0 : Int → Int) (level_0 : Int → Int) (above_0 : Int → Int) (r_0 : Int) (nx_0 : Int → Int) (k5 : 0 ≤ x5 ∧ x5 ≤ 24) (k6 : 0 ≤ x6 ∧ x6 ≤ 0) (f5 : TL3 (r_0) (all_0) (nx_0) (above_0) (level_0) (x5)) : TL7 (r_0) (all_0) (nx_0) (above_0) (level_0) (x5) (x6) := by
  first
    | exact tl7_start ‹TL3 _ _ _ _ _ _› (by omega)
    | exact tl7_chb ‹CHB _ _ _ _ _ _› (by omega) (by omega)
    | exact tl7_skip ‹TL7 _ _ _ _ _ _ _› (by omega)
  
def o_Mo_tree_23 : or_T := (345, 7, [(5, (0, 0, 24, [])), (6, (0, 0, 0, []))], [(20, [0, 5], [60, 1, 4, 815, 5, 2, 74, 127, 128])], [], [], [(20, [0, 5, 6], [60, 1, 4, 814, 5, 2, 74, 127, 128])], [], [])
theorem oo_Mo_tree_23 {kA : Nat → ClassId} : or_ok PRD kA GG o_Mo_tree_23 := by
  refine or_mk fun A ta ws vs hD hth hl => ?_
  intro t5 k5 t6 k6 f5
  have nf0 : fc_1 PRD (20, [0, 5, 6], [60, 1, 4, 814, 5, 2, 74, 127, 128]) ws (vs) := ⟨nf_in hl rfl, sgq_1961 (vc_Mo_tree_23_0 (v_iv (n_v vs 5)) (v_iv (n_v vs 6)) (w_ei ws (w_ar ws (n_v vs 0) 2)) (w_ei ws (w_ar ws (n_v vs 0) 128)) (w_ei ws (w_ar ws (n_v vs 0) 127)) (w_fi ws (n_v vs 0) 5) (w_ei ws (w_ar ws (n_v vs 0) 74)) k5 k6 (shm_1959 f5))⟩
  refine ⟨(fun _ h => (by cases h)), [], trivial, ?_, (fun _ h => (by cases h))⟩
  rw [List.append_nil]
  exact List.forall_mem_cons.mpr ⟨⟨show (20 : Nat) < 100 from by decide, nf0⟩, (fun _ h => (by cases h))⟩
set_option maxHeartbeats 4000000 in
theorem vc_Mo_tree_24_0 (x5 : Int) (x6 : Int) (x7 : Int) (all_0 : Int → Int) (level_0 : Int → Int) (above_0 : Int → Int) (r_0 : Int) (nx_0 : Int → Int) (k5 : 0 ≤ x5 ∧ x5 ≤ 24) (k6 : 0 ≤ x6 ∧ x6 ≤ 24) (k7 : (-1) ≤ x7 ∧ x7 ≤ 23) (d0 : x5 + (-1) ≤ x7 ∧ x7 ≤ x5 + (-1)) (f6 : TL7 (r_0) (all_0) (nx_0) (above_0) (level_0) (x5) (x6)) : TL3 (r_0) (all_0) (nx_0) (above_0) (level_0) (x7) := by
  first
    | exact tl3_start ‹NX0 _ _› (by omega)
    | exact tl3_next ‹TL7 _ _ _ _ _ _ _› (by omega)
  
def o_Mo_tree_24 : or_T := (337, 8, [(5, (0, 0, 24, [])), (6, (0, 0, 24, [])), (7, (0, -1, 23, []))], [(20, [0, 5, 6], [60, 1, 4, 814, 5, 2, 74, 127, 128])], [], [], [(20, [0, 7], [60, 1, 4, 815, 5, 2, 74, 127, 128])], [], [(7, 5, -1, -1)])
theorem oo_Mo_tree_24 {kA : Nat → ClassId} : or_ok PRD kA GG o_Mo_tree_24 := by
  refine or_mk fun A ta ws vs hD hth hl => ?_
  intro t5 k5 t6 k6 t7 k7 d0 f6
  have nf0 : fc_1 PRD (20, [0, 7], [60, 1, 4, 815, 5, 2, 74, 127, 128]) ws (vs) := ⟨nf_in hl rfl, sgq_1959 (vc_Mo_tree_24_0 (v_iv (n_v vs 5)) (v_iv (n_v vs 6)) (v_iv (n_v vs 7)) (w_ei ws (w_ar ws (n_v vs 0) 2)) (w_ei ws (w_ar ws (n_v vs 0) 128)) (w_ei ws (w_ar ws (n_v vs 0) 127)) (w_fi ws (n_v vs 0) 5) (w_ei ws (w_ar ws (n_v vs 0) 74)) k5 k6 k7 d0 (shm_1961 f6))⟩
  refine ⟨(fun _ h => (by cases h)), [], trivial, ?_, (fun _ h => (by cases h))⟩
  rw [List.append_nil]
  exact List.forall_mem_cons.mpr ⟨⟨show (20 : Nat) < 100 from by decide, nf0⟩, (fun _ h => (by cases h))⟩
set_option maxHeartbeats 4000000 in
theorem vc_Mo_tree_25_0 (x5 : Int) (x6 : Int) (x9 : Int) (level_0 : Int → Int) (all_0 : Int → Int) (above_0 : Int → Int) (r_0 : Int) (nx_0 : Int → Int) (k5 : 0 ≤ x5 ∧ x5 ≤ 24) (k6 : 0 ≤ x6 ∧ x6 ≤ 23) (k9 : 1 ≤ x9 ∧ x9 ≤ 24) (d0 : x6 + 1 ≤ x9 ∧ x9 ≤ x6 + 1) (f9 : TL7 (r_0) (all_0) (nx_0) (above_0) (level_0) (x5) (x6)) : TL7 (r_0) (all_0) (nx_0) (above_0) (level_0) (x5) (x9) := by
  first
    | exact tl7_start ‹TL3 _ _ _ _ _ _› (by omega)
    | exact tl7_chb ‹CHB _ _ _ _ _ _› (by omega) (by omega)
    | exact tl7_skip ‹TL7 _ _ _ _ _ _ _› (by omega)
  
def o_Mo_tree_25 : or_T := (345, 10, [(0, (2, 0, 0, [165])), (2, (0, 1, 24, [])), (3, (0, 0, 24, [])), (5, (0, 0, 24, [])), (6, (0, 0, 23, [])), (7, (2, 0, 0, [258])), (8, (0, -23, 24, [])), (9, (0, 1, 24, []))], [(6, [9, 6], [1]), (7, [8, 5], [1]), (10, [8, 7, 6], []), (9, [7, 0], [128]), (7, [6, 2], [2]), (20, [0, 2, 3], [60, 0, 1, 376, 129]), (20, [0], [50, 1, 3, 5, 2, 128, 127, 5, 2, 0, 24, 4, 14, 0, 6, 4, 2, 7, 0, 0, 1, 3, 0, 2, 2, 0, 5, 2, 9, 0, 2, 0, -1, 3, 0, 128, 7, 0, 2, 9, 0, 5, 3, 0, 128, 7, 0, 0, 24, 4, 9, 0, 2, 0, 0, 3, 0, 127, 7, 0, 2, 17, 0, 9, 4, 5, 3, 0, 127, 7, 0, 0, 1, 3, 0, 2, 2, 0, 5, 2, 12, 0, 2, 0, 0, 3, 0, 128, 3, 0, 127, 7, 0, 0, 12, 4, 8, 3, 0, 128, 3, 0, 127, 7, 0, 0, 1, 3, 0, 128, 7, 0]), (20, [0, 3], [60, 1, 5, 813, 5, 2, 127, 128, 16, 129]), (20, [2, 0], [50, 1, 1, 1005, 1002, 1, 2, 1, 0, 3, 1, 2, 2, 1, 5]), (20, [0, 5, 6], [60, 1, 4, 814, 5, 2, 74, 127, 128])], [], [], [(20, [0, 5, 9], [60, 1, 4, 814, 5, 2, 74, 127, 128])], [], [(9, 6, 1, 1), (9, 2, -4294967296, 0), (9, 2, -4294967296, 1), (6, 2, -4294967296, -1), (6, 2, -4294967296, 0)])
theorem oo_Mo_tree_25 {kA : Nat → ClassId} : or_ok PRD kA GG o_Mo_tree_25 := by
  refine or_mk fun A ta ws vs hD hth hl => ?_
  intro t0 r0 t2 k2 t3 k3 t5 k5 t6 k6 t7 r7 t8 k8 t9 k9 d0 d1 d2 d3 d4 f0 f1 f2 f3 f4 f5 f6 f7 f8 f9
  have nf0 : fc_1 PRD (20, [0, 5, 9], [60, 1, 4, 814, 5, 2, 74, 127, 128]) ws (vs) := ⟨nf_in hl rfl, sgq_1961 (vc_Mo_tree_25_0 (v_iv (n_v vs 5)) (v_iv (n_v vs 6)) (v_iv (n_v vs 9)) (w_ei ws (w_ar ws (n_v vs 0) 128)) (w_ei ws (w_ar ws (n_v vs 0) 2)) (w_ei ws (w_ar ws (n_v vs 0) 127)) (w_fi ws (n_v vs 0) 5) (w_ei ws (w_ar ws (n_v vs 0) 74)) k5 k6 k9 d0 (shm_1961 f9))⟩
  refine ⟨(fun _ h => (by cases h)), [], trivial, ?_, (fun _ h => (by cases h))⟩
  rw [List.append_nil]
  exact List.forall_mem_cons.mpr ⟨⟨show (20 : Nat) < 100 from by decide, nf0⟩, (fun _ h => (by cases h))⟩
set_option maxHeartbeats 4000000 in
theorem vc_Mo_tree_26_0 (x5 : Int) (x6 : Int) (x8 : Int) (level_0 : Int → Int) (k5 : 0 ≤ x5 ∧ x5 ≤ 24) (k6 : 0 ≤ x6 ∧ x6 ≤ 23) (k8 : 0 ≤ x8 ∧ x8 ≤ 24) (d0 : x5 + 0 ≤ x8 ∧ x8 ≤ x5 + 0) (h1 : x8 = level_0 (x6)) : level_0 (x6) = x5 := by
  first
    | omega
    | assumption
    | (simp only [Int.add_zero] at *; omega)
  
set_option maxHeartbeats 4000000 in
theorem vc_Mo_tree_26_1 (x2 : Int) (x3 : Int) (x5 : Int) (x6 : Int) (x8 : Int) (level_0 : Int → Int) (root_0 : Int → Int) (all_0 : Int → Int) (above_0 : Int → Int) (r_0 : Int) (partOf_0 : Int → Int) (nx_0 : Int → Int) (k2 : 1 ≤ x2 ∧ x2 ≤ 24) (k3 : 0 ≤ x3 ∧ x3 ≤ 24) (k5 : 0 ≤ x5 ∧ x5 ≤ 24) (k6 : 0 ≤ x6 ∧ x6 ≤ 23) (k8 : 0 ≤ x8 ∧ x8 ≤ 24) (d0 : x5 + 0 ≤ x8 ∧ x8 ≤ x5 + 0) (d1 : x2 + (-4294967296) ≤ x6 ∧ x6 ≤ x2 + (-1)) (h1 : x8 = level_0 (x6)) (f6 : BFS (r_0) (all_0) (above_0) (level_0) (partOf_0) (root_0) (x3)) (f7 : x2 = all_0 (r_0)) (f8 : TL7 (r_0) (all_0) (nx_0) (above_0) (level_0) (x5) (x6)) : CHA (r_0) (all_0) (nx_0) (above_0) (level_0) (x6) := by
  exact tl7_cha ‹TL7 _ _ _ _ _ _ _› ‹BFS _ _ _ _ _ _ _› (by omega) (by omega) (by omega) (by omega)
def o_Mo_tree_26 : or_T := (366, 9, [(2, (0, 1, 24, [])), (3, (0, 0, 24, [])), (5, (0, 0, 24, [])), (6, (0, 0, 23, [])), (8, (0, 0, 24, []))], [(10, [8, 7, 6], []), (9, [7, 0], [128]), (20, [0, 3], [60, 1, 5, 813, 5, 2, 127, 128, 16, 129]), (20, [2, 0], [50, 1, 1, 1005, 1002, 1, 2, 1, 0, 3, 1, 2, 2, 1, 5]), (20, [0, 5, 6], [60, 1, 4, 814, 5, 2, 74, 127, 128])], [], [], [(20, [0, 6, 5], [50, 0, 1, 128, 1, 5, 3, 0, 128, 1, 1, 1, 2]), (20, [0, 6], [60, 1, 4, 806, 5, 2, 74, 127, 128])], [], [(8, 5, 0, 0), (6, 2, -4294967296, -1)])
theorem oo_Mo_tree_26 {kA : Nat → ClassId} : or_ok PRD kA GG o_Mo_tree_26 := by
  refine or_mk fun A ta ws vs hD hth hl => ?_
  intro t2 k2 t3 k3 t5 k5 t6 k6 t8 k8 d0 d1 f1 f2 f6 f7 f8
  replace f1 := shm_107 f1
  replace f2 := shm_598 f2
  have ad_7 : v_ad (n_v vs 7) = w_ar ws (n_v vs 0) 128 := congrArg v_ad f2
  simp only [ad_7] at f1
  have h1 : v_iv (n_v vs 8) = w_ei ws (w_ar ws (n_v vs 0) 128) (v_iv (n_v vs 6)) := f1
  have nf0 : fc_1 PRD (20, [0, 6, 5], [50, 0, 1, 128, 1, 5, 3, 0, 128, 1, 1, 1, 2]) ws (vs) := ⟨nf_in hl rfl, sgq_1962 (vc_Mo_tree_26_0 (v_iv (n_v vs 5)) (v_iv (n_v vs 6)) (v_iv (n_v vs 8)) (w_ei ws (w_ar ws (n_v vs 0) 128)) k5 k6 k8 d0 h1)⟩
  have nf1 : fc_1 PRD (20, [0, 6], [60, 1, 4, 806, 5, 2, 74, 127, 128]) ws (vs) := ⟨nf_in hl rfl, sgq_1692 (vc_Mo_tree_26_1 (v_iv (n_v vs 2)) (v_iv (n_v vs 3)) (v_iv (n_v vs 5)) (v_iv (n_v vs 6)) (v_iv (n_v vs 8)) (w_ei ws (w_ar ws (n_v vs 0) 128)) (w_ei ws (w_ar ws (n_v vs 0) 129)) (w_ei ws (w_ar ws (n_v vs 0) 2)) (w_ei ws (w_ar ws (n_v vs 0) 127)) (w_fi ws (n_v vs 0) 5) (w_ei ws (w_ar ws (n_v vs 0) 16)) (w_ei ws (w_ar ws (n_v vs 0) 74)) k2 k3 k5 k6 k8 d0 d1 h1 (shm_602 f6) (shm_1581 f7) (shm_1961 f8))⟩
  refine ⟨(fun _ h => (by cases h)), [], trivial, ?_, (fun _ h => (by cases h))⟩
  rw [List.append_nil]
  exact List.forall_mem_cons.mpr ⟨⟨show (20 : Nat) < 100 from by decide, nf0⟩, List.forall_mem_cons.mpr ⟨⟨show (20 : Nat) < 100 from by decide, nf1⟩, (fun _ h => (by cases h))⟩⟩
set_option maxHeartbeats 4000000 in
theorem vc_Mo_tree_27_0 (x5 : Int) (x6 : Int) (x9 : Int) (level_0 : Int → Int) (all_0 : Int → Int) (above_0 : Int → Int) (r_0 : Int) (nx_0 : Int → Int) (k5 : 0 ≤ x5 ∧ x5 ≤ 24) (k6 : 0 ≤ x6 ∧ x6 ≤ 23) (k9 : 1 ≤ x9 ∧ x9 ≤ 24) (f0 : x9 = x6 + 1) (f1 : level_0 (x6) = x5) (f6 : CHB (r_0) (all_0) (nx_0) (above_0) (level_0) (x6)) : TL7 (r_0) (all_0) (nx_0) (above_0) (level_0) (x5) (x9) := by
  first
    | exact tl7_start ‹TL3 _ _ _ _ _ _› (by omega)
    | exact tl7_chb ‹CHB _ _ _ _ _ _› (by omega) (by omega)
    | exact tl7_skip ‹TL7 _ _ _ _ _ _ _› (by omega)
  
def o_Mo_tree_27 : or_T := (345, 10, [(0, (2, 0, 0, [165])), (2, (0, 1, 24, [])), (3, (0, 0, 24, [])), (5, (0, 0, 24, [])), (6, (0, 0, 23, [])), (8, (0, 0, 24, [])), (9, (0, 1, 24, []))], [(6, [9, 6], [1]), (20, [0, 6, 5], [50, 0, 1, 128, 1, 5, 3, 0, 128, 1, 1, 1, 2]), (20, [0, 2, 3], [60, 0, 1, 376, 129]), (20, [0, 3], [60, 1, 5, 813, 5, 2, 127, 128, 16, 129]), (20, [2, 0], [50, 1, 1, 1005, 1002, 1, 2, 1, 0, 3, 1, 2, 2, 1, 5]), (20, [0], [50, 1, 3, 5, 2, 128, 127, 5, 2, 0, 24, 4, 14, 0, 6, 4, 2, 7, 0, 0, 1, 3, 0, 2, 2, 0, 5, 2, 9, 0, 2, 0, -1, 3, 0, 128, 7, 0, 2, 9, 0, 5, 3, 0, 128, 7, 0, 0, 24, 4, 9, 0, 2, 0, 0, 3, 0, 127, 7, 0, 2, 17, 0, 9, 4, 5, 3, 0, 127, 7, 0, 0, 1, 3, 0, 2, 2, 0, 5, 2, 12, 0, 2, 0, 0, 3, 0, 128, 3, 0, 127, 7, 0, 0, 12, 4, 8, 3, 0, 128, 3, 0, 127, 7, 0, 0, 1, 3, 0, 128, 7, 0]), (20, [0, 6], [60, 1, 4, 807, 5, 2, 74, 127, 128]), (102, [8], [26328072917139296674479506920917608079723773850137277813577744384]), (7, [8, 5], [0]), (7, [6, 2], [2])], [], [], [(20, [0, 5, 9], [60, 1, 4, 814, 5, 2, 74, 127, 128])], [], [(9, 6, 1, 1), (9, 2, -4294967296, 0), (9, 2, -4294967296, 1), (8, 5, 0, 0), (6, 2, -4294967296, -1), (6, 2, -4294967296, 0)])
theorem oo_Mo_tree_27 {kA : Nat → ClassId} : or_ok PRD kA GG o_Mo_tree_27 := by
  refine or_mk fun A ta ws vs hD hth hl => ?_
  intro t0 r0 t2 k2 t3 k3 t5 k5 t6 k6 t8 k8 t9 k9 d0 d1 d2 d3 d4 d5 f0 f1 f2 f3 f4 f5 f6 ta1 w1 le1 s1 f8 f9
  have nf0 : fc_1 PRD (20, [0, 5, 9], [60, 1, 4, 814, 5, 2, 74, 127, 128]) ws (vs) := ⟨nf_in hl rfl, sgq_1961 (vc_Mo_tree_27_0 (v_iv (n_v vs 5)) (v_iv (n_v vs 6)) (v_iv (n_v vs 9)) (w_ei ws (w_ar ws (n_v vs 0) 128)) (w_ei ws (w_ar ws (n_v vs 0) 2)) (w_ei ws (w_ar ws (n_v vs 0) 127)) (w_fi ws (n_v vs 0) 5) (w_ei ws (w_ar ws (n_v vs 0) 74)) k5 k6 k9 (shm_4 f0) (shm_1962 f1) (shm_1694 f6))⟩
  refine ⟨(fun _ h => (by cases h)), [], trivial, ?_, (fun _ h => (by cases h))⟩
  rw [List.append_nil]
  exact List.forall_mem_cons.mpr ⟨⟨show (20 : Nat) < 100 from by decide, nf0⟩, (fun _ h => (by cases h))⟩
set_option maxHeartbeats 4000000 in
theorem vc_Mo_tree_28_0 (x2 : Int) (x3 : Int) (x5 : Int) (root_0 : Int → Int) (all_0 : Int → Int) (level_0 : Int → Int) (above_0 : Int → Int) (r_0 : Int) (partOf_0 : Int → Int) (nx_0 : Int → Int) (k2 : 0 ≤ x2 ∧ x2 ≤ 24) (k3 : 0 ≤ x3 ∧ x3 ≤ 24) (k5 : 1 ≤ x5 ∧ x5 ≤ 24) (f3 : BFS (r_0) (all_0) (above_0) (level_0) (partOf_0) (root_0) (x3)) (f4 : x2 = all_0 (r_0)) (f5 : TLR (r_0) (all_0) (nx_0) (above_0) (x5)) (f6 : (x5 ≤ x3) ∨ (x5 ≤ 1)) : TNB (nx_0) (x2) := by
  first
    | assumption
    | exact tnd_of ‹TLR _ _ _ _ _› ‹BFS _ _ _ _ _ _ _› (by omega) (by omega) (by omega)
  
set_option maxHeartbeats 4000000 in
theorem vc_Mo_tree_28_1 (x6 : Int) (k6 : 1000000 ≤ x6 ∧ x6 ≤ 1000000) : ((-67108864) ≤ x6) ∧ (x6 ≤ 1000000) := by
  first
    | omega
    | (have h := ‹TNB _ _› x6 (by omega) (by omega); omega)
  
def o_Mo_tree_28 : or_T := (417, 8, [(2, (0, 0, 24, [])), (3, (0, 0, 24, [])), (5, (0, 1, 24, [])), (6, (0, 1000000, 1000000, []))], [(20, [0, 3], [60, 1, 5, 813, 5, 2, 127, 128, 16, 129]), (20, [2, 0], [50, 1, 1, 1005, 1002, 1, 2, 1, 0, 3, 1, 2, 2, 1, 5]), (20, [0, 5], [60, 1, 3, 816, 5, 2, 74, 127]), (20, [5, 3], [50, 0, 0, 3, 6, 0, 2, 1, 0, 1, 1, 0, 2, 1, 0, 0, 1])], [], [], [(20, [0, 2], [60, 0, 1, 818, 74]), (20, [6], [50, 0, 0, 2, 6, 0, 2, 0, -67108864, 1, 0, 0, 2, 1, 0, 0, 1000000])], [], [])
theorem oo_Mo_tree_28 {kA : Nat → ClassId} : or_ok PRD kA GG o_Mo_tree_28 := by
  refine or_mk fun A ta ws vs hD hth hl => ?_
  intro t2 k2 t3 k3 t5 k5 t6 k6 f3 f4 f5 f6
  have nf0 : fc_1 PRD (20, [0, 2], [60, 0, 1, 818, 74]) ws (vs) := ⟨nf_in hl rfl, sgq_1963 (vc_Mo_tree_28_0 (v_iv (n_v vs 2)) (v_iv (n_v vs 3)) (v_iv (n_v vs 5)) (w_ei ws (w_ar ws (n_v vs 0) 129)) (w_ei ws (w_ar ws (n_v vs 0) 2)) (w_ei ws (w_ar ws (n_v vs 0) 128)) (w_ei ws (w_ar ws (n_v vs 0) 127)) (w_fi ws (n_v vs 0) 5) (w_ei ws (w_ar ws (n_v vs 0) 16)) (w_ei ws (w_ar ws (n_v vs 0) 74)) k2 k3 k5 (shm_602 f3) (shm_1581 f4) (shm_1960 f5) (shm_1110 f6))⟩
  have nf1 : fc_1 PRD (20, [6], [50, 0, 0, 2, 6, 0, 2, 0, -67108864, 1, 0, 0, 2, 1, 0, 0, 1000000]) ws (vs) := ⟨nf_in hl rfl, sgq_1964 (vc_Mo_tree_28_1 (v_iv (n_v vs 6)) k6)⟩
  refine ⟨(fun _ h => (by cases h)), [], trivial, ?_, (fun _ h => (by cases h))⟩
  rw [List.append_nil]
  exact List.forall_mem_cons.mpr ⟨⟨show (20 : Nat) < 100 from by decide, nf0⟩, List.forall_mem_cons.mpr ⟨⟨show (20 : Nat) < 100 from by decide, nf1⟩, (fun _ h => (by cases h))⟩⟩
set_option maxHeartbeats 4000000 in
theorem vc_Mo_tree_29_r0 (x2 : Int) (x3 : Int) (x5 : Int) (x8 : Int) (root_0 : Int → Int) (k2 : 0 ≤ x2 ∧ x2 ≤ 24) (k3 : 2 ≤ x3 ∧ x3 ≤ 24) (k5 : 1 ≤ x5 ∧ x5 ≤ 23) (k8 : (-1) ≤ x8 ∧ x8 ≤ 23) (h0 : x8 = root_0 (x5)) (f2 : x5 < x3) (f3 : RTK (root_0) (x2) (x3)) : 0 ≤ x8 ∧ x8 ≤ 23 := by
  have h := ‹RTK _ _ _› x5 (by omega) (by omega)
  omega
def o_Mo_tree_29 : or_T := (399, 9, [(0, (2, 0, 0, [165])), (2, (0, 0, 24, [])), (3, (0, 2, 24, [])), (5, (0, 1, 23, [])), (7, (2, 0, 0, [259])), (8, (0, -1, 23, []))], [(10, [8, 7, 5], []), (9, [7, 0], [129]), (7, [5, 3], [2]), (20, [0, 2, 3], [60, 0, 1, 376, 129]), (20, [0], [50, 1, 3, 5, 2, 128, 127, 5, 2, 0, 24, 4, 14, 0, 6, 4, 2, 7, 0, 0, 1, 3, 0, 2, 2, 0, 5, 2, 9, 0, 2, 0, -1, 3, 0, 128, 7, 0, 2, 9, 0, 5, 3, 0, 128, 7, 0, 0, 24, 4, 9, 0, 2, 0, 0, 3, 0, 127, 7, 0, 2, 17, 0, 9, 4, 5, 3, 0, 127, 7, 0, 0, 1, 3, 0, 2, 2, 0, 5, 2, 12, 0, 2, 0, 0, 3, 0, 128, 3, 0, 127, 7, 0, 0, 12, 4, 8, 3, 0, 128, 3, 0, 127, 7, 0, 0, 1, 3, 0, 128, 7, 0]), (20, [0, 3], [60, 1, 5, 813, 5, 2, 127, 128, 16, 129]), (20, [2, 0], [50, 1, 1, 1005, 1002, 1, 2, 1, 0, 3, 1, 2, 2, 1, 5]), (20, [0, 5], [60, 1, 3, 816, 5, 2, 74, 127]), (20, [5, 3], [50, 0, 0, 3, 6, 0, 2, 1, 0, 1, 1, 0, 2, 1, 0, 0, 1])], [(8, (0, 0, 23, []))], [], [], [], [(5, 3, -4294967296, -1), (5, 3, -4294967296, 1)])
theorem oo_Mo_tree_29 {kA : Nat → ClassId} : or_ok PRD kA GG o_Mo_tree_29 := by
  refine or_mk fun A ta ws vs hD hth hl => ?_
  intro t0 r0 t2 k2 t3 k3 t5 k5 t7 r7 t8 k8 d0 d1 f0 f1 f2 f3 f4 f5 f6 f7 f8
  replace f0 := shm_107 f0
  replace f1 := shm_1955 f1
  have ad_7 : v_ad (n_v vs 7) = w_ar ws (n_v vs 0) 129 := congrArg v_ad f1
  simp only [ad_7] at f0
  have h0 : v_iv (n_v vs 8) = w_ei ws (w_ar ws (n_v vs 0) 129) (v_iv (n_v vs 5)) := f0
  have hrf0 : 0 ≤ v_iv (n_v vs 8) ∧ v_iv (n_v vs 8) ≤ 23 := vc_Mo_tree_29_r0 (v_iv (n_v vs 2)) (v_iv (n_v vs 3)) (v_iv (n_v vs 5)) (v_iv (n_v vs 8)) (w_ei ws (w_ar ws (n_v vs 0) 129)) k2 k3 k5 k8 h0 (shm_6 f2) (shm_1950 f3)
  have rf8 : tv_ok ta (0, 0, 23, []) (n_v vs 8) := tv_in t8 (by first | omega | grind) (by first | omega | grind)
  refine ⟨List.forall_mem_cons.mpr ⟨rf8, (fun _ h => (by cases h))⟩, [], trivial, ?_, (fun _ h => (by cases h))⟩
  rw [List.append_nil]
  exact (fun _ h => (by cases h))
set_option maxHeartbeats 4000000 in
theorem vc_Mo_tree_30_0 (x5 : Int) (x8 : Int) (root_0 : Int → Int) (k5 : 1 ≤ x5 ∧ x5 ≤ 23) (k8 : 0 ≤ x8 ∧ x8 ≤ 23) (h0 : x8 = root_0 (x5)) : x8 = root_0 (x5) := by
  first
    | omega
    | assumption
    | (simp only [Int.add_zero] at *; omega)
  
set_option maxHeartbeats 4000000 in
theorem vc_Mo_tree_30_1 (x3 : Int) (x5 : Int) (x6 : Int) (x8 : Int) (root_0 : Int → Int) (all_0 : Int → Int) (level_0 : Int → Int) (above_0 : Int → Int) (r_0 : Int) (partOf_0 : Int → Int) (nx_0 : Int → Int) (k3 : 2 ≤ x3 ∧ x3 ≤ 24) (k5 : 1 ≤ x5 ∧ x5 ≤ 23) (k6 : (-1) ≤ x6 ∧ x6 ≤ (-1)) (k8 : 0 ≤ x8 ∧ x8 ≤ 23) (h0 : x8 = root_0 (x5)) (f2 : x5 < x3) (f5 : BFS (r_0) (all_0) (above_0) (level_0) (partOf_0) (root_0) (x3)) (f7 : TLR (r_0) (all_0) (nx_0) (above_0) (x5)) : TRAA (r_0) (all_0) (nx_0) (above_0) (level_0) (partOf_0) (x6) (x8) (x3) := by
  exact (tlr_pre ‹TLR _ _ _ _ _› ‹BFS _ _ _ _ _ _ _› (by omega) (by omega) (by assumption) _).1
set_option maxHeartbeats 4000000 in
theorem vc_Mo_tree_30_2 (x3 : Int) (x5 : Int) (x6 : Int) (x8 : Int) (root_0 : Int → Int) (all_0 : Int → Int) (level_0 : Int → Int) (above_0 : Int → Int) (r_0 : Int) (partOf_0 : Int → Int) (nx_0 : Int → Int) (k3 : 2 ≤ x3 ∧ x3 ≤ 24) (k5 : 1 ≤ x5 ∧ x5 ≤ 23) (k6 : (-1) ≤ x6 ∧ x6 ≤ (-1)) (k8 : 0 ≤ x8 ∧ x8 ≤ 23) (h0 : x8 = root_0 (x5)) (f2 : x5 < x3) (f5 : BFS (r_0) (all_0) (above_0) (level_0) (partOf_0) (root_0) (x3)) (f7 : TLR (r_0) (all_0) (nx_0) (above_0) (x5)) : NEP (r_0) (all_0) (above_0) (level_0) (partOf_0) (x6) (x8) (x3) := by
  exact (tlr_pre ‹TLR _ _ _ _ _› ‹BFS _ _ _ _ _ _ _› (by omega) (by omega) (by assumption) _).2
def o_Mo_tree_30 : or_T := (400, 9, [(3, (0, 2, 24, [])), (5, (0, 1, 23, [])), (6, (0, -1, -1, [])), (8, (0, 0, 23, []))], [(10, [8, 7, 5], []), (9, [7, 0], [129]), (7, [5, 3], [2]), (20, [0, 3], [60, 1, 5, 813, 5, 2, 127, 128, 16, 129]), (20, [0, 5], [60, 1, 3, 816, 5, 2, 74, 127])], [], [], [(20, [8, 0, 5], [50, 0, 1, 1129, 1, 2, 1, 0, 3, 1, 129, 1, 2]), (20, [0, 6, 8, 3], [60, 1, 5, 800, 5, 2, 74, 127, 128, 16]), (20, [0, 6, 8, 3], [60, 1, 4, 805, 5, 2, 127, 128, 16])], [], [])
theorem oo_Mo_tree_30 {kA : Nat → ClassId} : or_ok PRD kA GG o_Mo_tree_30 := by
  refine or_mk fun A ta ws vs hD hth hl => ?_
  intro t3 k3 t5 k5 t6 k6 t8 k8 f0 f1 f2 f5 f7
  replace f0 := shm_107 f0
  replace f1 := shm_1955 f1
  have ad_7 : v_ad (n_v vs 7) = w_ar ws (n_v vs 0) 129 := congrArg v_ad f1
  simp only [ad_7] at f0
  have h0 : v_iv (n_v vs 8) = w_ei ws (w_ar ws (n_v vs 0) 129) (v_iv (n_v vs 5)) := f0
  have nf0 : fc_1 PRD (20, [8, 0, 5], [50, 0, 1, 1129, 1, 2, 1, 0, 3, 1, 129, 1, 2]) ws (vs) := ⟨nf_in hl rfl, sgq_1965 (vc_Mo_tree_30_0 (v_iv (n_v vs 5)) (v_iv (n_v vs 8)) (w_ei ws (w_ar ws (n_v vs 0) 129)) k5 k8 h0)⟩
  have nf1 : fc_1 PRD (20, [0, 6, 8, 3], [60, 1, 5, 800, 5, 2, 74, 127, 128, 16]) ws (vs) := ⟨nf_in hl rfl, sgq_1575 (vc_Mo_tree_30_1 (v_iv (n_v vs 3)) (v_iv (n_v vs 5)) (v_iv (n_v vs 6)) (v_iv (n_v vs 8)) (w_ei ws (w_ar ws (n_v vs 0) 129)) (w_ei ws (w_ar ws (n_v vs 0) 2)) (w_ei ws (w_ar ws (n_v vs 0) 128)) (w_ei ws (w_ar ws (n_v vs 0) 127)) (w_fi ws (n_v vs 0) 5) (w_ei ws (w_ar ws (n_v vs 0) 16)) (w_ei ws (w_ar ws (n_v vs 0) 74)) k3 k5 k6 k8 h0 (shm_6 f2) (shm_602 f5) (shm_1960 f7))⟩
  have nf2 : fc_1 PRD (20, [0, 6, 8, 3], [60, 1, 4, 805, 5, 2, 127, 128, 16]) ws (vs) := ⟨nf_in hl rfl, sgq_1576 (vc_Mo_tree_30_2 (v_iv (n_v vs 3)) (v_iv (n_v vs 5)) (v_iv (n_v vs 6)) (v_iv (n_v vs 8)) (w_ei ws (w_ar ws (n_v vs 0) 129)) (w_ei ws (w_ar ws (n_v vs 0) 2)) (w_ei ws (w_ar ws (n_v vs 0) 128)) (w_ei ws (w_ar ws (n_v vs 0) 127)) (w_fi ws (n_v vs 0) 5) (w_ei ws (w_ar ws (n_v vs 0) 16)) (w_ei ws (w_ar ws (n_v vs 0) 74)) k3 k5 k6 k8 h0 (shm_6 f2) (shm_602 f5) (shm_1960 f7))⟩
  refine ⟨(fun _ h => (by cases h)), [], trivial, ?_, (fun _ h => (by cases h))⟩
  rw [List.append_nil]
  exact List.forall_mem_cons.mpr ⟨⟨show (20 : Nat) < 100 from by decide, nf0⟩, List.forall_mem_cons.mpr ⟨⟨show (20 : Nat) < 100 from by decide, nf1⟩, List.forall_mem_cons.mpr ⟨⟨show (20 : Nat) < 100 from by decide, nf2⟩, (fun _ h => (by cases h))⟩⟩⟩
set_option maxHeartbeats 4000000 in
theorem vc_Mo_tree_31_0 (x3 : Int) (x5 : Int) (x6 : Int) (x8 : Int) (x9 : Int) (root_0 : Int → Int) (all_0 : Int → Int) (above_0 : Int → Int) (level_0 : Int → Int) (partOf_0 : Int → Int) (r_0 : Int) (nx_0 : Int → Int) (k3 : 2 ≤ x3 ∧ x3 ≤ 24) (k5 : 1 ≤ x5 ∧ x5 ≤ 23) (k6 : (-1) ≤ x6 ∧ x6 ≤ (-1)) (k8 : 0 ≤ x8 ∧ x8 ≤ 23) (k9 : 2 ≤ x9 ∧ x9 ≤ 24) (d0 : x5 + 1 ≤ x9 ∧ x9 ≤ x5 + 1) (f0 : x9 = x5 + 1) (f1 : x8 = root_0 (x5)) (f4 : BFS (r_0) (all_0) (above_0) (level_0) (partOf_0) (root_0) (x3)) (f8 : TRZ (r_0) (all_0) (nx_0) (above_0) (level_0) (partOf_0) (x6) (x8) (x3)) (f10 : x5 < x3) : TLR (r_0) (all_0) (nx_0) (above_0) (x9) := by
  first
    | exact tlr_start ‹TL3 _ _ _ _ _ _› (by omega)
    | exact tlr_next (p := x5) ‹TRZ _ _ _ _ _ _ _ _ _› ‹BFS _ _ _ _ _ _ _› (by omega) (by omega) (by assumption) (by omega)
  
set_option maxHeartbeats 4000000 in
theorem vc_Mo_tree_31_1 (x3 : Int) (x5 : Int) (x9 : Int) (k3 : 2 ≤ x3 ∧ x3 ≤ 24) (k5 : 1 ≤ x5 ∧ x5 ≤ 23) (k9 : 2 ≤ x9 ∧ x9 ≤ 24) (d0 : x5 + 1 ≤ x9 ∧ x9 ≤ x5 + 1) (d1 : x3 + (-4294967296) ≤ x9 ∧ x9 ≤ x3 + 0) (d3 : x3 + (-4294967296) ≤ x5 ∧ x5 ≤ x3 + (-1)) : (x9 ≤ x3) ∨ (x9 ≤ 1) := by
  first
    | omega
    | assumption
    | (simp only [Int.add_zero] at *; omega)
  
def o_Mo_tree_31 : or_T := (384, 10, [(3, (0, 2, 24, [])), (5, (0, 1, 23, [])), (6, (0, -1, -1, [])), (8, (0, 0, 23, [])), (9, (0, 2, 24, []))], [(6, [9, 5], [1]), (20, [8, 0, 5], [50, 0, 1, 1129, 1, 2, 1, 0, 3, 1, 129, 1, 2]), (20, [0, 3], [60, 1, 5, 813, 5, 2, 127, 128, 16, 129]), (20, [0, 6, 8, 3], [60, 1, 5, 801, 5, 2, 74, 127, 128, 16]), (102, [8], [26328072917139296674479506920917608079723773850137277813577744384]), (7, [5, 3], [2])], [], [], [(20, [0, 9], [60, 1, 3, 816, 5, 2, 74, 127]), (20, [9, 3], [50, 0, 0, 3, 6, 0, 2, 1, 0, 1, 1, 0, 2, 1, 0, 0, 1])], [], [(9, 5, 1, 1), (9, 3, -4294967296, 0), (5, 3, -4294967296, -1)])
theorem oo_Mo_tree_31 {kA : Nat → ClassId} : or_ok PRD kA GG o_Mo_tree_31 := by
  refine or_mk fun A ta ws vs hD hth hl => ?_
  intro t3 k3 t5 k5 t6 k6 t8 k8 t9 k9 d0 d1 d3 f0 f1 f4 f8 ta1 w1 le1 s1 f10
  have nf0 : fc_1 PRD (20, [0, 9], [60, 1, 3, 816, 5, 2, 74, 127]) ws (vs) := ⟨nf_in hl rfl, sgq_1960 (vc_Mo_tree_31_0 (v_iv (n_v vs 3)) (v_iv (n_v vs 5)) (v_iv (n_v vs 6)) (v_iv (n_v vs 8)) (v_iv (n_v vs 9)) (w_ei ws (w_ar ws (n_v vs 0) 129)) (w_ei ws (w_ar ws (n_v vs 0) 2)) (w_ei ws (w_ar ws (n_v vs 0) 127)) (w_ei ws (w_ar ws (n_v vs 0) 128)) (w_ei ws (w_ar ws (n_v vs 0) 16)) (w_fi ws (n_v vs 0) 5) (w_ei ws (w_ar ws (n_v vs 0) 74)) k3 k5 k6 k8 k9 d0 (shm_4 f0) (shm_1965 f1) (shm_602 f4) (shm_1580 f8) (shm_6 f10))⟩
  have nf1 : fc_1 PRD (20, [9, 3], [50, 0, 0, 3, 6, 0, 2, 1, 0, 1, 1, 0, 2, 1, 0, 0, 1]) ws (vs) := ⟨nf_in hl rfl, sgq_1110 (vc_Mo_tree_31_1 (v_iv (n_v vs 3)) (v_iv (n_v vs 5)) (v_iv (n_v vs 9)) k3 k5 k9 d0 d1 d3)⟩
  refine ⟨(fun _ h => (by cases h)), [], trivial, ?_, (fun _ h => (by cases h))⟩
  rw [List.append_nil]
  exact List.forall_mem_cons.mpr ⟨⟨show (20 : Nat) < 100 from by decide, nf0⟩, List.forall_mem_cons.mpr ⟨⟨show (20 : Nat) < 100 from by decide, nf1⟩, (fun _ h => (by cases h))⟩⟩
set_option maxHeartbeats 4000000 in
theorem vc_Mo_tree_32_0 (x2 : Int) (x7 : Int) (nx_0 : Int → Int) (k2 : 0 ≤ x2 ∧ x2 ≤ 24) (k7 : 0 ≤ x7 ∧ x7 ≤ 0) (f1 : TNB (nx_0) (x2)) : TNI (nx_0) (x2) (x7) := by
  first
    | exact ⟨nbd_le ‹TNB _ _› (by omega) (by omega) (by omega), fun j a b c => ‹TNB _ _› j b c⟩
    | exact tni_step ‹TNI _ _ _› (by omega) (by assumption) (by omega) (by omega) (by omega)
  
def o_Mo_tree_32 : or_T := (446, 8, [(2, (0, 0, 24, [])), (7, (0, 0, 0, []))], [(20, [0, 2], [60, 0, 1, 818, 74])], [], [], [(20, [0, 2, 7], [60, 0, 1, 819, 74])], [], [])
theorem oo_Mo_tree_32 {kA : Nat → ClassId} : or_ok PRD kA GG o_Mo_tree_32 := by
  refine or_mk fun A ta ws vs hD hth hl => ?_
  intro t2 k2 t7 k7 f1
  have nf0 : fc_1 PRD (20, [0, 2, 7], [60, 0, 1, 819, 74]) ws (vs) := ⟨nf_in hl rfl, sgq_1966 (vc_Mo_tree_32_0 (v_iv (n_v vs 2)) (v_iv (n_v vs 7)) (w_ei ws (w_ar ws (n_v vs 0) 74)) k2 k7 (shm_1963 f1))⟩
  refine ⟨(fun _ h => (by cases h)), [], trivial, ?_, (fun _ h => (by cases h))⟩
  rw [List.append_nil]
  exact List.forall_mem_cons.mpr ⟨⟨show (20 : Nat) < 100 from by decide, nf0⟩, (fun _ h => (by cases h))⟩
set_option maxHeartbeats 4000000 in
theorem vc_Mo_tree_33_0 (x2 : Int) (x6 : Int) (x8 : Int) (x9 : Int) (nx_0 : Int → Int) (k2 : 1 ≤ x2 ∧ x2 ≤ 24) (k6 : 0 ≤ x6 ∧ x6 ≤ 23) (k8 : (-300000000) ≤ x8 ∧ x8 ≤ 1000000) (k9 : 1 ≤ x9 ∧ x9 ≤ 24) (d0 : x6 + 1 ≤ x9 ∧ x9 ≤ x6 + 1) (h3 : x8 = nx_0 (x6)) (f5 : x6 < x2) (f6 : TNB (nx_0) (x2)) : ((-67108864) ≤ x8) ∧ (x8 ≤ 1000000) := by
  first
    | omega
    | (have h := ‹TNB _ _› x6 (by omega) (by omega); omega)
  
def o_Mo_tree_33 : or_T := (417, 10, [(0, (2, 0, 0, [165])), (2, (0, 1, 24, [])), (5, (0, -300000000, 1000000, [])), (6, (0, 0, 23, [])), (7, (2, 0, 0, [214])), (8, (0, -300000000, 1000000, [])), (9, (0, 1, 24, []))], [(6, [9, 6], [1]), (7, [8, 5], [5]), (7, [8, 8], [5]), (10, [8, 7, 6], []), (9, [7, 0], [74]), (7, [6, 2], [2]), (20, [0, 2], [60, 0, 1, 818, 74]), (20, [5], [50, 0, 0, 2, 6, 0, 2, 0, -67108864, 1, 0, 0, 2, 1, 0, 0, 1000000])], [], [], [(20, [8], [50, 0, 0, 2, 6, 0, 2, 0, -67108864, 1, 0, 0, 2, 1, 0, 0, 1000000])], [], [(9, 6, 1, 1), (9, 2, -4294967296, 0), (9, 2, -4294967296, 1), (5, 8, 0, 4294967296), (6, 2, -4294967296, -1), (6, 2, -4294967296, 0)])

theorem oo_Mo_tree_33 {kA : Nat → ClassId} : or_ok PRD kA GG o_Mo_tree_33 := by
  refine or_mk fun A ta ws vs hD hth hl => ?_
  intro t0 r0 t2 k2 t5 k5 t6 k6 t7 r7 t8 k8 t9 k9 d0 d1 d2 d3 d4 d5 f0 f1 f2 f3 f4 f5 f6 f7
  replace f3 := shm_107 f3
  replace f4 := shm_647 f4
  have ad_7 : v_ad (n_v vs 7) = w_ar ws (n_v vs 0) 74 := congrArg v_ad f4
  simp only [ad_7] at f3
  have h3 : v_iv (n_v vs 8) = w_ei ws (w_ar ws (n_v vs 0) 74) (v_iv (n_v vs 6)) := f3
  have nf0 : fc_1 PRD (20, [8], [50, 0, 0, 2, 6, 0, 2, 0, -67108864, 1, 0, 0, 2, 1, 0, 0, 1000000]) ws (vs) := ⟨nf_in hl rfl, sgq_1964 (vc_Mo_tree_33_0 (v_iv (n_v vs 2)) (v_iv (n_v vs 6)) (v_iv (n_v vs 8)) (v_iv (n_v vs 9)) (w_ei ws (w_ar ws (n_v vs 0) 74)) k2 k6 k8 k9 d0 h3 (shm_6 f5) (shm_1963 f6))⟩
  refine ⟨(fun _ h => (by cases h)), [], trivial, ?_, (fun _ h => (by cases h))⟩
  rw [List.append_nil]
  exact List.forall_mem_cons.mpr ⟨⟨show (20 : Nat) < 100 from by decide, nf0⟩, (fun _ h => (by cases h))⟩
set_option maxHeartbeats 4000000 in
theorem vc_Mo_tree_34_r0 (x2 : Int) (x6 : Int) (x8 : Int) (nx_0 : Int → Int) (k2 : 1 ≤ x2 ∧ x2 ≤ 24) (k6 : 0 ≤ x6 ∧ x6 ≤ 23) (k8 : (-300000000) ≤ x8 ∧ x8 ≤ 300000000) (h0 : x8 = nx_0 (x6)) (f2 : x6 < x2) (f3 : TNI (nx_0) (x2) (x6)) : (-67108864) ≤ x8 ∧ x8 ≤ 67108864 := by
  first
    | (have h := ‹TNI _ _ _›.1 x6 (by omega) (by omega); have h2 := ‹TNI _ _ _›.2 x6 (by omega) (by omega) (by omega); omega)
  
def o_Mo_tree_34 : or_T := (460, 9, [(0, (2, 0, 0, [165])), (2, (0, 1, 24, [])), (5, (0, -300000000, 1000000, [])), (6, (0, 0, 23, [])), (7, (2, 0, 0, [214])), (8, (0, -300000000, 300000000, []))], [(10, [8, 7, 6], []), (9, [7, 0], [74]), (7, [6, 2], [2]), (20, [0, 2, 6], [60, 0, 1, 819, 74]), (20, [5], [50, 0, 0, 2, 6, 0, 2, 0, -67108864, 1, 0, 0, 2, 1, 0, 0, 1000000])], [(8, (0, -67108864, 67108864, []))], [], [], [], [(6, 2, -4294967296, -1), (6, 2, -4294967296, 0)])
theorem oo_Mo_tree_34 {kA : Nat → ClassId} : or_ok PRD kA GG o_Mo_tree_34 := by
  refine or_mk fun A ta ws vs hD hth hl => ?_
  intro t0 r0 t2 k2 t5 k5 t6 k6 t7 r7 t8 k8 d0 d1 f0 f1 f2 f3 f4
  replace f0 := shm_107 f0
  replace f1 := shm_647 f1
  have ad_7 : v_ad (n_v vs 7) = w_ar ws (n_v vs 0) 74 := congrArg v_ad f1
  simp only [ad_7] at f0
  have h0 : v_iv (n_v vs 8) = w_ei ws (w_ar ws (n_v vs 0) 74) (v_iv (n_v vs 6)) := f0
  have hrf0 : (-67108864) ≤ v_iv (n_v vs 8) ∧ v_iv (n_v vs 8) ≤ 67108864 := vc_Mo_tree_34_r0 (v_iv (n_v vs 2)) (v_iv (n_v vs 6)) (v_iv (n_v vs 8)) (w_ei ws (w_ar ws (n_v vs 0) 74)) k2 k6 k8 h0 (shm_6 f2) (shm_1966 f3)
  have rf8 : tv_ok ta (0, -67108864, 67108864, []) (n_v vs 8) := tv_in t8 (by first | omega | grind) (by first | omega | grind)
  refine ⟨List.forall_mem_cons.mpr ⟨rf8, (fun _ h => (by cases h))⟩, [], trivial, ?_, (fun _ h => (by cases h))⟩
  rw [List.append_nil]
  exact (fun _ h => (by cases h))
set_option maxHeartbeats 4000000 in
theorem vc_Mo_tree_35_r0 (x2 : Int) (x5 : Int) (x6 : Int) (x8 : Int) (x9 : Int) (nx_0 : Int → Int) (k2 : 1 ≤ x2 ∧ x2 ≤ 24) (k5 : (-300000000) ≤ x5 ∧ x5 ≤ 1000000) (k6 : 0 ≤ x6 ∧ x6 ≤ 23) (k8 : (-67108864) ≤ x8 ∧ x8 ≤ 67108864) (k9 : (-68108864) ≤ x9 ∧ x9 ≤ 367108864) (d0 : x8 + (-1000000) ≤ x9 ∧ x9 ≤ x8 + 300000000) (f0 : x9 = x8 - x5) (h1 : x8 = nx_0 (x6)) (f3 : x6 < x2) (f4 : TNI (nx_0) (x2) (x6)) (f5 : ((-67108864) ≤ x5) ∧ (x5 ≤ 1000000)) : (-68108864) ≤ x9 ∧ x9 ≤ 140000000 := by
  first
    | (have h := ‹TNI _ _ _›.1 x6 (by omega) (by omega); have h2 := ‹TNI _ _ _›.2 x6 (by omega) (by omega) (by omega); omega)
    | omega
  
def o_Mo_tree_35 : or_T := (463, 10, [(0, (2, 0, 0, [165])), (2, (0, 1, 24, [])), (5, (0, -300000000, 1000000, [])), (6, (0, 0, 23, [])), (7, (2, 0, 0, [214])), (8, (0, -67108864, 67108864, [])), (9, (0, -68108864, 367108864, []))], [(2, [9, 8, 5], []), (10, [8, 7, 6], []), (9, [7, 0], [74]), (7, [6, 2], [2]), (20, [0, 2, 6], [60, 0, 1, 819, 74]), (20, [5], [50, 0, 0, 2, 6, 0, 2, 0, -67108864, 1, 0, 0, 2, 1, 0, 0, 1000000])], [(9, (0, -68108864, 140000000, []))], [], [], [], [(9, 8, -1000000, 300000000), (6, 2, -4294967296, -1), (6, 2, -4294967296, 0)])
theorem oo_Mo_tree_35 {kA : Nat → ClassId} : or_ok PRD kA GG o_Mo_tree_35 := by
  refine or_mk fun A ta ws vs hD hth hl => ?_
  intro t0 r0 t2 k2 t5 k5 t6 k6 t7 r7 t8 k8 t9 k9 d0 d1 d2 f0 f1 f2 f3 f4 f5
  replace f1 := shm_107 f1
  replace f2 := shm_647 f2
  have ad_7 : v_ad (n_v vs 7) = w_ar ws (n_v vs 0) 74 := congrArg v_ad f2
  simp only [ad_7] at f1
  have h1 : v_iv (n_v vs 8) = w_ei ws (w_ar ws (n_v vs 0) 74) (v_iv (n_v vs 6)) := f1
  have hrf0 : (-68108864) ≤ v_iv (n_v vs 9) ∧ v_iv (n_v vs 9) ≤ 140000000 := vc_Mo_tree_35_r0 (v_iv (n_v vs 2)) (v_iv (n_v vs 5)) (v_iv (n_v vs 6)) (v_iv (n_v vs 8)) (v_iv (n_v vs 9)) (w_ei ws (w_ar ws (n_v vs 0) 74)) k2 k5 k6 k8 k9 d0 (shm_14 f0) h1 (shm_6 f3) (shm_1966 f4) (shm_1964 f5)
  have rf9 : tv_ok ta (0, -68108864, 140000000, []) (n_v vs 9) := tv_in t9 (by first | omega | grind) (by first | omega | grind)
  refine ⟨List.forall_mem_cons.mpr ⟨rf9, (fun _ h => (by cases h))⟩, [], trivial, ?_, (fun _ h => (by cases h))⟩
  rw [List.append_nil]
  exact (fun _ h => (by cases h))
set_option maxHeartbeats 4000000 in
theorem vc_Mo_tree_36_0 (x2 : Int) (x6 : Int) (x9 : Int) (x15 : Int) (nx_2 : Int → Int) (nx_0 : Int → Int) (nx_1 : Int → Int) (ny_1 : Int → Int) (ny_2 : Int → Int) (k2 : 1 ≤ x2 ∧ x2 ≤ 24) (k6 : 0 ≤ x6 ∧ x6 ≤ 23) (k9 : (-68108864) ≤ x9 ∧ x9 ≤ 140000000) (k15 : 1 ≤ x15 ∧ x15 ≤ 24) (f0 : x15 = x6 + 1) (f10 : TNI (nx_2) (x2) (x6)) (hE_0_74_1 : ∀ j : Int, nx_0 j = nx_1 j) (hE_0_74_2 : ∀ j : Int, 0 ≤ j → (j = x6 → nx_1 j = x9) ∧ (j ≠ x6 → nx_1 j = nx_2 j)) (hE_0_75_2 : ∀ j : Int, ny_1 j = ny_2 j) : TNI (nx_0) (x2) (x15) := by
  have e_hE_0_74_1 := funext hE_0_74_1; subst e_hE_0_74_1
  have e_hE_0_75_2 := funext hE_0_75_2; subst e_hE_0_75_2
  first
    | exact ⟨nbd_le ‹TNB _ _› (by omega) (by omega) (by omega), fun j a b c => ‹TNB _ _› j b c⟩
    | exact tni_step ‹TNI _ _ _› (by omega) (by assumption) (by omega) (by omega) (by omega)
  
def o_Mo_tree_36 : or_T := (446, 16, [(0, (2, 0, 0, [165])), (2, (0, 1, 24, [])), (6, (0, 0, 23, [])), (7, (2, 0, 0, [214])), (9, (0, -68108864, 140000000, [])), (10, (2, 0, 0, [215])), (15, (0, 1, 24, []))], [(6, [15, 6], [1]), (100, [10, 6, 14], []), (100, [7, 6, 9], []), (9, [7, 0], [74]), (20, [0, 2, 6], [60, 0, 1, 819, 74])], [], [], [(20, [0, 2, 15], [60, 0, 1, 819, 74])], [], [(15, 6, 1, 1), (9, 8, -1000000, 300000000), (6, 2, -4294967296, -1), (6, 2, -4294967296, 0)])
theorem oo_Mo_tree_36 {kA : Nat → ClassId} : or_ok PRD kA GG o_Mo_tree_36 := by
  refine or_mk fun A ta ws vs hD hth hl => ?_
  intro t0 r0 t2 k2 t6 k6 t7 r7 t9 k9 t10 r10 t15 k15 d0 d3 d4 d5 f0 ta1 w1 le1 s1 ta2 w2 le2 s2 f8 f10
  have s1 : (∀ b j, w_el ws b j = if b = v_ad (n_v vs 10) ∧ j = (v_iv (n_v vs 6)).toNat then v_iv (n_v vs 14) else w_el w1 b j) ∧ ∀ b k, w_fd ws b k = w_fd w1 b k := s1.2
  have s2 : (∀ b j, w_el w1 b j = if b = v_ad (n_v vs 7) ∧ j = (v_iv (n_v vs 6)).toNat then v_iv (n_v vs 9) else w_el w2 b j) ∧ ∀ b k, w_fd w1 b k = w_fd w2 b k := s2.2
  replace f8 := shm_647 f8
  replace f10 := shm_1966 f10
  have ar_0_74_1 : w_ar w1 (n_v vs 0) 74 = w_ar ws (n_v vs 0) 74 := congrArg v_ad (s1.2 _ _).symm
  have ar_0_74_2 : w_ar w2 (n_v vs 0) 74 = w_ar ws (n_v vs 0) 74 := by rw [← ar_0_74_1]; show v_ad (w_fd w2 _ _) = v_ad (w_fd w1 _ _); rw [s2.2]
  have cr_0_74 := fdq_164 hD hth r0
  have cr_0_75 := fdq_165 hD hth r0
  have ad_7 : v_ad (n_v vs 7) = w_ar ws (n_v vs 0) 74 := (congrArg v_ad f8).trans ar_0_74_2
  simp only [ar_0_74_2] at f10
  have hE_0_74_1 : ∀ j : Int, w_ei ws (w_ar ws (n_v vs 0) 74) j = w_ei w1 (w_ar ws (n_v vs 0) 74) j := el_kp s1.1 r10 cr_0_74 (by decide)
  have hE_0_74_2 : ∀ j : Int, 0 ≤ j → (j = v_iv (n_v vs 6) → w_ei w1 (w_ar ws (n_v vs 0) 74) j = v_iv (n_v vs 9)) ∧ (j ≠ v_iv (n_v vs 6) → w_ei w1 (w_ar ws (n_v vs 0) 74) j = w_ei w2 (w_ar ws (n_v vs 0) 74) j) := fun j hj => ⟨fun h => by unfold w_ei; rw [s2.1, if_pos ⟨ad_7.symm, by rw [h]⟩], fun h => by unfold w_ei; rw [s2.1, if_neg (fun e => h (by have := e.2; omega))]⟩
  have hE_0_75_2 : ∀ j : Int, w_ei w1 (w_ar ws (n_v vs 0) 75) j = w_ei w2 (w_ar ws (n_v vs 0) 75) j := el_kp s2.1 r7 cr_0_75 (by decide)
  have nf0 : fc_1 PRD (20, [0, 2, 15], [60, 0, 1, 819, 74]) ws (vs) := ⟨nf_in hl rfl, sgq_1966 (vc_Mo_tree_36_0 (v_iv (n_v vs 2)) (v_iv (n_v vs 6)) (v_iv (n_v vs 9)) (v_iv (n_v vs 15)) (w_ei w2 (w_ar ws (n_v vs 0) 74)) (w_ei ws (w_ar ws (n_v vs 0) 74)) (w_ei w1 (w_ar ws (n_v vs 0) 74)) (w_ei w1 (w_ar ws (n_v vs 0) 75)) (w_ei w2 (w_ar ws (n_v vs 0) 75)) k2 k6 k9 k15 (shm_4 f0) f10 hE_0_74_1 hE_0_74_2 hE_0_75_2)⟩
  refine ⟨(fun _ h => (by cases h)), [], trivial, ?_, (fun _ h => (by cases h))⟩
  rw [List.append_nil]
  exact List.forall_mem_cons.mpr ⟨⟨show (20 : Nat) < 100 from by decide, nf0⟩, (fun _ h => (by cases h))⟩
def t_Mo_tree_ct : ct_L := [(0, 387, e_Mo_in), (0, 547, e_Mo_min), (0, 855, e_Mo_max), (1, 394, e_Mo_tail), (1, 398, e_Mo_head), (1, 401, e_Mo_edges), (1, 475, e_Mo_nodes), (1, 716, e_Mo_parts), (1, 945, e_Mo_hangs), (1, 948, e_Mo_children), (1, 951, e_Mo_nearer)]
def n_Mo_tree_a0 : an_T := (42, [(0, (2, 0, 0, [165])), (1, (0, (Int.negSucc 0), 23, [])), (2, (0, 0, 24, [])), (3, (0, 0, 24, [])), (4, (0, 0, 24, []))], [], (0, 0), [(0, 0, 99958), (1, 4, 24), (0, 0, 100000), (0, 0, 0), (0, 0, 0)], [(1, 2, (Int.negSucc 999999999999), (Int.negSucc 0)), (4, 3, (Int.negSucc 999999999999), 0)], [], [], 0, [], [(20, [0], [60, 1, 1, 197, 5, 2]), (20, [2, 0], [50, 1, 1, 1005, 1002, 1, 2, 1, 0, 3, 1, 2, 2, 1, 5]), (20, [0, 3], [60, 1, 2, 375, 5, 2, 16]), (20, [0, 2, 4], [60, 0, 1, 376, 129]), (20, [0, 4], [60, 0, 2, 810, 16, 129])])
def n_Mo_tree_a1 : an_T := (61, [(0, (2, 0, 0, [165])), (1, (0, (Int.negSucc 0), 23, [])), (2, (0, 0, 24, [])), (3, (0, 1, 24, [])), (4, (0, 0, 23, [])), (5, (0, (Int.negSucc 0), 23, []))], [], (0, 0), [(0, 0, 99958), (1, 4, 24), (0, 0, 99939), (2, 5, (Int.negSucc 0)), (0, 0, 100000)], [(1, 2, (Int.negSucc 999999999999), (Int.negSucc 0)), (4, 3, (Int.negSucc 999999999999), (Int.negSucc 0)), (5, 2, (Int.negSucc 999999999999), (Int.negSucc 0))], [], [], 0, [], [(20, [0], [60, 1, 1, 197, 5, 2]), (20, [2, 0], [50, 1, 1, 1005, 1002, 1, 2, 1, 0, 3, 1, 2, 2, 1, 5]), (20, [0, 3], [60, 1, 2, 375, 5, 2, 16]), (20, [0, 2, 4, 5], [60, 0, 2, 377, 16, 129]), (20, [4, 3], [50, 0, 0, 0, 6, 4, 2, 1, 0, 0, 1, 1, 1]), (20, [0, 4], [60, 0, 2, 811, 16, 129])])
def n_Mo_tree_a2 : an_T := (125, [(0, (2, 0, 0, [165])), (1, (0, (Int.negSucc 0), 23, [])), (2, (0, 0, 24, [])), (3, (0, 0, 24, [])), (4, (0, 0, 24, []))], [], (0, 0), [(0, 0, 99875), (1, 4, 24), (0, 0, 100000), (0, 0, 0), (0, 0, 0)], [(1, 2, (Int.negSucc 999999999999), (Int.negSucc 0)), (4, 2, (Int.negSucc 999999999999), 0)], [], [], 0, [], [(20, [0], [60, 1, 1, 197, 5, 2]), (20, [2, 0], [50, 1, 1, 1005, 1002, 1, 2, 1, 0, 3, 1, 2, 2, 1, 5]), (20, [0, 2, 3], [60, 0, 1, 376, 129]), (20, [0, 4], [60, 0, 2, 378, 127, 128]), (20, [0, 3], [60, 0, 2, 810, 16, 129]), (20, [0, 4], [60, 0, 1, 817, 74]), (20, [0, 4], [60, 0, 1, 820, 128])])
def n_Mo_tree_a3 : an_T := (164, [(0, (2, 0, 0, [165])), (1, (0, (Int.negSucc 0), 23, [])), (2, (0, 0, 24, [])), (3, (0, 0, 24, [])), (4, (0, 0, 24, []))], [], (0, 0), [(0, 0, 99836), (1, 4, 24), (0, 0, 100000), (0, 0, 0), (0, 0, 0)], [(1, 2, (Int.negSucc 999999999999), (Int.negSucc 0)), (4, 3, (Int.negSucc 999999999999), 0)], [], [], 0, [], [(20, [0], [60, 1, 1, 197, 5, 2]), (20, [2, 0], [50, 1, 1, 1005, 1002, 1, 2, 1, 0, 3, 1, 2, 2, 1, 5]), (20, [0, 2, 3], [60, 0, 1, 376, 129]), (20, [0, 2], [60, 0, 2, 378, 127, 128]), (20, [0, 3], [60, 0, 2, 810, 16, 129]), (20, [0, 2], [60, 0, 1, 817, 74]), (20, [0, 2, 4], [60, 0, 3, 812, 16, 128, 129])])
def n_Mo_tree_a4 : an_T := (195, [(0, (2, 0, 0, [165])), (1, (0, (Int.negSucc 0), 23, [])), (2, (0, 0, 24, [])), (3, (0, 0, 24, [])), (4, (0, 0, 0, [])), (5, (0, 0, 24, []))], [], (0, 0), [(0, 0, 99805), (1, 5, 24), (0, 0, 100000), (0, 0, 0), (0, 0, 0)], [(1, 2, (Int.negSucc 999999999999), (Int.negSucc 0)), (5, 2, (Int.negSucc 999999999999), 0)], [], [], 0, [], [(20, [0], [60, 1, 1, 197, 5, 2]), (20, [2, 0], [50, 1, 1, 1005, 1002, 1, 2, 1, 0, 3, 1, 2, 2, 1, 5]), (20, [0, 2, 3], [60, 0, 1, 376, 129]), (20, [0], [50, 1, 3, 5, 2, 128, 127, 5, 2, 0, 24, 4, 14, 0, 6, 4, 2, 7, 0, 0, 1, 3, 0, 2, 2, 0, 5, 2, 9, 0, 2, 0, (Int.negSucc 0), 3, 0, 128, 7, 0, 2, 9, 0, 5, 3, 0, 128, 7, 0, 0, 24, 4, 9, 0, 2, 0, 0, 3, 0, 127, 7, 0, 2, 17, 0, 9, 4, 5, 3, 0, 127, 7, 0, 0, 1, 3, 0, 2, 2, 0, 5, 2, 12, 0, 2, 0, 0, 3, 0, 128, 3, 0, 127, 7, 0, 0, 12, 4, 8, 3, 0, 128, 3, 0, 127, 7, 0, 0, 1, 3, 0, 128, 7, 0]), (20, [0, 3], [60, 1, 5, 813, 5, 2, 127, 128, 16, 129]), (20, [0, 2], [60, 0, 1, 817, 74])])
def n_Mo_tree_a5 : an_T := (204, [(0, (2, 0, 0, [165])), (1, (0, (Int.negSucc 0), 23, [])), (2, (0, 1, 24, [])), (3, (0, 0, 24, [])), (4, (0, 0, 0, [])), (5, (0, 0, 23, [])), (6, (0, 0, 48, []))], [], (0, 0), [(0, 0, 99805), (1, 5, 24), (0, 0, 99796), (1, 6, 48), (0, 0, 100000)], [(1, 2, (Int.negSucc 999999999999), (Int.negSucc 0)), (5, 2, (Int.negSucc 999999999999), (Int.negSucc 0))], [], [], 0, [], [(20, [0], [60, 1, 1, 197, 5, 2]), (20, [2, 0], [50, 1, 1, 1005, 1002, 1, 2, 1, 0, 3, 1, 2, 2, 1, 5]), (20, [0, 2, 3], [60, 0, 1, 376, 129]), (20, [0], [50, 1, 3, 5, 2, 128, 127, 5, 2, 0, 24, 4, 14, 0, 6, 4, 2, 7, 0, 0, 1, 3, 0, 2, 2, 0, 5, 2, 9, 0, 2, 0, (Int.negSucc 0), 3, 0, 128, 7, 0, 2, 9, 0, 5, 3, 0, 128, 7, 0, 0, 24, 4, 9, 0, 2, 0, 0, 3, 0, 127, 7, 0, 2, 17, 0, 9, 4, 5, 3, 0, 127, 7, 0, 0, 1, 3, 0, 2, 2, 0, 5, 2, 12, 0, 2, 0, 0, 3, 0, 128, 3, 0, 127, 7, 0, 0, 12, 4, 8, 3, 0, 128, 3, 0, 127, 7, 0, 0, 1, 3, 0, 128, 7, 0]), (20, [5, 2], [50, 0, 0, 0, 6, 4, 2, 1, 0, 0, 1, 1, 1]), (20, [0, 3], [60, 1, 5, 813, 5, 2, 127, 128, 16, 129]), (20, [0, 2], [60, 0, 1, 817, 74])])
def n_Mo_tree_a6 : an_T := (307, [(0, (2, 0, 0, [165])), (1, (0, (Int.negSucc 0), 23, [])), (2, (0, 0, 24, [])), (3, (0, 0, 24, [])), (4, (0, 0, 24, [])), (5, (0, 0, 24, []))], [], (0, 0), [(0, 0, 99693), (1, 5, 24), (0, 0, 100000), (0, 0, 0), (0, 0, 0)], [(1, 2, (Int.negSucc 999999999999), (Int.negSucc 0)), (4, 2, (Int.negSucc 999999999999), 23), (4, 5, (Int.negSucc 999999999999), 23), (5, 2, (Int.negSucc 999999999999), 0)], [], [], 0, [], [(20, [0, 2, 3], [60, 0, 1, 376, 129]), (20, [0], [50, 1, 3, 5, 2, 128, 127, 5, 2, 0, 24, 4, 14, 0, 6, 4, 2, 7, 0, 0, 1, 3, 0, 2, 2, 0, 5, 2, 9, 0, 2, 0, (Int.negSucc 0), 3, 0, 128, 7, 0, 2, 9, 0, 5, 3, 0, 128, 7, 0, 0, 24, 4, 9, 0, 2, 0, 0, 3, 0, 127, 7, 0, 2, 17, 0, 9, 4, 5, 3, 0, 127, 7, 0, 0, 1, 3, 0, 2, 2, 0, 5, 2, 12, 0, 2, 0, 0, 3, 0, 128, 3, 0, 127, 7, 0, 0, 12, 4, 8, 3, 0, 128, 3, 0, 127, 7, 0, 0, 1, 3, 0, 128, 7, 0]), (20, [0, 3], [60, 1, 5, 813, 5, 2, 127, 128, 16, 129]), (20, [2, 0], [50, 1, 1, 1005, 1002, 1, 2, 1, 0, 3, 1, 2, 2, 1, 5]), (20, [0, 2], [60, 0, 1, 817, 74])])
def n_Mo_tree_a7 : an_T := (337, [(0, (2, 0, 0, [165])), (1, (0, (Int.negSucc 0), 23, [])), (2, (0, 0, 24, [])), (3, (0, 0, 24, [])), (4, (0, 0, 24, [])), (5, (0, (Int.negSucc 0), 24, []))], [], (0, 0), [(0, 0, 99663), (2, 5, (Int.negSucc 0)), (0, 0, 100000), (0, 0, 0), (0, 0, 0)], [(1, 2, (Int.negSucc 999999999999), (Int.negSucc 0)), (4, 2, (Int.negSucc 999999999999), 23), (5, 2, (Int.negSucc 999999999999), 23), (5, 4, (Int.negSucc 999999999999), 0)], [], [], 0, [], [(20, [0, 2, 3], [60, 0, 1, 376, 129]), (20, [0], [50, 1, 3, 5, 2, 128, 127, 5, 2, 0, 24, 4, 14, 0, 6, 4, 2, 7, 0, 0, 1, 3, 0, 2, 2, 0, 5, 2, 9, 0, 2, 0, (Int.negSucc 0), 3, 0, 128, 7, 0, 2, 9, 0, 5, 3, 0, 128, 7, 0, 0, 24, 4, 9, 0, 2, 0, 0, 3, 0, 127, 7, 0, 2, 17, 0, 9, 4, 5, 3, 0, 127, 7, 0, 0, 1, 3, 0, 2, 2, 0, 5, 2, 12, 0, 2, 0, 0, 3, 0, 128, 3, 0, 127, 7, 0, 0, 12, 4, 8, 3, 0, 128, 3, 0, 127, 7, 0, 0, 1, 3, 0, 128, 7, 0]), (20, [0, 3], [60, 1, 5, 813, 5, 2, 127, 128, 16, 129]), (20, [2, 0], [50, 1, 1, 1005, 1002, 1, 2, 1, 0, 3, 1, 2, 2, 1, 5]), (20, [0, 5], [60, 1, 4, 815, 5, 2, 74, 127, 128])])
def n_Mo_tree_a8 : an_T := (345, [(0, (2, 0, 0, [165])), (1, (0, (Int.negSucc 0), 23, [])), (2, (0, 0, 24, [])), (3, (0, 0, 24, [])), (4, (0, 0, 24, [])), (5, (0, 0, 24, [])), (6, (0, 0, 24, []))], [], (0, 0), [(0, 0, 99663), (2, 5, (Int.negSucc 0)), (0, 0, 99655), (1, 6, 24), (0, 0, 100000)], [(1, 2, (Int.negSucc 999999999999), (Int.negSucc 0)), (4, 2, (Int.negSucc 999999999999), 23), (5, 2, (Int.negSucc 999999999999), 23), (5, 4, (Int.negSucc 999999999999), 0), (6, 2, (Int.negSucc 999999999999), 0)], [], [], 0, [], [(20, [0, 2, 3], [60, 0, 1, 376, 129]), (20, [0], [50, 1, 3, 5, 2, 128, 127, 5, 2, 0, 24, 4, 14, 0, 6, 4, 2, 7, 0, 0, 1, 3, 0, 2, 2, 0, 5, 2, 9, 0, 2, 0, (Int.negSucc 0), 3, 0, 128, 7, 0, 2, 9, 0, 5, 3, 0, 128, 7, 0, 0, 24, 4, 9, 0, 2, 0, 0, 3, 0, 127, 7, 0, 2, 17, 0, 9, 4, 5, 3, 0, 127, 7, 0, 0, 1, 3, 0, 2, 2, 0, 5, 2, 12, 0, 2, 0, 0, 3, 0, 128, 3, 0, 127, 7, 0, 0, 12, 4, 8, 3, 0, 128, 3, 0, 127, 7, 0, 0, 1, 3, 0, 128, 7, 0]), (20, [0, 3], [60, 1, 5, 813, 5, 2, 127, 128, 16, 129]), (20, [2, 0], [50, 1, 1, 1005, 1002, 1, 2, 1, 0, 3, 1, 2, 2, 1, 5]), (20, [0, 5, 6], [60, 1, 4, 814, 5, 2, 74, 127, 128])])
def n_Mo_tree_a9 : an_T := (384, [(0, (2, 0, 0, [165])), (1, (0, (Int.negSucc 0), 23, [])), (2, (0, 0, 24, [])), (3, (0, 0, 24, [])), (4, (0, 0, 24, [])), (5, (0, 1, 24, []))], [], (0, 0), [(0, 0, 99616), (1, 5, 24), (0, 0, 100000), (0, 0, 0), (0, 0, 0)], [(1, 2, (Int.negSucc 999999999999), (Int.negSucc 0)), (4, 2, (Int.negSucc 999999999999), 23), (5, 3, (Int.negSucc 999999999999), 1)], [], [], 0, [], [(20, [0, 2, 3], [60, 0, 1, 376, 129]), (20, [0], [50, 1, 3, 5, 2, 128, 127, 5, 2, 0, 24, 4, 14, 0, 6, 4, 2, 7, 0, 0, 1, 3, 0, 2, 2, 0, 5, 2, 9, 0, 2, 0, (Int.negSucc 0), 3, 0, 128, 7, 0, 2, 9, 0, 5, 3, 0, 128, 7, 0, 0, 24, 4, 9, 0, 2, 0, 0, 3, 0, 127, 7, 0, 2, 17, 0, 9, 4, 5, 3, 0, 127, 7, 0, 0, 1, 3, 0, 2, 2, 0, 5, 2, 12, 0, 2, 0, 0, 3, 0, 128, 3, 0, 127, 7, 0, 0, 12, 4, 8, 3, 0, 128, 3, 0, 127, 7, 0, 0, 1, 3, 0, 128, 7, 0]), (20, [0, 3], [60, 1, 5, 813, 5, 2, 127, 128, 16, 129]), (20, [2, 0], [50, 1, 1, 1005, 1002, 1, 2, 1, 0, 3, 1, 2, 2, 1, 5]), (20, [0, 5], [60, 1, 3, 816, 5, 2, 74, 127]), (20, [5, 3], [50, 0, 0, 3, 6, 0, 2, 1, 0, 1, 1, 0, 2, 1, 0, 0, 1])])
def n_Mo_tree_a10 : an_T := (417, [(0, (2, 0, 0, [165])), (1, (0, (Int.negSucc 0), 23, [])), (2, (0, 0, 24, [])), (3, (0, 0, 24, [])), (4, (0, 0, 24, [])), (5, (0, (Int.negSucc 299999999), 1000000, [])), (6, (0, 0, 24, []))], [], (0, 0), [(0, 0, 99583), (1, 6, 24), (0, 0, 100000), (0, 0, 0), (0, 0, 0)], [(1, 2, (Int.negSucc 999999999999), (Int.negSucc 0)), (4, 2, (Int.negSucc 999999999999), 23), (6, 2, (Int.negSucc 999999999999), 0)], [], [], 0, [], [(20, [0, 2], [60, 0, 1, 818, 74]), (20, [5], [50, 0, 0, 2, 6, 0, 2, 0, (Int.negSucc 67108863), 1, 0, 0, 2, 1, 0, 0, 1000000])])
def n_Mo_tree_a11 : an_T := (446, [(0, (2, 0, 0, [165])), (1, (0, (Int.negSucc 0), 23, [])), (2, (0, 0, 24, [])), (3, (0, 0, 24, [])), (4, (0, 0, 24, [])), (5, (0, (Int.negSucc 299999999), 1000000, [])), (6, (0, 0, 24, []))], [], (0, 0), [(0, 0, 99554), (1, 6, 24), (0, 0, 100000), (0, 0, 0), (0, 0, 0)], [(1, 2, (Int.negSucc 999999999999), (Int.negSucc 0)), (4, 2, (Int.negSucc 999999999999), 23), (6, 2, (Int.negSucc 999999999999), 0)], [], [], 0, [], [(20, [0, 2, 6], [60, 0, 1, 819, 74]), (20, [5], [50, 0, 0, 2, 6, 0, 2, 0, (Int.negSucc 67108863), 1, 0, 0, 2, 1, 0, 0, 1000000])])
def n_Mo_tree_an : List an_T := [n_Mo_tree_a0, n_Mo_tree_a1, n_Mo_tree_a2, n_Mo_tree_a3, n_Mo_tree_a4, n_Mo_tree_a5, n_Mo_tree_a6, n_Mo_tree_a7, n_Mo_tree_a8, n_Mo_tree_a9, n_Mo_tree_a10, n_Mo_tree_a11]
def x_Mo_tree_ft : ft_L := [(29, 13, 16), (159, 13, 74), (162, 13, 75), (290, 13, 127), (293, 13, 128), (296, 13, 129)]
def x_Mo_tree_pt : pt_L := []
def x_Mo_tree_kt : kt_L := [(1, 546, .int (1000000), (0, 1000000, 1000000, []))]
def x_Mo_tree_nt : nt_L := []
def x_Mo_tree_ot : List or_T := [o_Mo_tree_0, o_Mo_tree_1, o_Mo_tree_2, o_Mo_tree_3, o_Mo_tree_4, o_Mo_tree_5, o_Mo_tree_6, o_Mo_tree_7, o_Mo_tree_8, o_Mo_tree_9, o_Mo_tree_10, o_Mo_tree_11, o_Mo_tree_12, o_Mo_tree_13, o_Mo_tree_14, o_Mo_tree_15, o_Mo_tree_16, o_Mo_tree_17, o_Mo_tree_18, o_Mo_tree_19, o_Mo_tree_20, o_Mo_tree_21, o_Mo_tree_22, o_Mo_tree_23, o_Mo_tree_24, o_Mo_tree_25, o_Mo_tree_26, o_Mo_tree_27, o_Mo_tree_28, o_Mo_tree_29, o_Mo_tree_30, o_Mo_tree_31, o_Mo_tree_32, o_Mo_tree_33, o_Mo_tree_34, o_Mo_tree_35, o_Mo_tree_36]
set_option maxRecDepth 100000 in
theorem g_Mo_tree_0 : chk_an b_Mo_tree 9 (some .int) e_Mo_tree GG x_Mo_tree_ft x_Mo_tree_pt t_Mo_tree_ct x_Mo_tree_kt x_Mo_tree_nt n_Mo_tree_an x_Mo_tree_ot 5 1248 n_Mo_tree_a0 = true := by decide +kernel
set_option maxRecDepth 100000 in
theorem g_Mo_tree_1 : chk_an b_Mo_tree 9 (some .int) e_Mo_tree GG x_Mo_tree_ft x_Mo_tree_pt t_Mo_tree_ct x_Mo_tree_kt x_Mo_tree_nt n_Mo_tree_an x_Mo_tree_ot 5 1248 n_Mo_tree_a1 = true := by decide +kernel
set_option maxRecDepth 100000 in
theorem g_Mo_tree_2 : chk_an b_Mo_tree 9 (some .int) e_Mo_tree GG x_Mo_tree_ft x_Mo_tree_pt t_Mo_tree_ct x_Mo_tree_kt x_Mo_tree_nt n_Mo_tree_an x_Mo_tree_ot 5 1248 n_Mo_tree_a2 = true := by decide +kernel
set_option maxRecDepth 100000 in
theorem g_Mo_tree_3 : chk_an b_Mo_tree 9 (some .int) e_Mo_tree GG x_Mo_tree_ft x_Mo_tree_pt t_Mo_tree_ct x_Mo_tree_kt x_Mo_tree_nt n_Mo_tree_an x_Mo_tree_ot 5 1248 n_Mo_tree_a3 = true := by decide +kernel
set_option maxRecDepth 100000 in
theorem g_Mo_tree_4 : chk_an b_Mo_tree 9 (some .int) e_Mo_tree GG x_Mo_tree_ft x_Mo_tree_pt t_Mo_tree_ct x_Mo_tree_kt x_Mo_tree_nt n_Mo_tree_an x_Mo_tree_ot 5 1248 n_Mo_tree_a4 = true := by decide +kernel
set_option maxRecDepth 100000 in
theorem g_Mo_tree_5 : chk_an b_Mo_tree 9 (some .int) e_Mo_tree GG x_Mo_tree_ft x_Mo_tree_pt t_Mo_tree_ct x_Mo_tree_kt x_Mo_tree_nt n_Mo_tree_an x_Mo_tree_ot 5 1248 n_Mo_tree_a5 = true := by decide +kernel
set_option maxRecDepth 100000 in
theorem g_Mo_tree_6 : chk_an b_Mo_tree 9 (some .int) e_Mo_tree GG x_Mo_tree_ft x_Mo_tree_pt t_Mo_tree_ct x_Mo_tree_kt x_Mo_tree_nt n_Mo_tree_an x_Mo_tree_ot 5 1248 n_Mo_tree_a6 = true := by decide +kernel
set_option maxRecDepth 100000 in
theorem g_Mo_tree_7 : chk_an b_Mo_tree 9 (some .int) e_Mo_tree GG x_Mo_tree_ft x_Mo_tree_pt t_Mo_tree_ct x_Mo_tree_kt x_Mo_tree_nt n_Mo_tree_an x_Mo_tree_ot 5 1248 n_Mo_tree_a7 = true := by decide +kernel
set_option maxRecDepth 100000 in
theorem g_Mo_tree_8 : chk_an b_Mo_tree 9 (some .int) e_Mo_tree GG x_Mo_tree_ft x_Mo_tree_pt t_Mo_tree_ct x_Mo_tree_kt x_Mo_tree_nt n_Mo_tree_an x_Mo_tree_ot 5 1248 n_Mo_tree_a8 = true := by decide +kernel
set_option maxRecDepth 100000 in
theorem g_Mo_tree_9 : chk_an b_Mo_tree 9 (some .int) e_Mo_tree GG x_Mo_tree_ft x_Mo_tree_pt t_Mo_tree_ct x_Mo_tree_kt x_Mo_tree_nt n_Mo_tree_an x_Mo_tree_ot 5 1248 n_Mo_tree_a9 = true := by decide +kernel
set_option maxRecDepth 100000 in
theorem g_Mo_tree_10 : chk_an b_Mo_tree 9 (some .int) e_Mo_tree GG x_Mo_tree_ft x_Mo_tree_pt t_Mo_tree_ct x_Mo_tree_kt x_Mo_tree_nt n_Mo_tree_an x_Mo_tree_ot 5 1248 n_Mo_tree_a10 = true := by decide +kernel
set_option maxRecDepth 100000 in
theorem g_Mo_tree_11 : chk_an b_Mo_tree 9 (some .int) e_Mo_tree GG x_Mo_tree_ft x_Mo_tree_pt t_Mo_tree_ct x_Mo_tree_kt x_Mo_tree_nt n_Mo_tree_an x_Mo_tree_ot 5 1248 n_Mo_tree_a11 = true := by decide +kernel
set_option maxRecDepth 100000 in
theorem g_Mo_tree_s : chk b_Mo_tree 9 (some .int) e_Mo_tree GG x_Mo_tree_ft x_Mo_tree_pt t_Mo_tree_ct x_Mo_tree_kt x_Mo_tree_nt n_Mo_tree_an x_Mo_tree_ot 100000 (List.replicate 5 me_0) 1248 true (0, en_y e_Mo_tree, 0, 0, an_fs x_Mo_tree_ot e_Mo_tree.2.2.2.2.2.2.2.2.2.2.1) = true := by decide +kernel
set_option maxRecDepth 100000 in
theorem c_Mo_tree {l : Launch} {D : va_G} {kA : Nat → ClassId} (h_Mo_children : ct_ok PRD l D kA GG y_Mo_children z_Mo_children e_Mo_children) (h_Mo_edges : ct_ok PRD l D kA GG y_Mo_edges z_Mo_edges e_Mo_edges) (h_Mo_hangs : ct_ok PRD l D kA GG y_Mo_hangs z_Mo_hangs e_Mo_hangs) (h_Mo_head : ct_ok PRD l D kA GG y_Mo_head z_Mo_head e_Mo_head) (h_Mo_in : ct_ok PRD l D kA GG y_Mo_in z_Mo_in e_Mo_in) (h_Mo_max : ct_ok PRD l D kA GG y_Mo_max z_Mo_max e_Mo_max) (h_Mo_min : ct_ok PRD l D kA GG y_Mo_min z_Mo_min e_Mo_min) (h_Mo_nearer : ct_ok PRD l D kA GG y_Mo_nearer z_Mo_nearer e_Mo_nearer) (h_Mo_nodes : ct_ok PRD l D kA GG y_Mo_nodes z_Mo_nodes e_Mo_nodes) (h_Mo_parts : ct_ok PRD l D kA GG y_Mo_parts z_Mo_parts e_Mo_parts) (h_Mo_tail : ct_ok PRD l D kA GG y_Mo_tail z_Mo_tail e_Mo_tail) : ct_ok PRD l D kA GG y_Mo_tree z_Mo_tree e_Mo_tree := chk_all_ok (FT := [(29, 13, 16), (159, 13, 74), (162, 13, 75), (290, 13, 127), (293, 13, 128), (296, 13, 129)]) (PT := []) (CT := t_Mo_tree_ct) (KT := [(1, 546, .int (1000000), (0, 1000000, 1000000, []))]) (NT := []) (AN := n_Mo_tree_an) (OT := [o_Mo_tree_0, o_Mo_tree_1, o_Mo_tree_2, o_Mo_tree_3, o_Mo_tree_4, o_Mo_tree_5, o_Mo_tree_6, o_Mo_tree_7, o_Mo_tree_8, o_Mo_tree_9, o_Mo_tree_10, o_Mo_tree_11, o_Mo_tree_12, o_Mo_tree_13, o_Mo_tree_14, o_Mo_tree_15, o_Mo_tree_16, o_Mo_tree_17, o_Mo_tree_18, o_Mo_tree_19, o_Mo_tree_20, o_Mo_tree_21, o_Mo_tree_22, o_Mo_tree_23, o_Mo_tree_24, o_Mo_tree_25, o_Mo_tree_26, o_Mo_tree_27, o_Mo_tree_28, o_Mo_tree_29, o_Mo_tree_30, o_Mo_tree_31, o_Mo_tree_32, o_Mo_tree_33, o_Mo_tree_34, o_Mo_tree_35, o_Mo_tree_36]) 5 1248 (List.forall_mem_cons.mpr ⟨oo_Mo_tree_0, List.forall_mem_cons.mpr ⟨oo_Mo_tree_1, List.forall_mem_cons.mpr ⟨oo_Mo_tree_2, List.forall_mem_cons.mpr ⟨oo_Mo_tree_3, List.forall_mem_cons.mpr ⟨oo_Mo_tree_4, List.forall_mem_cons.mpr ⟨oo_Mo_tree_5, List.forall_mem_cons.mpr ⟨oo_Mo_tree_6, List.forall_mem_cons.mpr ⟨oo_Mo_tree_7, List.forall_mem_cons.mpr ⟨oo_Mo_tree_8, List.forall_mem_cons.mpr ⟨oo_Mo_tree_9, List.forall_mem_cons.mpr ⟨oo_Mo_tree_10, List.forall_mem_cons.mpr ⟨oo_Mo_tree_11, List.forall_mem_cons.mpr ⟨oo_Mo_tree_12, List.forall_mem_cons.mpr ⟨oo_Mo_tree_13, List.forall_mem_cons.mpr ⟨oo_Mo_tree_14, List.forall_mem_cons.mpr ⟨oo_Mo_tree_15, List.forall_mem_cons.mpr ⟨oo_Mo_tree_16, List.forall_mem_cons.mpr ⟨oo_Mo_tree_17, List.forall_mem_cons.mpr ⟨oo_Mo_tree_18, List.forall_mem_cons.mpr ⟨oo_Mo_tree_19, List.forall_mem_cons.mpr ⟨oo_Mo_tree_20, List.forall_mem_cons.mpr ⟨oo_Mo_tree_21, List.forall_mem_cons.mpr ⟨oo_Mo_tree_22, List.forall_mem_cons.mpr ⟨oo_Mo_tree_23, List.forall_mem_cons.mpr ⟨oo_Mo_tree_24, List.forall_mem_cons.mpr ⟨oo_Mo_tree_25, List.forall_mem_cons.mpr ⟨oo_Mo_tree_26, List.forall_mem_cons.mpr ⟨oo_Mo_tree_27, List.forall_mem_cons.mpr ⟨oo_Mo_tree_28, List.forall_mem_cons.mpr ⟨oo_Mo_tree_29, List.forall_mem_cons.mpr ⟨oo_Mo_tree_30, List.forall_mem_cons.mpr ⟨oo_Mo_tree_31, List.forall_mem_cons.mpr ⟨oo_Mo_tree_32, List.forall_mem_cons.mpr ⟨oo_Mo_tree_33, List.forall_mem_cons.mpr ⟨oo_Mo_tree_34, List.forall_mem_cons.mpr ⟨oo_Mo_tree_35, List.forall_mem_cons.mpr ⟨oo_Mo_tree_36, List.forall_mem_nil _⟩⟩⟩⟩⟩⟩⟩⟩⟩⟩⟩⟩⟩⟩⟩⟩⟩⟩⟩⟩⟩⟩⟩⟩⟩⟩⟩⟩⟩⟩⟩⟩⟩⟩⟩⟩⟩) (by decide +kernel) ⟨List.forall_mem_cons.mpr ⟨gf_Mo_29, List.forall_mem_cons.mpr ⟨gf_Mo_159, List.forall_mem_cons.mpr ⟨gf_Mo_162, List.forall_mem_cons.mpr ⟨gf_Mo_290, List.forall_mem_cons.mpr ⟨gf_Mo_293, List.forall_mem_cons.mpr ⟨gf_Mo_296, List.forall_mem_nil _⟩⟩⟩⟩⟩⟩, List.forall_mem_nil _, List.forall_mem_cons.mpr ⟨cl_static (y := y_Mo_in) h_Mo_in wm_2971 wm_9 wm_2969 wm_2970 ⟨by decide, by decide, by decide +kernel⟩ (by decide), List.forall_mem_cons.mpr ⟨cl_static (y := y_Mo_min) h_Mo_min wm_3174 wm_9 wm_3172 wm_3173 ⟨by decide, by decide, by decide +kernel⟩ (by decide), List.forall_mem_cons.mpr ⟨cl_static (y := y_Mo_max) h_Mo_max wm_3430 wm_9 wm_3428 wm_3429 ⟨by decide, by decide, by decide +kernel⟩ (by decide), List.forall_mem_cons.mpr ⟨cl_virtual (y := y_Mo_tail) (ci := 13) rfl rfl ⟨_, _, rfl⟩ (by decide +kernel) h_Mo_tail wm_3045 wm_9 wm_3042 wm_3044 wv_13_8 ⟨by decide, by decide, by decide +kernel⟩ (by decide), List.forall_mem_cons.mpr ⟨cl_virtual (y := y_Mo_head) (ci := 13) rfl rfl ⟨_, _, rfl⟩ (by decide +kernel) h_Mo_head wm_3049 wm_9 wm_3046 wm_3048 wv_13_9 ⟨by decide, by decide, by decide +kernel⟩ (by decide), List.forall_mem_cons.mpr ⟨cl_virtual (y := y_Mo_edges) (ci := 13) rfl rfl ⟨_, _, rfl⟩ (by decide +kernel) h_Mo_edges wm_3037 wm_9 wm_3034 wm_3036 wv_13_6 ⟨by decide, by decide, by decide +kernel⟩ (by decide), List.forall_mem_cons.mpr ⟨cl_virtual (y := y_Mo_nodes) (ci := 13) rfl rfl ⟨_, _, rfl⟩ (by decide +kernel) h_Mo_nodes wm_3025 wm_9 wm_3022 wm_3024 wv_13_3 ⟨by decide, by decide, by decide +kernel⟩ (by decide), List.forall_mem_cons.mpr ⟨cl_virtual (y := y_Mo_parts) (ci := 13) rfl rfl ⟨_, _, rfl⟩ (by decide +kernel) h_Mo_parts wm_3283 wm_9 wm_3280 wm_3282 wv_16_11 ⟨by decide, by decide, by decide +kernel⟩ (by decide), List.forall_mem_cons.mpr ⟨cl_virtual (y := y_Mo_hangs) (ci := 13) rfl rfl ⟨_, _, rfl⟩ (by decide +kernel) h_Mo_hangs wm_3564 wm_9 wm_3561 wm_3563 wv_20_10 ⟨by decide, by decide, by decide +kernel⟩ (by decide), List.forall_mem_cons.mpr ⟨cl_virtual (y := y_Mo_children) (ci := 13) rfl rfl ⟨_, _, rfl⟩ (by decide +kernel) h_Mo_children wm_3568 wm_9 wm_3565 wm_3567 wv_20_11 ⟨by decide, by decide, by decide +kernel⟩ (by decide), List.forall_mem_cons.mpr ⟨cl_virtual (y := y_Mo_nearer) (ci := 13) rfl rfl ⟨_, _, rfl⟩ (by decide +kernel) h_Mo_nearer wm_3572 wm_9 wm_3569 wm_3571 wv_20_12 ⟨by decide, by decide, by decide +kernel⟩ (by decide), List.forall_mem_nil _⟩⟩⟩⟩⟩⟩⟩⟩⟩⟩⟩, List.forall_mem_cons.mpr ⟨kx_Mo_1_546, List.forall_mem_nil _⟩, List.forall_mem_nil _, GG_pl⟩ (chk_mk (by decide +kernel) (List.forall_mem_cons.mpr ⟨g_Mo_tree_0, List.forall_mem_cons.mpr ⟨g_Mo_tree_1, List.forall_mem_cons.mpr ⟨g_Mo_tree_2, List.forall_mem_cons.mpr ⟨g_Mo_tree_3, List.forall_mem_cons.mpr ⟨g_Mo_tree_4, List.forall_mem_cons.mpr ⟨g_Mo_tree_5, List.forall_mem_cons.mpr ⟨g_Mo_tree_6, List.forall_mem_cons.mpr ⟨g_Mo_tree_7, List.forall_mem_cons.mpr ⟨g_Mo_tree_8, List.forall_mem_cons.mpr ⟨g_Mo_tree_9, List.forall_mem_cons.mpr ⟨g_Mo_tree_10, List.forall_mem_cons.mpr ⟨g_Mo_tree_11, List.forall_mem_nil _⟩⟩⟩⟩⟩⟩⟩⟩⟩⟩⟩⟩) g_Mo_tree_s)

set_option maxHeartbeats 4000000 in
theorem vc_Mo_draws_0_0 (x1 : Int) (x3 : Int) (x4 : Int) (x5 : Int) (x7 : Int) (pm_0 : Int) (alive_0 : Int → Int) (blockOf_0 : Int → Int) (k1 : 0 ≤ x1 ∧ x1 ≤ 79) (k3 : (-1) ≤ x3 ∧ x3 ≤ (-1)) (k4 : 0 ≤ x4 ∧ x4 ≤ 0) (k5 : 0 ≤ x5 ∧ x5 ≤ 80) (k7 : (-1) ≤ x7 ∧ x7 ≤ 79) (d0 : x5 + (-1) ≤ x7 ∧ x7 ≤ x5 + (-1)) (g1 : x5 = pm_0) (hK_0_35 : ∀ j : Int, 0 ≤ j → j < 80 → 0 ≤ alive_0 j ∧ alive_0 j ≤ 1) (kz_0_32 : 0 ≤ pm_0 ∧ pm_0 ≤ 80) : D0 (pm_0) (alive_0) (blockOf_0) (x1) (x3) (x4) (x7) := by
  first
    | exact ⟨Or.inl ⟨by omega, by omega, fun f z => by have := z.1.2.1; have := z.2; omega⟩, by omega⟩
    | exact d0_skip (e := x7) ‹D0 _ _ _ _ _ _ _› (by omega) (Or.inl (by omega))
    | exact d0_skip (e := x7) ‹D0 _ _ _ _ _ _ _› (by omega) (Or.inr (by omega))
    | exact d0_take (e := x7) ‹D0 _ _ _ _ _ _ _› (by omega) (by omega) (by have := d0_c ‹D0 _ _ _ _ _ _ _›; omega) (by have := hK_0_35 x7 (by omega) (by omega); omega) (by omega) (by omega)
def o_Mo_draws_0 : or_T := (12, 8, [(0, (2, 0, 0, [165])), (1, (0, 0, 79, [])), (3, (0, -1, -1, [])), (4, (0, 0, 0, [])), (5, (0, 0, 80, [])), (7, (0, -1, 79, []))], [(9, [5, 0], [32])], [], [], [(20, [0, 1, 3, 4, 7], [60, 1, 2, 157, 32, 35, 17]), (24, [0, 0], []), (24, [1, 1], [])], [], [(7, 5, -1, -1)])
theorem oo_Mo_draws_0 {kA : Nat → ClassId} : or_ok PRD kA GG o_Mo_draws_0 := by
  refine or_mk fun A ta ws vs hD hth hl => ?_
  intro t0 r0 t1 k1 t3 k3 t4 k4 t5 k5 t7 k7 d0 f1
  replace f1 := shm_525 f1
  have cr_0_35 := fdq_132 hD hth r0
  have g1 : v_iv (n_v vs 5) = w_fi ws (n_v vs 0) 32 := congrArg v_iv f1
  have hK_0_35 := elq_72 hD hth cr_0_35
  have kz_0_32 := fdq_140 hD hth r0
  have nf0 : fc_1 PRD (20, [0, 1, 3, 4, 7], [60, 1, 2, 157, 32, 35, 17]) ws (vs) := ⟨nf_in hl rfl, sgq_1967 (vc_Mo_draws_0_0 (v_iv (n_v vs 1)) (v_iv (n_v vs 3)) (v_iv (n_v vs 4)) (v_iv (n_v vs 5)) (v_iv (n_v vs 7)) (w_fi ws (n_v vs 0) 32) (w_ei ws (w_ar ws (n_v vs 0) 35)) (w_ei ws (w_ar ws (n_v vs 0) 17)) k1 k3 k4 k5 k7 d0 g1 hK_0_35 kz_0_32)⟩
  have nf1 : fc_1 PRD (24, [0, 0], []) ws (vs) := by
    refine ⟨nf_in hl rfl, sgq_1 ?_⟩
    · show n_v vs 0 = n_v vs 0
      first | rfl | simp only [true_and]
  have nf2 : fc_1 PRD (24, [1, 1], []) ws (vs) := by
    refine ⟨nf_in hl rfl, sgq_1 ?_⟩
    · show n_v vs 1 = n_v vs 1
      first | rfl | simp only [true_and]
  refine ⟨(fun _ h => (by cases h)), [], trivial, ?_, (fun _ h => (by cases h))⟩
  rw [List.append_nil]
  exact List.forall_mem_cons.mpr ⟨⟨show (20 : Nat) < 100 from by decide, nf0⟩, List.forall_mem_cons.mpr ⟨⟨show (24 : Nat) < 100 from by decide, nf1⟩, List.forall_mem_cons.mpr ⟨⟨show (24 : Nat) < 100 from by decide, nf2⟩, (fun _ h => (by cases h))⟩⟩⟩
set_option maxHeartbeats 4000000 in
theorem vc_Mo_draws_1_0 (x8 : Int) (pt_0 : Int → Int) (ph_0 : Int → Int) (pn_0 : Int) (pm_0 : Int) (alive_0 : Int → Int) (blockOf_0 : Int → Int) (onlyPiece_0 : Int) (pt_1 : Int → Int) (ph_1 : Int → Int) (pn_1 : Int) (pm_1 : Int) (alive_1 : Int → Int) (blockOf_1 : Int → Int) (onlyPiece_1 : Int) (faces_0 : Int) (drawnNode_0 : Int → Int) (drawnNode_1 : Int → Int) (k8 : 0 ≤ x8 ∧ x8 ≤ 0) (fe_0_31_1 : pn_0 = pn_1) (fe_0_32_1 : pm_0 = pm_1) (fe_0_39_1 : faces_0 = x8) (fe_0_49_1 : onlyPiece_0 = onlyPiece_1) (hE_0_17_1 : ∀ j : Int, blockOf_0 j = blockOf_1 j) (hE_0_33_1 : ∀ j : Int, pt_0 j = pt_1 j) (hE_0_34_1 : ∀ j : Int, ph_0 j = ph_1 j) (hE_0_35_1 : ∀ j : Int, alive_0 j = alive_1 j) (hE_0_42_1 : ∀ j : Int, drawnNode_0 j = drawnNode_1 j) (kz_0_31 : 0 ≤ pn_0 ∧ pn_0 ≤ 25) (kz_0_32 : 0 ≤ pm_0 ∧ pm_0 ≤ 80) (kz_0_39 : 0 ≤ faces_0 ∧ faces_0 ≤ 120) (kz_0_49 : (-1) ≤ onlyPiece_0 ∧ onlyPiece_0 ≤ 79) : faces_0 = 0 := by
  subst fe_0_31_1
  subst fe_0_32_1
  subst fe_0_49_1
  have e_hE_0_17_1 := funext hE_0_17_1; subst e_hE_0_17_1
  have e_hE_0_33_1 := funext hE_0_33_1; subst e_hE_0_33_1
  have e_hE_0_34_1 := funext hE_0_34_1; subst e_hE_0_34_1
  have e_hE_0_35_1 := funext hE_0_35_1; subst e_hE_0_35_1
  have e_hE_0_42_1 := funext hE_0_42_1; subst e_hE_0_42_1
  first | omega
set_option maxHeartbeats 4000000 in
theorem vc_Mo_draws_1_1 (x1 : Int) (x5 : Int) (x6 : Int) (x7 : Int) (pt_0 : Int → Int) (ph_0 : Int → Int) (pn_0 : Int) (pm_0 : Int) (alive_0 : Int → Int) (blockOf_0 : Int → Int) (onlyPiece_0 : Int) (pt_1 : Int → Int) (ph_1 : Int → Int) (pn_1 : Int) (pm_1 : Int) (alive_1 : Int → Int) (blockOf_1 : Int → Int) (onlyPiece_1 : Int) (drawnNode_0 : Int → Int) (drawnNode_1 : Int → Int) (k1 : 0 ≤ x1 ∧ x1 ≤ 79) (k5 : (-1) ≤ x5 ∧ x5 ≤ 79) (k6 : 0 ≤ x6 ∧ x6 ≤ 81) (k7 : (-1) ≤ x7 ∧ x7 ≤ (-1)) (f13 : D0 (pm_1) (alive_1) (blockOf_1) (x1) (x5) (x6) (x7)) (fe_0_31_1 : pn_0 = pn_1) (fe_0_32_1 : pm_0 = pm_1) (fe_0_49_1 : onlyPiece_0 = onlyPiece_1) (hE_0_17_1 : ∀ j : Int, blockOf_0 j = blockOf_1 j) (hE_0_33_1 : ∀ j : Int, pt_0 j = pt_1 j) (hE_0_34_1 : ∀ j : Int, ph_0 j = ph_1 j) (hE_0_35_1 : ∀ j : Int, alive_0 j = alive_1 j) (hE_0_42_1 : ∀ j : Int, drawnNode_0 j = drawnNode_1 j) (kz_0_31 : 0 ≤ pn_0 ∧ pn_0 ≤ 25) (kz_0_32 : 0 ≤ pm_0 ∧ pm_0 ≤ 80) (kz_0_49 : (-1) ≤ onlyPiece_0 ∧ onlyPiece_0 ≤ 79) : D0e (pm_0) (alive_0) (blockOf_0) (x1) (x5) (x6) := by
  subst fe_0_31_1
  subst fe_0_32_1
  subst fe_0_49_1
  have e_hE_0_17_1 := funext hE_0_17_1; subst e_hE_0_17_1
  have e_hE_0_33_1 := funext hE_0_33_1; subst e_hE_0_33_1
  have e_hE_0_34_1 := funext hE_0_34_1; subst e_hE_0_34_1
  have e_hE_0_35_1 := funext hE_0_35_1; subst e_hE_0_35_1
  have e_hE_0_42_1 := funext hE_0_42_1; subst e_hE_0_42_1
  first
    | assumption
    | (have h := ‹D0 _ _ _ _ _ _ _›
       have e : x7 = -1 := by omega
       rw [e] at h; exact h)
set_option maxHeartbeats 4000000 in
theorem vc_Mo_draws_1_2 (x7 : Int) (x9 : Int) (pt_0 : Int → Int) (ph_0 : Int → Int) (pn_0 : Int) (pm_0 : Int) (alive_0 : Int → Int) (blockOf_0 : Int → Int) (onlyPiece_0 : Int) (pt_1 : Int → Int) (ph_1 : Int → Int) (pn_1 : Int) (pm_1 : Int) (alive_1 : Int → Int) (blockOf_1 : Int → Int) (onlyPiece_1 : Int) (drawnNode_0 : Int → Int) (drawnNode_1 : Int → Int) (k9 : 0 ≤ x9 ∧ x9 ≤ 0) (fe_0_31_1 : pn_0 = pn_1) (fe_0_32_1 : pm_0 = pm_1) (fe_0_49_1 : onlyPiece_0 = onlyPiece_1) (hE_0_17_1 : ∀ j : Int, blockOf_0 j = blockOf_1 j) (hE_0_33_1 : ∀ j : Int, pt_0 j = pt_1 j) (hE_0_34_1 : ∀ j : Int, ph_0 j = ph_1 j) (hE_0_35_1 : ∀ j : Int, alive_0 j = alive_1 j) (hE_0_42_1 : ∀ j : Int, drawnNode_0 j = drawnNode_1 j) (kz_0_31 : 0 ≤ pn_0 ∧ pn_0 ≤ 25) (kz_0_32 : 0 ≤ pm_0 ∧ pm_0 ≤ 80) (kz_0_49 : (-1) ≤ onlyPiece_0 ∧ onlyPiece_0 ≤ 79) : D1 (drawnNode_0) (x9) := by
  subst fe_0_31_1
  subst fe_0_32_1
  subst fe_0_49_1
  have e_hE_0_17_1 := funext hE_0_17_1; subst e_hE_0_17_1
  have e_hE_0_33_1 := funext hE_0_33_1; subst e_hE_0_33_1
  have e_hE_0_34_1 := funext hE_0_34_1; subst e_hE_0_34_1
  have e_hE_0_35_1 := funext hE_0_35_1; subst e_hE_0_35_1
  have e_hE_0_42_1 := funext hE_0_42_1; subst e_hE_0_42_1
  first
    | (intro u a b; exfalso; omega)
    | (have h := ‹D1 _ _›
       intro u a b
       by_cases q : u = x7
       · have v := (hE_0_42_1 u a).1 q; omega
       · rw [(hE_0_42_1 u a).2 q]; exact h u a (by omega))
def o_Mo_draws_1 : or_T := (61, 10, [(0, (2, 0, 0, [165])), (1, (0, 0, 79, [])), (5, (0, -1, 79, [])), (6, (0, 0, 81, [])), (7, (0, -1, -1, [])), (8, (0, 0, 0, [])), (9, (0, 0, 0, []))], [(24, [0, 3], []), (24, [1, 4], []), (101, [3, 8], [39]), (20, [3, 4, 5, 6, 7], [60, 1, 2, 157, 32, 35, 17])], [], [], [(20, [3], [50, 1, 0, 39, 1, 3, 2, 0, 39, 0, 0]), (20, [3, 4, 5, 6], [60, 1, 2, 158, 32, 35, 17]), (20, [3, 9], [60, 0, 1, 159, 42])], [], [])
theorem oo_Mo_draws_1 {kA : Nat → ClassId} : or_ok PRD kA GG o_Mo_draws_1 := by
  refine or_mk fun A ta ws vs hD hth hl => ?_
  intro t0 r0 t1 k1 t5 k5 t6 k6 t7 k7 t8 k8 t9 k9 f5 f6 ta1 w1 le1 s1 f13
  replace f5 := shm_5 f5
  replace f6 := shm_5 f6
  have s1 : (∀ b j, w_el ws b j = w_el w1 b j) ∧ ∀ b j, w_fd ws b j = if b = v_ad (n_v vs 3) ∧ j = 39 then n_v vs 8 else w_fd w1 b j := s1.2
  replace f13 := shm_1967 f13
  have q3 : n_v vs 3 = n_v vs 0 := f5.symm
  have q4 : n_v vs 4 = n_v vs 1 := f6.symm
  rw [q3] at s1
  simp only [q3, q4] at f13
  have ar_0_17_1 : w_ar w1 (n_v vs 0) 17 = w_ar ws (n_v vs 0) 17 := by show v_ad (w_fd w1 _ _) = v_ad (w_fd ws _ _); rw [s1.2, if_neg (fun e => absurd e.2 (by decide))]
  have ar_0_33_1 : w_ar w1 (n_v vs 0) 33 = w_ar ws (n_v vs 0) 33 := by show v_ad (w_fd w1 _ _) = v_ad (w_fd ws _ _); rw [s1.2, if_neg (fun e => absurd e.2 (by decide))]
  have ar_0_34_1 : w_ar w1 (n_v vs 0) 34 = w_ar ws (n_v vs 0) 34 := by show v_ad (w_fd w1 _ _) = v_ad (w_fd ws _ _); rw [s1.2, if_neg (fun e => absurd e.2 (by decide))]
  have ar_0_35_1 : w_ar w1 (n_v vs 0) 35 = w_ar ws (n_v vs 0) 35 := by show v_ad (w_fd w1 _ _) = v_ad (w_fd ws _ _); rw [s1.2, if_neg (fun e => absurd e.2 (by decide))]
  simp only [ar_0_33_1, ar_0_34_1, ar_0_17_1, ar_0_35_1] at f13
  have fe_0_31_1 : w_fi ws (n_v vs 0) 31 = w_fi w1 (n_v vs 0) 31 := by show v_iv (w_fd _ _ _) = v_iv (w_fd _ _ _); rw [s1.2, if_neg (fun e => absurd e.2 (by decide))]
  have fe_0_32_1 : w_fi ws (n_v vs 0) 32 = w_fi w1 (n_v vs 0) 32 := by show v_iv (w_fd _ _ _) = v_iv (w_fd _ _ _); rw [s1.2, if_neg (fun e => absurd e.2 (by decide))]
  have fe_0_39_1 : w_fi ws (n_v vs 0) 39 = v_iv (n_v vs 8) := by show v_iv (w_fd _ _ _) = _; rw [s1.2, if_pos ⟨rfl, rfl⟩]
  have fe_0_49_1 : w_fi ws (n_v vs 0) 49 = w_fi w1 (n_v vs 0) 49 := by show v_iv (w_fd _ _ _) = v_iv (w_fd _ _ _); rw [s1.2, if_neg (fun e => absurd e.2 (by decide))]
  have hE_0_17_1 : ∀ j : Int, w_ei ws (w_ar ws (n_v vs 0) 17) j = w_ei w1 (w_ar ws (n_v vs 0) 17) j := fun j => s1.1 _ _
  have hE_0_33_1 : ∀ j : Int, w_ei ws (w_ar ws (n_v vs 0) 33) j = w_ei w1 (w_ar ws (n_v vs 0) 33) j := fun j => s1.1 _ _
  have hE_0_34_1 : ∀ j : Int, w_ei ws (w_ar ws (n_v vs 0) 34) j = w_ei w1 (w_ar ws (n_v vs 0) 34) j := fun j => s1.1 _ _
  have hE_0_35_1 : ∀ j : Int, w_ei ws (w_ar ws (n_v vs 0) 35) j = w_ei w1 (w_ar ws (n_v vs 0) 35) j := fun j => s1.1 _ _
  have hE_0_42_1 : ∀ j : Int, w_ei ws (w_ar ws (n_v vs 0) 42) j = w_ei w1 (w_ar ws (n_v vs 0) 42) j := fun j => s1.1 _ _
  have kz_0_31 := fdq_145 hD hth r0
  have kz_0_32 := fdq_140 hD hth r0
  have kz_0_39 := fdq_135 hD hth r0
  have kz_0_49 := fdq_146 hD hth r0
  have nf0 : fc_1 PRD (20, [3], [50, 1, 0, 39, 1, 3, 2, 0, 39, 0, 0]) ws (vs) := by
    refine ⟨nf_in hl rfl, sgq_1968 ?_⟩
    · show w_fi ws (n_v vs 3) 39 = 0
      rw [q3]
      exact vc_Mo_draws_1_0 (v_iv (n_v vs 8)) (w_ei ws (w_ar ws (n_v vs 0) 33)) (w_ei ws (w_ar ws (n_v vs 0) 34)) (w_fi ws (n_v vs 0) 31) (w_fi ws (n_v vs 0) 32) (w_ei ws (w_ar ws (n_v vs 0) 35)) (w_ei ws (w_ar ws (n_v vs 0) 17)) (w_fi ws (n_v vs 0) 49) (w_ei w1 (w_ar ws (n_v vs 0) 33)) (w_ei w1 (w_ar ws (n_v vs 0) 34)) (w_fi w1 (n_v vs 0) 31) (w_fi w1 (n_v vs 0) 32) (w_ei w1 (w_ar ws (n_v vs 0) 35)) (w_ei w1 (w_ar ws (n_v vs 0) 17)) (w_fi w1 (n_v vs 0) 49) (w_fi ws (n_v vs 0) 39) (w_ei ws (w_ar ws (n_v vs 0) 42)) (w_ei w1 (w_ar ws (n_v vs 0) 42)) k8 fe_0_31_1 fe_0_32_1 fe_0_39_1 fe_0_49_1 hE_0_17_1 hE_0_33_1 hE_0_34_1 hE_0_35_1 hE_0_42_1 kz_0_31 kz_0_32 kz_0_39 kz_0_49
  have nf1 : fc_1 PRD (20, [3, 4, 5, 6], [60, 1, 2, 158, 32, 35, 17]) ws (vs) := by
    refine ⟨nf_in hl rfl, sgq_1969 ?_⟩
    · show D0e (w_fi ws (n_v vs 3) 32) (w_ei ws (w_ar ws (n_v vs 3) 35)) (w_ei ws (w_ar ws (n_v vs 3) 17)) (v_iv (n_v vs 4)) (v_iv (n_v vs 5)) (v_iv (n_v vs 6))
      simp only [q3, q4]
      exact vc_Mo_draws_1_1 (v_iv (n_v vs 1)) (v_iv (n_v vs 5)) (v_iv (n_v vs 6)) (v_iv (n_v vs 7)) (w_ei ws (w_ar ws (n_v vs 0) 33)) (w_ei ws (w_ar ws (n_v vs 0) 34)) (w_fi ws (n_v vs 0) 31) (w_fi ws (n_v vs 0) 32) (w_ei ws (w_ar ws (n_v vs 0) 35)) (w_ei ws (w_ar ws (n_v vs 0) 17)) (w_fi ws (n_v vs 0) 49) (w_ei w1 (w_ar ws (n_v vs 0) 33)) (w_ei w1 (w_ar ws (n_v vs 0) 34)) (w_fi w1 (n_v vs 0) 31) (w_fi w1 (n_v vs 0) 32) (w_ei w1 (w_ar ws (n_v vs 0) 35)) (w_ei w1 (w_ar ws (n_v vs 0) 17)) (w_fi w1 (n_v vs 0) 49) (w_ei ws (w_ar ws (n_v vs 0) 42)) (w_ei w1 (w_ar ws (n_v vs 0) 42)) k1 k5 k6 k7 f13 fe_0_31_1 fe_0_32_1 fe_0_49_1 hE_0_17_1 hE_0_33_1 hE_0_34_1 hE_0_35_1 hE_0_42_1 kz_0_31 kz_0_32 kz_0_49
  have nf2 : fc_1 PRD (20, [3, 9], [60, 0, 1, 159, 42]) ws (vs) := by
    refine ⟨nf_in hl rfl, sgq_1970 ?_⟩
    · show D1 (w_ei ws (w_ar ws (n_v vs 3) 42)) (v_iv (n_v vs 9))
      rw [q3]
      exact vc_Mo_draws_1_2 (v_iv (n_v vs 7)) (v_iv (n_v vs 9)) (w_ei ws (w_ar ws (n_v vs 0) 33)) (w_ei ws (w_ar ws (n_v vs 0) 34)) (w_fi ws (n_v vs 0) 31) (w_fi ws (n_v vs 0) 32) (w_ei ws (w_ar ws (n_v vs 0) 35)) (w_ei ws (w_ar ws (n_v vs 0) 17)) (w_fi ws (n_v vs 0) 49) (w_ei w1 (w_ar ws (n_v vs 0) 33)) (w_ei w1 (w_ar ws (n_v vs 0) 34)) (w_fi w1 (n_v vs 0) 31) (w_fi w1 (n_v vs 0) 32) (w_ei w1 (w_ar ws (n_v vs 0) 35)) (w_ei w1 (w_ar ws (n_v vs 0) 17)) (w_fi w1 (n_v vs 0) 49) (w_ei ws (w_ar ws (n_v vs 0) 42)) (w_ei w1 (w_ar ws (n_v vs 0) 42)) k9 fe_0_31_1 fe_0_32_1 fe_0_49_1 hE_0_17_1 hE_0_33_1 hE_0_34_1 hE_0_35_1 hE_0_42_1 kz_0_31 kz_0_32 kz_0_49
  refine ⟨(fun _ h => (by cases h)), [], trivial, ?_, (fun _ h => (by cases h))⟩
  rw [List.append_nil]
  exact List.forall_mem_cons.mpr ⟨⟨show (20 : Nat) < 100 from by decide, nf0⟩, List.forall_mem_cons.mpr ⟨⟨show (20 : Nat) < 100 from by decide, nf1⟩, List.forall_mem_cons.mpr ⟨⟨show (20 : Nat) < 100 from by decide, nf2⟩, (fun _ h => (by cases h))⟩⟩⟩
set_option maxHeartbeats 4000000 in
theorem vc_Mo_draws_2_0 (x1 : Int) (x5 : Int) (x6 : Int) (x7 : Int) (x9 : Int) (x10 : Int) (alive_0 : Int → Int) (pm_0 : Int) (blockOf_0 : Int → Int) (k1 : 0 ≤ x1 ∧ x1 ≤ 79) (k5 : (-1) ≤ x5 ∧ x5 ≤ 79) (k6 : 0 ≤ x6 ∧ x6 ≤ 81) (k7 : 0 ≤ x7 ∧ x7 ≤ 79) (k9 : 0 ≤ x9 ∧ x9 ≤ 0) (k10 : (-1) ≤ x10 ∧ x10 ≤ 78) (d0 : x7 + (-1) ≤ x10 ∧ x10 ≤ x7 + (-1)) (h2 : x9 = alive_0 (x7)) (f9 : D0 (pm_0) (alive_0) (blockOf_0) (x1) (x5) (x6) (x7)) (hK_0_35 : ∀ j : Int, 0 ≤ j → j < 80 → 0 ≤ alive_0 j ∧ alive_0 j ≤ 1) (kz_0_32 : 0 ≤ pm_0 ∧ pm_0 ≤ 80) : D0 (pm_0) (alive_0) (blockOf_0) (x1) (x5) (x6) (x10) := by
  first
    | exact ⟨Or.inl ⟨by omega, by omega, fun f z => by have := z.1.2.1; have := z.2; omega⟩, by omega⟩
    | exact d0_skip (e := x7) ‹D0 _ _ _ _ _ _ _› (by omega) (Or.inl (by omega))
    | exact d0_skip (e := x7) ‹D0 _ _ _ _ _ _ _› (by omega) (Or.inr (by omega))
    | exact d0_take (e := x7) ‹D0 _ _ _ _ _ _ _› (by omega) (by omega) (by have := d0_c ‹D0 _ _ _ _ _ _ _›; omega) (by have := hK_0_35 x7 (by omega) (by omega); omega) (by omega) (by omega)
def o_Mo_draws_2 : or_T := (12, 11, [(0, (2, 0, 0, [165])), (1, (0, 0, 79, [])), (5, (0, -1, 79, [])), (6, (0, 0, 81, [])), (7, (0, 0, 79, [])), (9, (0, 0, 0, [])), (10, (0, -1, 78, []))], [(10, [9, 8, 7], []), (9, [8, 3], [35]), (20, [3, 4, 5, 6, 7], [60, 1, 2, 157, 32, 35, 17]), (24, [0, 3], []), (24, [1, 4], [])], [], [], [(20, [3, 4, 5, 6, 10], [60, 1, 2, 157, 32, 35, 17])], [], [(10, 7, -1, -1)])
theorem oo_Mo_draws_2 {kA : Nat → ClassId} : or_ok PRD kA GG o_Mo_draws_2 := by
  refine or_mk fun A ta ws vs hD hth hl => ?_
  intro t0 r0 t1 k1 t5 k5 t6 k6 t7 k7 t9 k9 t10 k10 d0 f2 f3 f9 f10 f11
  replace f2 := shm_107 f2
  replace f3 := shm_511 f3
  replace f9 := shm_1967 f9
  replace f10 := shm_5 f10
  replace f11 := shm_5 f11
  have q3 : n_v vs 3 = n_v vs 0 := f10.symm
  have q4 : n_v vs 4 = n_v vs 1 := f11.symm
  simp only [q3, q4] at f3 f9
  have cr_0_35 := fdq_132 hD hth r0
  have ad_8 : v_ad (n_v vs 8) = w_ar ws (n_v vs 0) 35 := congrArg v_ad f3
  simp only [ad_8] at f2
  have h2 : v_iv (n_v vs 9) = w_ei ws (w_ar ws (n_v vs 0) 35) (v_iv (n_v vs 7)) := f2
  have hK_0_35 := elq_72 hD hth cr_0_35
  have kz_0_32 := fdq_140 hD hth r0
  have nf0 : fc_1 PRD (20, [3, 4, 5, 6, 10], [60, 1, 2, 157, 32, 35, 17]) ws (vs) := by
    refine ⟨nf_in hl rfl, sgq_1967 ?_⟩
    · show D0 (w_fi ws (n_v vs 3) 32) (w_ei ws (w_ar ws (n_v vs 3) 35)) (w_ei ws (w_ar ws (n_v vs 3) 17)) (v_iv (n_v vs 4)) (v_iv (n_v vs 5)) (v_iv (n_v vs 6)) (v_iv (n_v vs 10))
      simp only [q3, q4]
      exact vc_Mo_draws_2_0 (v_iv (n_v vs 1)) (v_iv (n_v vs 5)) (v_iv (n_v vs 6)) (v_iv (n_v vs 7)) (v_iv (n_v vs 9)) (v_iv (n_v vs 10)) (w_ei ws (w_ar ws (n_v vs 0) 35)) (w_fi ws (n_v vs 0) 32) (w_ei ws (w_ar ws (n_v vs 0) 17)) k1 k5 k6 k7 k9 k10 d0 h2 f9 hK_0_35 kz_0_32
  refine ⟨(fun _ h => (by cases h)), [], trivial, ?_, (fun _ h => (by cases h))⟩
  rw [List.append_nil]
  exact List.forall_mem_cons.mpr ⟨⟨show (20 : Nat) < 100 from by decide, nf0⟩, (fun _ h => (by cases h))⟩
set_option maxHeartbeats 4000000 in
theorem vc_Mo_draws_3_r0 (x1 : Int) (x5 : Int) (x6 : Int) (x7 : Int) (blockOf_0 : Int → Int) (alive_0 : Int → Int) (pm_0 : Int) (k1 : 0 ≤ x1 ∧ x1 ≤ 79) (k5 : (-1) ≤ x5 ∧ x5 ≤ 79) (k6 : 0 ≤ x6 ∧ x6 ≤ 81) (k7 : 0 ≤ x7 ∧ x7 ≤ 79) (f11 : D0 (pm_0) (alive_0) (blockOf_0) (x1) (x5) (x6) (x7)) (kz_0_32 : 0 ≤ pm_0 ∧ pm_0 ≤ 80) : 0 ≤ x6 ∧ x6 ≤ 80 := by
  have h := d0_c ‹D0 _ _ _ _ _ _ _›
  omega
def o_Mo_draws_3 : or_T := (44, 12, [(0, (2, 0, 0, [165])), (1, (0, 0, 79, [])), (2, (0, 0, 80, [])), (3, (2, 0, 0, [165])), (4, (0, 0, 79, [])), (5, (0, -1, 79, [])), (6, (0, 0, 81, [])), (7, (0, 0, 79, [])), (8, (2, 0, 0, [182])), (9, (0, 1, 1, [])), (10, (2, 0, 0, [172])), (11, (0, 0, 79, []))], [(7, [11, 4], [0]), (10, [11, 10, 7], []), (9, [10, 3], [17]), (8, [9], [1]), (10, [9, 8, 7], []), (9, [8, 3], [35]), (8, [7], [3]), (20, [3], [60, 2, 2, 75, 31, 32, 33, 34]), (20, [3, 2], [60, 1, 4, 97, 32, 33, 34, 35, 17]), (23, [4, 2], [-1, 1, -1]), (20, [3], [50, 1, 0, 49, 1, 3, 2, 0, 49, 0, -1]), (20, [3, 4, 5, 6, 7], [60, 1, 2, 157, 32, 35, 17]), (24, [0, 3], []), (24, [1, 4], [])], [(6, (0, 0, 80, []))], [], [], [], [(11, 4, 0, 0), (1, 4, -4294967296, 0), (4, 1, -4294967296, 0), (5, 6, -4294967296, 78)])
theorem oo_Mo_draws_3 {kA : Nat → ClassId} : or_ok PRD kA GG o_Mo_draws_3 := by
  refine or_mk fun A ta ws vs hD hth hl => ?_
  intro t0 r0 t1 k1 t2 k2 t3 r3 t4 k4 t5 k5 t6 k6 t7 k7 t8 r8 t9 k9 t10 r10 t11 k11 d0 d1 d2 d3 f0 f1 f2 f3 f4 f5 f6 f7 f8 f9 f10 f11 f12 f13
  replace f11 := shm_1967 f11
  replace f12 := shm_5 f12
  replace f13 := shm_5 f13
  have q3 : n_v vs 3 = n_v vs 0 := f12.symm
  have q4 : n_v vs 4 = n_v vs 1 := f13.symm
  simp only [q4, q3] at f11
  have kz_0_32 := fdq_140 hD hth r0
  have hrf0 : 0 ≤ v_iv (n_v vs 6) ∧ v_iv (n_v vs 6) ≤ 80 := vc_Mo_draws_3_r0 (v_iv (n_v vs 1)) (v_iv (n_v vs 5)) (v_iv (n_v vs 6)) (v_iv (n_v vs 7)) (w_ei ws (w_ar ws (n_v vs 0) 17)) (w_ei ws (w_ar ws (n_v vs 0) 35)) (w_fi ws (n_v vs 0) 32) k1 k5 k6 k7 f11 kz_0_32
  have rf6 : tv_ok ta (0, 0, 80, []) (n_v vs 6) := tv_in t6 (by first | omega | grind) (by first | omega | grind)
  refine ⟨List.forall_mem_cons.mpr ⟨rf6, (fun _ h => (by cases h))⟩, [], trivial, ?_, (fun _ h => (by cases h))⟩
  rw [List.append_nil]
  exact (fun _ h => (by cases h))
set_option maxHeartbeats 4000000 in
theorem vc_Mo_draws_4_0 (x1 : Int) (x4 : Int) (x5 : Int) (x6 : Int) (x7 : Int) (x9 : Int) (x11 : Int) (x12 : Int) (x13 : Int) (blockOf_0 : Int → Int) (alive_0 : Int → Int) (pm_0 : Int) (k1 : 0 ≤ x1 ∧ x1 ≤ 79) (k4 : 0 ≤ x4 ∧ x4 ≤ 79) (k5 : (-1) ≤ x5 ∧ x5 ≤ 79) (k6 : 0 ≤ x6 ∧ x6 ≤ 80) (k7 : 0 ≤ x7 ∧ x7 ≤ 79) (k9 : 1 ≤ x9 ∧ x9 ≤ 1) (k11 : 0 ≤ x11 ∧ x11 ≤ 79) (k12 : 1 ≤ x12 ∧ x12 ≤ 81) (k13 : (-1) ≤ x13 ∧ x13 ≤ 78) (d0 : x7 + (-1) ≤ x13 ∧ x13 ≤ x7 + (-1)) (d1 : x6 + 1 ≤ x12 ∧ x12 ≤ x6 + 1) (d2 : x4 + 0 ≤ x11 ∧ x11 ≤ x4 + 0) (d3 : x4 + (-4294967296) ≤ x1 ∧ x1 ≤ x4 + 0) (d4 : x1 + (-4294967296) ≤ x4 ∧ x4 ≤ x1 + 0) (f1 : x12 = x6 + 1) (h3 : x11 = blockOf_0 (x7)) (h6 : x9 = alive_0 (x7)) (f8 : 0 ≤ x7) (f13 : D0 (pm_0) (alive_0) (blockOf_0) (x1) (x5) (x6) (x7)) (hK_0_35 : ∀ j : Int, 0 ≤ j → j < 80 → 0 ≤ alive_0 j ∧ alive_0 j ≤ 1) (kz_0_32 : 0 ≤ pm_0 ∧ pm_0 ≤ 80) : D0 (pm_0) (alive_0) (blockOf_0) (x1) (x7) (x12) (x13) := by
  first
    | exact ⟨Or.inl ⟨by omega, by omega, fun f z => by have := z.1.2.1; have := z.2; omega⟩, by omega⟩
    | exact d0_skip (e := x7) ‹D0 _ _ _ _ _ _ _› (by omega) (Or.inl (by omega))
    | exact d0_skip (e := x7) ‹D0 _ _ _ _ _ _ _› (by omega) (Or.inr (by omega))
    | exact d0_take (e := x7) ‹D0 _ _ _ _ _ _ _› (by omega) (by omega) (by have := d0_c ‹D0 _ _ _ _ _ _ _›; omega) (by have := hK_0_35 x7 (by omega) (by omega); omega) (by omega) (by omega)
def o_Mo_draws_4 : or_T := (12, 14, [(0, (2, 0, 0, [165])), (1, (0, 0, 79, [])), (4, (0, 0, 79, [])), (5, (0, -1, 79, [])), (6, (0, 0, 80, [])), (7, (0, 0, 79, [])), (9, (0, 1, 1, [])), (11, (0, 0, 79, [])), (12, (0, 1, 81, [])), (13, (0, -1, 78, []))], [(6, [12, 6], [1]), (10, [11, 10, 7], []), (9, [10, 3], [17]), (10, [9, 8, 7], []), (9, [8, 3], [35]), (8, [7], [3]), (20, [3, 4, 5, 6, 7], [60, 1, 2, 157, 32, 35, 17]), (24, [0, 3], []), (24, [1, 4], [])], [], [], [(20, [3, 4, 7, 12, 13], [60, 1, 2, 157, 32, 35, 17])], [], [(13, 7, -1, -1), (12, 6, 1, 1), (11, 4, 0, 0), (1, 4, -4294967296, 0), (4, 1, -4294967296, 0)])
theorem oo_Mo_draws_4 {kA : Nat → ClassId} : or_ok PRD kA GG o_Mo_draws_4 := by
  refine or_mk fun A ta ws vs hD hth hl => ?_
  intro t0 r0 t1 k1 t4 k4 t5 k5 t6 k6 t7 k7 t9 k9 t11 k11 t12 k12 t13 k13 d0 d1 d2 d3 d4 f1 f3 f4 f6 f7 f8 f13 f14 f15
  replace f1 := shm_4 f1
  replace f3 := shm_107 f3
  replace f4 := shm_795 f4
  replace f6 := shm_107 f6
  replace f7 := shm_511 f7
  replace f8 := shm_32 f8
  replace f13 := shm_1967 f13
  replace f14 := shm_5 f14
  replace f15 := shm_5 f15
  have q3 : n_v vs 3 = n_v vs 0 := f14.symm
  have q4 : n_v vs 4 = n_v vs 1 := f15.symm
  simp only [q4, q3] at f4 f7 f13
  have cr_0_35 := fdq_132 hD hth r0
  have ad_10 : v_ad (n_v vs 10) = w_ar ws (n_v vs 0) 17 := congrArg v_ad f4
  have ad_8 : v_ad (n_v vs 8) = w_ar ws (n_v vs 0) 35 := congrArg v_ad f7
  simp only [ad_10] at f3
  have h3 : v_iv (n_v vs 11) = w_ei ws (w_ar ws (n_v vs 0) 17) (v_iv (n_v vs 7)) := f3
  simp only [ad_8] at f6
  have h6 : v_iv (n_v vs 9) = w_ei ws (w_ar ws (n_v vs 0) 35) (v_iv (n_v vs 7)) := f6
  have hK_0_35 := elq_72 hD hth cr_0_35
  have kz_0_32 := fdq_140 hD hth r0
  have nf0 : fc_1 PRD (20, [3, 4, 7, 12, 13], [60, 1, 2, 157, 32, 35, 17]) ws (vs) := by
    refine ⟨nf_in hl rfl, sgq_1967 ?_⟩
    · show D0 (w_fi ws (n_v vs 3) 32) (w_ei ws (w_ar ws (n_v vs 3) 35)) (w_ei ws (w_ar ws (n_v vs 3) 17)) (v_iv (n_v vs 4)) (v_iv (n_v vs 7)) (v_iv (n_v vs 12)) (v_iv (n_v vs 13))
      simp only [q3, q4]
      exact vc_Mo_draws_4_0 (v_iv (n_v vs 1)) (v_iv (n_v vs 4)) (v_iv (n_v vs 5)) (v_iv (n_v vs 6)) (v_iv (n_v vs 7)) (v_iv (n_v vs 9)) (v_iv (n_v vs 11)) (v_iv (n_v vs 12)) (v_iv (n_v vs 13)) (w_ei ws (w_ar ws (n_v vs 0) 17)) (w_ei ws (w_ar ws (n_v vs 0) 35)) (w_fi ws (n_v vs 0) 32) k1 k4 k5 k6 k7 k9 k11 k12 k13 d0 d1 d2 d3 d4 f1 h3 h6 f8 f13 hK_0_35 kz_0_32
  refine ⟨(fun _ h => (by cases h)), [], trivial, ?_, (fun _ h => (by cases h))⟩
  rw [List.append_nil]
  exact List.forall_mem_cons.mpr ⟨⟨show (20 : Nat) < 100 from by decide, nf0⟩, (fun _ h => (by cases h))⟩
set_option maxHeartbeats 4000000 in
theorem vc_Mo_draws_5_0 (x1 : Int) (x4 : Int) (x5 : Int) (x6 : Int) (x7 : Int) (x9 : Int) (x11 : Int) (x12 : Int) (blockOf_0 : Int → Int) (alive_0 : Int → Int) (pm_0 : Int) (k1 : 0 ≤ x1 ∧ x1 ≤ 79) (k4 : 0 ≤ x4 ∧ x4 ≤ 79) (k5 : (-1) ≤ x5 ∧ x5 ≤ 79) (k6 : 0 ≤ x6 ∧ x6 ≤ 81) (k7 : 0 ≤ x7 ∧ x7 ≤ 79) (k9 : 1 ≤ x9 ∧ x9 ≤ 1) (k11 : (-1) ≤ x11 ∧ x11 ≤ 79) (k12 : (-1) ≤ x12 ∧ x12 ≤ 78) (d0 : x7 + (-1) ≤ x12 ∧ x12 ≤ x7 + (-1)) (d1 : x4 + (-4294967296) ≤ x1 ∧ x1 ≤ x4 + 0) (d2 : x1 + (-4294967296) ≤ x4 ∧ x4 ≤ x1 + 0) (f1 : x11 ≠ x1) (h2 : x11 = blockOf_0 (x7)) (f4 : x9 ≠ 0) (f12 : D0 (pm_0) (alive_0) (blockOf_0) (x1) (x5) (x6) (x7)) (hK_0_35 : ∀ j : Int, 0 ≤ j → j < 80 → 0 ≤ alive_0 j ∧ alive_0 j ≤ 1) (kz_0_32 : 0 ≤ pm_0 ∧ pm_0 ≤ 80) : D0 (pm_0) (alive_0) (blockOf_0) (x1) (x5) (x6) (x12) := by
  first
    | exact ⟨Or.inl ⟨by omega, by omega, fun f z => by have := z.1.2.1; have := z.2; omega⟩, by omega⟩
    | exact d0_skip (e := x7) ‹D0 _ _ _ _ _ _ _› (by omega) (Or.inl (by omega))
    | exact d0_skip (e := x7) ‹D0 _ _ _ _ _ _ _› (by omega) (Or.inr (by omega))
    | exact d0_take (e := x7) ‹D0 _ _ _ _ _ _ _› (by omega) (by omega) (by have := d0_c ‹D0 _ _ _ _ _ _ _›; omega) (by have := hK_0_35 x7 (by omega) (by omega); omega) (by omega) (by omega)
def o_Mo_draws_5 : or_T := (12, 13, [(0, (2, 0, 0, [165])), (1, (0, 0, 79, [])), (4, (0, 0, 79, [])), (5, (0, -1, 79, [])), (6, (0, 0, 81, [])), (7, (0, 0, 79, [])), (9, (0, 1, 1, [])), (11, (0, -1, 79, [])), (12, (0, -1, 78, []))], [(7, [11, 4], [1]), (10, [11, 10, 7], []), (9, [10, 3], [17]), (8, [9], [1]), (20, [3, 4, 5, 6, 7], [60, 1, 2, 157, 32, 35, 17]), (24, [0, 3], []), (24, [1, 4], [])], [], [], [(20, [3, 4, 5, 6, 12], [60, 1, 2, 157, 32, 35, 17])], [], [(12, 7, -1, -1), (1, 4, -4294967296, 0), (4, 1, -4294967296, 0)])
theorem oo_Mo_draws_5 {kA : Nat → ClassId} : or_ok PRD kA GG o_Mo_draws_5 := by
  refine or_mk fun A ta ws vs hD hth hl => ?_
  intro t0 r0 t1 k1 t4 k4 t5 k5 t6 k6 t7 k7 t9 k9 t11 k11 t12 k12 d0 d1 d2 f1 f2 f3 f4 f12 f13 f14
  replace f1 := shm_40 f1
  replace f2 := shm_107 f2
  replace f3 := shm_795 f3
  replace f4 := shm_142 f4
  replace f12 := shm_1967 f12
  replace f13 := shm_5 f13
  replace f14 := shm_5 f14
  have q3 : n_v vs 3 = n_v vs 0 := f13.symm
  have q4 : n_v vs 4 = n_v vs 1 := f14.symm
  simp only [q4, q3] at f1 f3 f12
  have cr_0_35 := fdq_132 hD hth r0
  have ad_10 : v_ad (n_v vs 10) = w_ar ws (n_v vs 0) 17 := congrArg v_ad f3
  simp only [ad_10] at f2
  have h2 : v_iv (n_v vs 11) = w_ei ws (w_ar ws (n_v vs 0) 17) (v_iv (n_v vs 7)) := f2
  have hK_0_35 := elq_72 hD hth cr_0_35
  have kz_0_32 := fdq_140 hD hth r0
  have nf0 : fc_1 PRD (20, [3, 4, 5, 6, 12], [60, 1, 2, 157, 32, 35, 17]) ws (vs) := by
    refine ⟨nf_in hl rfl, sgq_1967 ?_⟩
    · show D0 (w_fi ws (n_v vs 3) 32) (w_ei ws (w_ar ws (n_v vs 3) 35)) (w_ei ws (w_ar ws (n_v vs 3) 17)) (v_iv (n_v vs 4)) (v_iv (n_v vs 5)) (v_iv (n_v vs 6)) (v_iv (n_v vs 12))
      simp only [q3, q4]
      exact vc_Mo_draws_5_0 (v_iv (n_v vs 1)) (v_iv (n_v vs 4)) (v_iv (n_v vs 5)) (v_iv (n_v vs 6)) (v_iv (n_v vs 7)) (v_iv (n_v vs 9)) (v_iv (n_v vs 11)) (v_iv (n_v vs 12)) (w_ei ws (w_ar ws (n_v vs 0) 17)) (w_ei ws (w_ar ws (n_v vs 0) 35)) (w_fi ws (n_v vs 0) 32) k1 k4 k5 k6 k7 k9 k11 k12 d0 d1 d2 f1 h2 f4 f12 hK_0_35 kz_0_32
  refine ⟨(fun _ h => (by cases h)), [], trivial, ?_, (fun _ h => (by cases h))⟩
  rw [List.append_nil]
  exact List.forall_mem_cons.mpr ⟨⟨show (20 : Nat) < 100 from by decide, nf0⟩, (fun _ h => (by cases h))⟩
set_option maxHeartbeats 4000000 in
theorem vc_Mo_draws_6_0 (x7 : Int) (x8 : Int) (pn_0 : Int) (drawnNode_0 : Int → Int) (k7 : 0 ≤ x7 ∧ x7 ≤ 25) (k8 : 0 ≤ x8 ∧ x8 ≤ 25) (d0 : x8 + 0 ≤ x7 ∧ x7 ≤ x8 + 4294967296) (g1 : x8 = pn_0) (f8 : D1 (drawnNode_0) (x7)) (kz_0_31 : 0 ≤ pn_0 ∧ pn_0 ≤ 25) : D1n (pn_0) (drawnNode_0) := by
  first
    | assumption
    | (have h := ‹D1 _ _›
       intro u a b; exact h u a (by omega))
set_option maxHeartbeats 4000000 in
theorem vc_Mo_draws_6_1 (x1 : Int) (x7 : Int) (x9 : Int) (alive_0 : Int → Int) (blockOf_0 : Int → Int) (drawnEdge_0 : Int → Int) (k1 : 0 ≤ x1 ∧ x1 ≤ 79) (k9 : 0 ≤ x9 ∧ x9 ≤ 0) (hK_0_35 : ∀ j : Int, 0 ≤ j → j < 80 → 0 ≤ alive_0 j ∧ alive_0 j ≤ 1) : D3 (alive_0) (blockOf_0) (drawnEdge_0) (x1) (x9) := by
  first
    | (intro e a b; exfalso; omega)
    | (have h := ‹D3 _ _ _ _ _›
       intro e a b
       by_cases q : e = x7
       · have v := (hE_0_43_1 e a).1 q
         rw [q] at v ⊢
         first
           | exact ⟨fun _ => ⟨by have := hK_0_35 x7 (by omega) (by omega); omega, by omega⟩, fun _ => by omega⟩
           | exact ⟨fun z => by exfalso; omega, fun z => by exfalso; have := z.1; have := z.2; omega⟩
       · rw [(hE_0_43_1 e a).2 q]; exact h e a (by omega))
def o_Mo_draws_6 : or_T := (87, 10, [(0, (2, 0, 0, [165])), (1, (0, 0, 79, [])), (7, (0, 0, 25, [])), (8, (0, 0, 25, [])), (9, (0, 0, 0, []))], [(9, [8, 3], [31]), (20, [3, 7], [60, 0, 1, 159, 42]), (24, [0, 3], []), (24, [1, 4], [])], [], [], [(20, [3], [60, 1, 1, 160, 31, 42]), (20, [3, 4, 9], [60, 0, 3, 161, 35, 17, 43])], [], [(7, 8, 0, 4294967296)])
theorem oo_Mo_draws_6 {kA : Nat → ClassId} : or_ok PRD kA GG o_Mo_draws_6 := by
  refine or_mk fun A ta ws vs hD hth hl => ?_
  intro t0 r0 t1 k1 t7 k7 t8 k8 t9 k9 d0 f1 f8 f9 f10
  replace f1 := shm_577 f1
  replace f8 := shm_1970 f8
  replace f9 := shm_5 f9
  replace f10 := shm_5 f10
  have q3 : n_v vs 3 = n_v vs 0 := f9.symm
  have q4 : n_v vs 4 = n_v vs 1 := f10.symm
  simp only [q3] at f1 f8
  have cr_0_35 := fdq_132 hD hth r0
  have g1 : v_iv (n_v vs 8) = w_fi ws (n_v vs 0) 31 := congrArg v_iv f1
  have hK_0_35 := elq_72 hD hth cr_0_35
  have kz_0_31 := fdq_145 hD hth r0
  have nf0 : fc_1 PRD (20, [3], [60, 1, 1, 160, 31, 42]) ws (vs) := by
    refine ⟨nf_in hl rfl, sgq_1971 ?_⟩
    · show D1n (w_fi ws (n_v vs 3) 31) (w_ei ws (w_ar ws (n_v vs 3) 42))
      rw [q3]
      exact vc_Mo_draws_6_0 (v_iv (n_v vs 7)) (v_iv (n_v vs 8)) (w_fi ws (n_v vs 0) 31) (w_ei ws (w_ar ws (n_v vs 0) 42)) k7 k8 d0 g1 f8 kz_0_31
  have nf1 : fc_1 PRD (20, [3, 4, 9], [60, 0, 3, 161, 35, 17, 43]) ws (vs) := by
    refine ⟨nf_in hl rfl, sgq_1972 ?_⟩
    · show D3 (w_ei ws (w_ar ws (n_v vs 3) 35)) (w_ei ws (w_ar ws (n_v vs 3) 17)) (w_ei ws (w_ar ws (n_v vs 3) 43)) (v_iv (n_v vs 4)) (v_iv (n_v vs 9))
      simp only [q3, q4]
      exact vc_Mo_draws_6_1 (v_iv (n_v vs 1)) (v_iv (n_v vs 7)) (v_iv (n_v vs 9)) (w_ei ws (w_ar ws (n_v vs 0) 35)) (w_ei ws (w_ar ws (n_v vs 0) 17)) (w_ei ws (w_ar ws (n_v vs 0) 43)) k1 k9 hK_0_35
  refine ⟨(fun _ h => (by cases h)), [], trivial, ?_, (fun _ h => (by cases h))⟩
  rw [List.append_nil]
  exact List.forall_mem_cons.mpr ⟨⟨show (20 : Nat) < 100 from by decide, nf0⟩, List.forall_mem_cons.mpr ⟨⟨show (20 : Nat) < 100 from by decide, nf1⟩, (fun _ h => (by cases h))⟩⟩
set_option maxHeartbeats 4000000 in
theorem vc_Mo_draws_7_0 (x7 : Int) (x10 : Int) (x11 : Int) (pt_0 : Int → Int) (ph_0 : Int → Int) (pn_0 : Int) (pm_0 : Int) (alive_0 : Int → Int) (blockOf_0 : Int → Int) (onlyPiece_0 : Int) (faces_0 : Int) (pn_1 : Int) (pt_1 : Int → Int) (ph_1 : Int → Int) (pm_1 : Int) (alive_1 : Int → Int) (blockOf_1 : Int → Int) (onlyPiece_1 : Int) (faces_1 : Int) (drawnNode_1 : Int → Int) (drawnNode_0 : Int → Int) (k7 : 0 ≤ x7 ∧ x7 ≤ 24) (k10 : 0 ≤ x10 ∧ x10 ≤ 0) (k11 : 1 ≤ x11 ∧ x11 ≤ 25) (d0 : x7 + 1 ≤ x11 ∧ x11 ≤ x7 + 1) (f19 : D1 (drawnNode_1) (x7)) (fe_0_31_1 : pn_0 = pn_1) (fe_0_32_1 : pm_0 = pm_1) (fe_0_39_1 : faces_0 = faces_1) (fe_0_49_1 : onlyPiece_0 = onlyPiece_1) (hE_0_17_1 : ∀ j : Int, blockOf_0 j = blockOf_1 j) (hE_0_33_1 : ∀ j : Int, pt_0 j = pt_1 j) (hE_0_34_1 : ∀ j : Int, ph_0 j = ph_1 j) (hE_0_35_1 : ∀ j : Int, alive_0 j = alive_1 j) (hE_0_42_1 : ∀ j : Int, 0 ≤ j → (j = x7 → drawnNode_0 j = x10) ∧ (j ≠ x7 → drawnNode_0 j = drawnNode_1 j)) (kz_0_31 : 0 ≤ pn_0 ∧ pn_0 ≤ 25) (kz_0_32 : 0 ≤ pm_0 ∧ pm_0 ≤ 80) (kz_0_39 : 0 ≤ faces_0 ∧ faces_0 ≤ 120) (kz_0_49 : (-1) ≤ onlyPiece_0 ∧ onlyPiece_0 ≤ 79) : D1 (drawnNode_0) (x11) := by
  subst fe_0_31_1
  subst fe_0_32_1
  subst fe_0_39_1
  subst fe_0_49_1
  have e_hE_0_17_1 := funext hE_0_17_1; subst e_hE_0_17_1
  have e_hE_0_33_1 := funext hE_0_33_1; subst e_hE_0_33_1
  have e_hE_0_34_1 := funext hE_0_34_1; subst e_hE_0_34_1
  have e_hE_0_35_1 := funext hE_0_35_1; subst e_hE_0_35_1
  first
    | (intro u a b; exfalso; omega)
    | (have h := ‹D1 _ _›
       intro u a b
       by_cases q : u = x7
       · have v := (hE_0_42_1 u a).1 q; omega
       · rw [(hE_0_42_1 u a).2 q]; exact h u a (by omega))
def o_Mo_draws_7 : or_T := (61, 12, [(0, (2, 0, 0, [165])), (7, (0, 0, 24, [])), (9, (2, 0, 0, [188])), (10, (0, 0, 0, [])), (11, (0, 1, 25, []))], [(24, [0, 3], []), (100, [9, 7, 10], []), (9, [9, 3], [42]), (20, [3, 7], [60, 0, 1, 159, 42])], [], [], [(20, [3, 11], [60, 0, 1, 159, 42])], [], [(11, 7, 1, 1), (7, 8, -4294967296, -1)])
theorem oo_Mo_draws_7 {kA : Nat → ClassId} : or_ok PRD kA GG o_Mo_draws_7 := by
  refine or_mk fun A ta ws vs hD hth hl => ?_
  intro t0 r0 t7 k7 t9 r9 t10 k10 t11 k11 d0 d2 f7 ta1 w1 le1 s1 f10 f19
  replace f7 := shm_5 f7
  have s1 : (∀ b j, w_el ws b j = if b = v_ad (n_v vs 9) ∧ j = (v_iv (n_v vs 7)).toNat then v_iv (n_v vs 10) else w_el w1 b j) ∧ ∀ b k, w_fd ws b k = w_fd w1 b k := s1.2
  replace f10 := shm_531 f10
  replace f19 := shm_1970 f19
  have q3 : n_v vs 3 = n_v vs 0 := f7.symm
  simp only [q3] at f10 f19
  have ar_0_17_1 : w_ar w1 (n_v vs 0) 17 = w_ar ws (n_v vs 0) 17 := congrArg v_ad (s1.2 _ _).symm
  have cr_0_17 := fdq_189 hD hth r0
  have ar_0_33_1 : w_ar w1 (n_v vs 0) 33 = w_ar ws (n_v vs 0) 33 := congrArg v_ad (s1.2 _ _).symm
  have cr_0_33 := fdq_117 hD hth r0
  have ar_0_34_1 : w_ar w1 (n_v vs 0) 34 = w_ar ws (n_v vs 0) 34 := congrArg v_ad (s1.2 _ _).symm
  have cr_0_34 := fdq_118 hD hth r0
  have ar_0_35_1 : w_ar w1 (n_v vs 0) 35 = w_ar ws (n_v vs 0) 35 := congrArg v_ad (s1.2 _ _).symm
  have cr_0_35 := fdq_132 hD hth r0
  have ar_0_42_1 : w_ar w1 (n_v vs 0) 42 = w_ar ws (n_v vs 0) 42 := congrArg v_ad (s1.2 _ _).symm
  have ad_9 : v_ad (n_v vs 9) = w_ar ws (n_v vs 0) 42 := (congrArg v_ad f10).trans ar_0_42_1
  simp only [ar_0_33_1, ar_0_34_1, ar_0_17_1, ar_0_35_1, ar_0_42_1] at f19
  have fe_0_31_1 : w_fi ws (n_v vs 0) 31 = w_fi w1 (n_v vs 0) 31 := congrArg v_iv (s1.2 _ _)
  have fe_0_32_1 : w_fi ws (n_v vs 0) 32 = w_fi w1 (n_v vs 0) 32 := congrArg v_iv (s1.2 _ _)
  have fe_0_39_1 : w_fi ws (n_v vs 0) 39 = w_fi w1 (n_v vs 0) 39 := congrArg v_iv (s1.2 _ _)
  have fe_0_49_1 : w_fi ws (n_v vs 0) 49 = w_fi w1 (n_v vs 0) 49 := congrArg v_iv (s1.2 _ _)
  have hE_0_17_1 : ∀ j : Int, w_ei ws (w_ar ws (n_v vs 0) 17) j = w_ei w1 (w_ar ws (n_v vs 0) 17) j := el_kp s1.1 r9 cr_0_17 (by decide)
  have hE_0_33_1 : ∀ j : Int, w_ei ws (w_ar ws (n_v vs 0) 33) j = w_ei w1 (w_ar ws (n_v vs 0) 33) j := el_kp s1.1 r9 cr_0_33 (by decide)
  have hE_0_34_1 : ∀ j : Int, w_ei ws (w_ar ws (n_v vs 0) 34) j = w_ei w1 (w_ar ws (n_v vs 0) 34) j := el_kp s1.1 r9 cr_0_34 (by decide)
  have hE_0_35_1 : ∀ j : Int, w_ei ws (w_ar ws (n_v vs 0) 35) j = w_ei w1 (w_ar ws (n_v vs 0) 35) j := el_kp s1.1 r9 cr_0_35 (by decide)
  have hE_0_42_1 : ∀ j : Int, 0 ≤ j → (j = v_iv (n_v vs 7) → w_ei ws (w_ar ws (n_v vs 0) 42) j = v_iv (n_v vs 10)) ∧ (j ≠ v_iv (n_v vs 7) → w_ei ws (w_ar ws (n_v vs 0) 42) j = w_ei w1 (w_ar ws (n_v vs 0) 42) j) := fun j hj => ⟨fun h => by unfold w_ei; rw [s1.1, if_pos ⟨ad_9.symm, by rw [h]⟩], fun h => by unfold w_ei; rw [s1.1, if_neg (fun e => h (by have := e.2; omega))]⟩
  have kz_0_31 := fdq_145 hD hth r0
  have kz_0_32 := fdq_140 hD hth r0
  have kz_0_39 := fdq_135 hD hth r0
  have kz_0_49 := fdq_146 hD hth r0
  have nf0 : fc_1 PRD (20, [3, 11], [60, 0, 1, 159, 42]) ws (vs) := by
    refine ⟨nf_in hl rfl, sgq_1970 ?_⟩
    · show D1 (w_ei ws (w_ar ws (n_v vs 3) 42)) (v_iv (n_v vs 11))
      rw [q3]
      exact vc_Mo_draws_7_0 (v_iv (n_v vs 7)) (v_iv (n_v vs 10)) (v_iv (n_v vs 11)) (w_ei ws (w_ar ws (n_v vs 0) 33)) (w_ei ws (w_ar ws (n_v vs 0) 34)) (w_fi ws (n_v vs 0) 31) (w_fi ws (n_v vs 0) 32) (w_ei ws (w_ar ws (n_v vs 0) 35)) (w_ei ws (w_ar ws (n_v vs 0) 17)) (w_fi ws (n_v vs 0) 49) (w_fi ws (n_v vs 0) 39) (w_fi w1 (n_v vs 0) 31) (w_ei w1 (w_ar ws (n_v vs 0) 33)) (w_ei w1 (w_ar ws (n_v vs 0) 34)) (w_fi w1 (n_v vs 0) 32) (w_ei w1 (w_ar ws (n_v vs 0) 35)) (w_ei w1 (w_ar ws (n_v vs 0) 17)) (w_fi w1 (n_v vs 0) 49) (w_fi w1 (n_v vs 0) 39) (w_ei w1 (w_ar ws (n_v vs 0) 42)) (w_ei ws (w_ar ws (n_v vs 0) 42)) k7 k10 k11 d0 f19 fe_0_31_1 fe_0_32_1 fe_0_39_1 fe_0_49_1 hE_0_17_1 hE_0_33_1 hE_0_34_1 hE_0_35_1 hE_0_42_1 kz_0_31 kz_0_32 kz_0_39 kz_0_49
  refine ⟨(fun _ h => (by cases h)), [], trivial, ?_, (fun _ h => (by cases h))⟩
  rw [List.append_nil]
  exact List.forall_mem_cons.mpr ⟨⟨show (20 : Nat) < 100 from by decide, nf0⟩, (fun _ h => (by cases h))⟩
set_option maxHeartbeats 4000000 in
theorem vc_Mo_draws_8_r0 (x1 : Int) (x2 : Int) (x4 : Int) (x5 : Int) (x6 : Int) (pm_0 : Int) (pt_0 : Int → Int) (ph_0 : Int → Int) (pn_0 : Int) (alive_0 : Int → Int) (blockOf_0 : Int → Int) (k1 : 0 ≤ x1 ∧ x1 ≤ 79) (k2 : 0 ≤ x2 ∧ x2 ≤ 80) (k4 : 0 ≤ x4 ∧ x4 ≤ 79) (k5 : (-1) ≤ x5 ∧ x5 ≤ 79) (k6 : 0 ≤ x6 ∧ x6 ≤ 81) (d1 : x4 + (-4294967296) ≤ x1 ∧ x1 ≤ x4 + 0) (d2 : x1 + (-4294967296) ≤ x4 ∧ x4 ≤ x1 + 0) (f5 : BK (pm_0) (pt_0) (ph_0) (alive_0) (blockOf_0) (x2)) (f6 : 1 * x1 + ((-1) * x2 + 0) ≤ (-1)) (f9 : D0e (pm_0) (alive_0) (blockOf_0) (x1) (x5) (x6)) (kz_0_32 : 0 ≤ pm_0 ∧ pm_0 ≤ 80) : 0 ≤ x5 ∧ x5 ≤ 79 := by
  have h := d0_l (n := pn_0) (b := x1) ‹BK _ _ _ _ _ _› (by omega) (by omega) ‹D0e _ _ _ _ _ _›
  omega
def o_Mo_draws_8 : or_T := (148, 12, [(0, (2, 0, 0, [165])), (1, (0, 0, 79, [])), (2, (0, 0, 80, [])), (3, (2, 0, 0, [165])), (4, (0, 0, 79, [])), (5, (0, -1, 79, [])), (6, (0, 0, 81, [])), (7, (0, 0, 80, [])), (8, (0, 0, 80, [])), (9, (0, 1, 1, [])), (10, (2, 0, 0, [189]))], [(9, [10, 3], [43]), (7, [6, 9], [1]), (7, [7, 8], [3]), (9, [8, 3], [32]), (20, [3], [60, 2, 2, 75, 31, 32, 33, 34]), (20, [3, 2], [60, 1, 4, 97, 32, 33, 34, 35, 17]), (23, [4, 2], [-1, 1, -1]), (20, [3], [50, 1, 0, 49, 1, 3, 2, 0, 49, 0, -1]), (20, [3], [50, 1, 0, 39, 1, 3, 2, 0, 39, 0, 0]), (20, [3, 4, 5, 6], [60, 1, 2, 158, 32, 35, 17]), (20, [3], [60, 1, 1, 160, 31, 42]), (20, [3, 4, 7], [60, 0, 3, 161, 35, 17, 43]), (24, [0, 3], []), (24, [1, 4], [])], [(5, (0, 0, 79, []))], [], [], [], [(7, 8, 0, 4294967296), (1, 4, -4294967296, 0), (4, 1, -4294967296, 0)])
theorem oo_Mo_draws_8 {kA : Nat → ClassId} : or_ok PRD kA GG o_Mo_draws_8 := by
  refine or_mk fun A ta ws vs hD hth hl => ?_
  intro t0 r0 t1 k1 t2 k2 t3 r3 t4 k4 t5 k5 t6 k6 t7 k7 t8 k8 t9 k9 t10 r10 d0 d1 d2 f0 f1 f2 f3 f4 f5 f6 f7 f8 f9 f10 f11 f12 f13
  replace f5 := shm_1544 f5
  replace f6 := shm_193 f6
  replace f9 := shm_1969 f9
  replace f12 := shm_5 f12
  replace f13 := shm_5 f13
  have q3 : n_v vs 3 = n_v vs 0 := f12.symm
  have q4 : n_v vs 4 = n_v vs 1 := f13.symm
  simp only [q3, q4] at f5 f6 f9
  have kz_0_32 := fdq_140 hD hth r0
  have hrf0 : 0 ≤ v_iv (n_v vs 5) ∧ v_iv (n_v vs 5) ≤ 79 := vc_Mo_draws_8_r0 (v_iv (n_v vs 1)) (v_iv (n_v vs 2)) (v_iv (n_v vs 4)) (v_iv (n_v vs 5)) (v_iv (n_v vs 6)) (w_fi ws (n_v vs 0) 32) (w_ei ws (w_ar ws (n_v vs 0) 33)) (w_ei ws (w_ar ws (n_v vs 0) 34)) (w_fi ws (n_v vs 0) 31) (w_ei ws (w_ar ws (n_v vs 0) 35)) (w_ei ws (w_ar ws (n_v vs 0) 17)) k1 k2 k4 k5 k6 d1 d2 f5 f6 f9 kz_0_32
  have rf5 : tv_ok ta (0, 0, 79, []) (n_v vs 5) := tv_in t5 (by first | omega | grind) (by first | omega | grind)
  refine ⟨List.forall_mem_cons.mpr ⟨rf5, (fun _ h => (by cases h))⟩, [], trivial, ?_, (fun _ h => (by cases h))⟩
  rw [List.append_nil]
  exact (fun _ h => (by cases h))
set_option maxHeartbeats 4000000 in
theorem vc_Mo_draws_9_0 (x1 : Int) (x2 : Int) (x4 : Int) (x5 : Int) (x6 : Int) (x7 : Int) (x8 : Int) (x9 : Int) (x11 : Int) (pt_0 : Int → Int) (ph_0 : Int → Int) (pn_0 : Int) (pm_0 : Int) (alive_0 : Int → Int) (blockOf_0 : Int → Int) (onlyPiece_0 : Int) (faces_0 : Int) (drawnNode_0 : Int → Int) (pm_1 : Int) (pt_1 : Int → Int) (ph_1 : Int → Int) (pn_1 : Int) (alive_1 : Int → Int) (blockOf_1 : Int → Int) (onlyPiece_1 : Int) (faces_1 : Int) (drawnNode_1 : Int → Int) (drawnEdge_1 : Int → Int) (drawnEdge_0 : Int → Int) (k1 : 0 ≤ x1 ∧ x1 ≤ 79) (k2 : 0 ≤ x2 ∧ x2 ≤ 80) (k4 : 0 ≤ x4 ∧ x4 ≤ 79) (k5 : 0 ≤ x5 ∧ x5 ≤ 79) (k6 : 0 ≤ x6 ∧ x6 ≤ 81) (k7 : 0 ≤ x7 ∧ x7 ≤ 80) (k8 : 0 ≤ x8 ∧ x8 ≤ 80) (k9 : 1 ≤ x9 ∧ x9 ≤ 1) (k11 : 1 ≤ x11 ∧ x11 ≤ 1) (d0 : x8 + 0 ≤ x7 ∧ x7 ≤ x8 + 4294967296) (d1 : x4 + (-4294967296) ≤ x1 ∧ x1 ≤ x4 + 0) (d2 : x1 + (-4294967296) ≤ x4 ∧ x4 ≤ x1 + 0) (f2 : 1 * x1 + ((-1) * x2 + 0) ≤ (-1)) (f11 : x6 ≠ x9) (g13 : x8 = pm_1) (f14 : GOK (pn_1) (pm_1) (pt_1) (ph_1)) (f15 : BK (pm_1) (pt_1) (ph_1) (alive_1) (blockOf_1) (x2)) (f19 : D0e (pm_1) (alive_1) (blockOf_1) (x1) (x5) (x6)) (f21 : D3 (alive_1) (blockOf_1) (drawnEdge_1) (x1) (x7)) (fe_0_31_1 : pn_0 = pn_1) (fe_0_32_1 : pm_0 = pm_1) (fe_0_39_1 : faces_0 = faces_1) (fe_0_49_1 : onlyPiece_0 = onlyPiece_1) (hE_0_17_1 : ∀ j : Int, blockOf_0 j = blockOf_1 j) (hE_0_33_1 : ∀ j : Int, pt_0 j = pt_1 j) (hE_0_34_1 : ∀ j : Int, ph_0 j = ph_1 j) (hE_0_35_1 : ∀ j : Int, alive_0 j = alive_1 j) (hE_0_42_1 : ∀ j : Int, drawnNode_0 j = drawnNode_1 j) (hE_0_43_1 : ∀ j : Int, 0 ≤ j → (j = x5 → drawnEdge_0 j = x11) ∧ (j ≠ x5 → drawnEdge_0 j = drawnEdge_1 j)) (kz_0_31 : 0 ≤ pn_0 ∧ pn_0 ≤ 25) (kz_0_32 : 0 ≤ pm_0 ∧ pm_0 ≤ 80) (kz_0_39 : 0 ≤ faces_0 ∧ faces_0 ≤ 120) (kz_0_49 : (-1) ≤ onlyPiece_0 ∧ onlyPiece_0 ≤ 79) : RG0 (pn_0) (pm_0) (pt_0) (ph_0) (alive_0) (blockOf_0) (drawnEdge_0) (x1) (x5) := by
  subst fe_0_31_1
  subst fe_0_32_1
  subst fe_0_39_1
  subst fe_0_49_1
  have e_hE_0_17_1 := funext hE_0_17_1; subst e_hE_0_17_1
  have e_hE_0_33_1 := funext hE_0_33_1; subst e_hE_0_33_1
  have e_hE_0_34_1 := funext hE_0_34_1; subst e_hE_0_34_1
  have e_hE_0_35_1 := funext hE_0_35_1; subst e_hE_0_35_1
  have e_hE_0_42_1 := funext hE_0_42_1; subst e_hE_0_42_1
  exact rg0_of ‹GOK _ _ _ _› ‹BK _ _ _ _ _ _› (by omega) (by omega) ‹D0e _ _ _ _ _ _› ‹D3 _ _ _ _ _› (by omega) (by omega) hE_0_43_1 rfl (by omega)
set_option maxHeartbeats 4000000 in
theorem vc_Mo_draws_9_1 (x1 : Int) (x2 : Int) (x4 : Int) (x5 : Int) (x6 : Int) (x7 : Int) (x8 : Int) (x9 : Int) (x11 : Int) (pt_0 : Int → Int) (ph_0 : Int → Int) (pn_0 : Int) (pm_0 : Int) (alive_0 : Int → Int) (blockOf_0 : Int → Int) (onlyPiece_0 : Int) (faces_0 : Int) (drawnNode_0 : Int → Int) (pm_1 : Int) (pt_1 : Int → Int) (ph_1 : Int → Int) (pn_1 : Int) (alive_1 : Int → Int) (blockOf_1 : Int → Int) (onlyPiece_1 : Int) (faces_1 : Int) (drawnNode_1 : Int → Int) (drawnEdge_1 : Int → Int) (drawnEdge_0 : Int → Int) (k1 : 0 ≤ x1 ∧ x1 ≤ 79) (k2 : 0 ≤ x2 ∧ x2 ≤ 80) (k4 : 0 ≤ x4 ∧ x4 ≤ 79) (k5 : 0 ≤ x5 ∧ x5 ≤ 79) (k6 : 0 ≤ x6 ∧ x6 ≤ 81) (k7 : 0 ≤ x7 ∧ x7 ≤ 80) (k8 : 0 ≤ x8 ∧ x8 ≤ 80) (k9 : 1 ≤ x9 ∧ x9 ≤ 1) (k11 : 1 ≤ x11 ∧ x11 ≤ 1) (d0 : x8 + 0 ≤ x7 ∧ x7 ≤ x8 + 4294967296) (d1 : x4 + (-4294967296) ≤ x1 ∧ x1 ≤ x4 + 0) (d2 : x1 + (-4294967296) ≤ x4 ∧ x4 ≤ x1 + 0) (f2 : 1 * x1 + ((-1) * x2 + 0) ≤ (-1)) (f11 : x6 ≠ x9) (g13 : x8 = pm_1) (f14 : GOK (pn_1) (pm_1) (pt_1) (ph_1)) (f15 : BK (pm_1) (pt_1) (ph_1) (alive_1) (blockOf_1) (x2)) (f19 : D0e (pm_1) (alive_1) (blockOf_1) (x1) (x5) (x6)) (f21 : D3 (alive_1) (blockOf_1) (drawnEdge_1) (x1) (x7)) (fe_0_31_1 : pn_0 = pn_1) (fe_0_32_1 : pm_0 = pm_1) (fe_0_39_1 : faces_0 = faces_1) (fe_0_49_1 : onlyPiece_0 = onlyPiece_1) (hE_0_17_1 : ∀ j : Int, blockOf_0 j = blockOf_1 j) (hE_0_33_1 : ∀ j : Int, pt_0 j = pt_1 j) (hE_0_34_1 : ∀ j : Int, ph_0 j = ph_1 j) (hE_0_35_1 : ∀ j : Int, alive_0 j = alive_1 j) (hE_0_42_1 : ∀ j : Int, drawnNode_0 j = drawnNode_1 j) (hE_0_43_1 : ∀ j : Int, 0 ≤ j → (j = x5 → drawnEdge_0 j = x11) ∧ (j ≠ x5 → drawnEdge_0 j = drawnEdge_1 j)) (kz_0_31 : 0 ≤ pn_0 ∧ pn_0 ≤ 25) (kz_0_32 : 0 ≤ pm_0 ∧ pm_0 ≤ 80) (kz_0_39 : 0 ≤ faces_0 ∧ faces_0 ≤ 120) (kz_0_49 : (-1) ≤ onlyPiece_0 ∧ onlyPiece_0 ≤ 79) : UA (pm_0) (alive_0) (drawnEdge_0) := by
  subst fe_0_31_1
  subst fe_0_32_1
  subst fe_0_39_1
  subst fe_0_49_1
  have e_hE_0_17_1 := funext hE_0_17_1; subst e_hE_0_17_1
  have e_hE_0_33_1 := funext hE_0_33_1; subst e_hE_0_33_1
  have e_hE_0_34_1 := funext hE_0_34_1; subst e_hE_0_34_1
  have e_hE_0_35_1 := funext hE_0_35_1; subst e_hE_0_35_1
  have e_hE_0_42_1 := funext hE_0_42_1; subst e_hE_0_42_1
  exact rg0_ua (b := x1) (l := x5) (n := pn_0) (pt := pt_0) (ph := ph_0) (bl := blockOf_0) (rg0_of ‹GOK _ _ _ _› ‹BK _ _ _ _ _ _› (by omega) (by omega) ‹D0e _ _ _ _ _ _› ‹D3 _ _ _ _ _› (by omega) (by omega) hE_0_43_1 rfl (by omega))
def o_Mo_draws_9 : or_T := (149, 12, [(0, (2, 0, 0, [165])), (1, (0, 0, 79, [])), (2, (0, 0, 80, [])), (4, (0, 0, 79, [])), (5, (0, 0, 79, [])), (6, (0, 0, 81, [])), (7, (0, 0, 80, [])), (8, (0, 0, 80, [])), (9, (0, 1, 1, [])), (10, (2, 0, 0, [189])), (11, (0, 1, 1, []))], [(23, [4, 2], [-1, 1, -1]), (24, [0, 3], []), (24, [1, 4], []), (100, [10, 5, 11], []), (9, [10, 3], [43]), (7, [6, 9], [1]), (9, [8, 3], [32]), (20, [3], [60, 2, 2, 75, 31, 32, 33, 34]), (20, [3, 2], [60, 1, 4, 97, 32, 33, 34, 35, 17]), (20, [3, 4, 5, 6], [60, 1, 2, 158, 32, 35, 17]), (20, [3, 4, 7], [60, 0, 3, 161, 35, 17, 43])], [], [], [(20, [3, 4, 5], [60, 2, 5, 162, 31, 32, 33, 34, 35, 17, 43]), (20, [3], [60, 1, 2, 122, 32, 35, 43])], [], [(7, 8, 0, 4294967296), (1, 4, -4294967296, 0), (4, 1, -4294967296, 0)])
theorem oo_Mo_draws_9 {kA : Nat → ClassId} : or_ok PRD kA GG o_Mo_draws_9 := by
  refine or_mk fun A ta ws vs hD hth hl => ?_
  intro t0 r0 t1 k1 t2 k2 t4 k4 t5 k5 t6 k6 t7 k7 t8 k8 t9 k9 t10 r10 t11 k11 d0 d1 d2 f2 f7 f8 ta1 w1 le1 s1 f10 f11 f13 f14 f15 f19 f21
  replace f2 := shm_193 f2
  replace f7 := shm_5 f7
  replace f8 := shm_5 f8
  have s1 : (∀ b j, w_el ws b j = if b = v_ad (n_v vs 10) ∧ j = (v_iv (n_v vs 5)).toNat then v_iv (n_v vs 11) else w_el w1 b j) ∧ ∀ b k, w_fd ws b k = w_fd w1 b k := s1.2
  replace f10 := shm_532 f10
  replace f11 := shm_40 f11
  replace f13 := shm_525 f13
  replace f14 := shm_575 f14
  replace f15 := shm_1544 f15
  replace f19 := shm_1969 f19
  replace f21 := shm_1972 f21
  have q3 : n_v vs 3 = n_v vs 0 := f7.symm
  have q4 : n_v vs 4 = n_v vs 1 := f8.symm
  simp only [q3, q4] at f2 f10 f13 f14 f15 f19 f21
  have ar_0_17_1 : w_ar w1 (n_v vs 0) 17 = w_ar ws (n_v vs 0) 17 := congrArg v_ad (s1.2 _ _).symm
  have cr_0_17 := fdq_189 hD hth r0
  have ar_0_33_1 : w_ar w1 (n_v vs 0) 33 = w_ar ws (n_v vs 0) 33 := congrArg v_ad (s1.2 _ _).symm
  have cr_0_33 := fdq_117 hD hth r0
  have ar_0_34_1 : w_ar w1 (n_v vs 0) 34 = w_ar ws (n_v vs 0) 34 := congrArg v_ad (s1.2 _ _).symm
  have cr_0_34 := fdq_118 hD hth r0
  have ar_0_35_1 : w_ar w1 (n_v vs 0) 35 = w_ar ws (n_v vs 0) 35 := congrArg v_ad (s1.2 _ _).symm
  have cr_0_35 := fdq_132 hD hth r0
  have ar_0_42_1 : w_ar w1 (n_v vs 0) 42 = w_ar ws (n_v vs 0) 42 := congrArg v_ad (s1.2 _ _).symm
  have cr_0_42 := fdq_136 hD hth r0
  have ar_0_43_1 : w_ar w1 (n_v vs 0) 43 = w_ar ws (n_v vs 0) 43 := congrArg v_ad (s1.2 _ _).symm
  have ad_10 : v_ad (n_v vs 10) = w_ar ws (n_v vs 0) 43 := (congrArg v_ad f10).trans ar_0_43_1
  have g13 : v_iv (n_v vs 8) = w_fi w1 (n_v vs 0) 32 := congrArg v_iv f13
  simp only [ar_0_33_1, ar_0_34_1, ar_0_17_1, ar_0_35_1, ar_0_42_1, ar_0_43_1] at f14 f15 f19 f21
  have fe_0_31_1 : w_fi ws (n_v vs 0) 31 = w_fi w1 (n_v vs 0) 31 := congrArg v_iv (s1.2 _ _)
  have fe_0_32_1 : w_fi ws (n_v vs 0) 32 = w_fi w1 (n_v vs 0) 32 := congrArg v_iv (s1.2 _ _)
  have fe_0_39_1 : w_fi ws (n_v vs 0) 39 = w_fi w1 (n_v vs 0) 39 := congrArg v_iv (s1.2 _ _)
  have fe_0_49_1 : w_fi ws (n_v vs 0) 49 = w_fi w1 (n_v vs 0) 49 := congrArg v_iv (s1.2 _ _)
  have hE_0_17_1 : ∀ j : Int, w_ei ws (w_ar ws (n_v vs 0) 17) j = w_ei w1 (w_ar ws (n_v vs 0) 17) j := el_kp s1.1 r10 cr_0_17 (by decide)
  have hE_0_33_1 : ∀ j : Int, w_ei ws (w_ar ws (n_v vs 0) 33) j = w_ei w1 (w_ar ws (n_v vs 0) 33) j := el_kp s1.1 r10 cr_0_33 (by decide)
  have hE_0_34_1 : ∀ j : Int, w_ei ws (w_ar ws (n_v vs 0) 34) j = w_ei w1 (w_ar ws (n_v vs 0) 34) j := el_kp s1.1 r10 cr_0_34 (by decide)
  have hE_0_35_1 : ∀ j : Int, w_ei ws (w_ar ws (n_v vs 0) 35) j = w_ei w1 (w_ar ws (n_v vs 0) 35) j := el_kp s1.1 r10 cr_0_35 (by decide)
  have hE_0_42_1 : ∀ j : Int, w_ei ws (w_ar ws (n_v vs 0) 42) j = w_ei w1 (w_ar ws (n_v vs 0) 42) j := el_kp s1.1 r10 cr_0_42 (by decide)
  have hE_0_43_1 : ∀ j : Int, 0 ≤ j → (j = v_iv (n_v vs 5) → w_ei ws (w_ar ws (n_v vs 0) 43) j = v_iv (n_v vs 11)) ∧ (j ≠ v_iv (n_v vs 5) → w_ei ws (w_ar ws (n_v vs 0) 43) j = w_ei w1 (w_ar ws (n_v vs 0) 43) j) := fun j hj => ⟨fun h => by unfold w_ei; rw [s1.1, if_pos ⟨ad_10.symm, by rw [h]⟩], fun h => by unfold w_ei; rw [s1.1, if_neg (fun e => h (by have := e.2; omega))]⟩
  have kz_0_31 := fdq_145 hD hth r0
  have kz_0_32 := fdq_140 hD hth r0
  have kz_0_39 := fdq_135 hD hth r0
  have kz_0_49 := fdq_146 hD hth r0
  have nf0 : fc_1 PRD (20, [3, 4, 5], [60, 2, 5, 162, 31, 32, 33, 34, 35, 17, 43]) ws (vs) := by
    refine ⟨nf_in hl rfl, sgq_1973 ?_⟩
    · show RG0 (w_fi ws (n_v vs 3) 31) (w_fi ws (n_v vs 3) 32) (w_ei ws (w_ar ws (n_v vs 3) 33)) (w_ei ws (w_ar ws (n_v vs 3) 34)) (w_ei ws (w_ar ws (n_v vs 3) 35)) (w_ei ws (w_ar ws (n_v vs 3) 17)) (w_ei ws (w_ar ws (n_v vs 3) 43)) (v_iv (n_v vs 4)) (v_iv (n_v vs 5))
      simp only [q3, q4]
      exact vc_Mo_draws_9_0 (v_iv (n_v vs 1)) (v_iv (n_v vs 2)) (v_iv (n_v vs 4)) (v_iv (n_v vs 5)) (v_iv (n_v vs 6)) (v_iv (n_v vs 7)) (v_iv (n_v vs 8)) (v_iv (n_v vs 9)) (v_iv (n_v vs 11)) (w_ei ws (w_ar ws (n_v vs 0) 33)) (w_ei ws (w_ar ws (n_v vs 0) 34)) (w_fi ws (n_v vs 0) 31) (w_fi ws (n_v vs 0) 32) (w_ei ws (w_ar ws (n_v vs 0) 35)) (w_ei ws (w_ar ws (n_v vs 0) 17)) (w_fi ws (n_v vs 0) 49) (w_fi ws (n_v vs 0) 39) (w_ei ws (w_ar ws (n_v vs 0) 42)) (w_fi w1 (n_v vs 0) 32) (w_ei w1 (w_ar ws (n_v vs 0) 33)) (w_ei w1 (w_ar ws (n_v vs 0) 34)) (w_fi w1 (n_v vs 0) 31) (w_ei w1 (w_ar ws (n_v vs 0) 35)) (w_ei w1 (w_ar ws (n_v vs 0) 17)) (w_fi w1 (n_v vs 0) 49) (w_fi w1 (n_v vs 0) 39) (w_ei w1 (w_ar ws (n_v vs 0) 42)) (w_ei w1 (w_ar ws (n_v vs 0) 43)) (w_ei ws (w_ar ws (n_v vs 0) 43)) k1 k2 k4 k5 k6 k7 k8 k9 k11 d0 d1 d2 f2 f11 g13 f14 f15 f19 f21 fe_0_31_1 fe_0_32_1 fe_0_39_1 fe_0_49_1 hE_0_17_1 hE_0_33_1 hE_0_34_1 hE_0_35_1 hE_0_42_1 hE_0_43_1 kz_0_31 kz_0_32 kz_0_39 kz_0_49
  have nf1 : fc_1 PRD (20, [3], [60, 1, 2, 122, 32, 35, 43]) ws (vs) := by
    refine ⟨nf_in hl rfl, sgq_1455 ?_⟩
    · show UA (w_fi ws (n_v vs 3) 32) (w_ei ws (w_ar ws (n_v vs 3) 35)) (w_ei ws (w_ar ws (n_v vs 3) 43))
      rw [q3]
      exact vc_Mo_draws_9_1 (v_iv (n_v vs 1)) (v_iv (n_v vs 2)) (v_iv (n_v vs 4)) (v_iv (n_v vs 5)) (v_iv (n_v vs 6)) (v_iv (n_v vs 7)) (v_iv (n_v vs 8)) (v_iv (n_v vs 9)) (v_iv (n_v vs 11)) (w_ei ws (w_ar ws (n_v vs 0) 33)) (w_ei ws (w_ar ws (n_v vs 0) 34)) (w_fi ws (n_v vs 0) 31) (w_fi ws (n_v vs 0) 32) (w_ei ws (w_ar ws (n_v vs 0) 35)) (w_ei ws (w_ar ws (n_v vs 0) 17)) (w_fi ws (n_v vs 0) 49) (w_fi ws (n_v vs 0) 39) (w_ei ws (w_ar ws (n_v vs 0) 42)) (w_fi w1 (n_v vs 0) 32) (w_ei w1 (w_ar ws (n_v vs 0) 33)) (w_ei w1 (w_ar ws (n_v vs 0) 34)) (w_fi w1 (n_v vs 0) 31) (w_ei w1 (w_ar ws (n_v vs 0) 35)) (w_ei w1 (w_ar ws (n_v vs 0) 17)) (w_fi w1 (n_v vs 0) 49) (w_fi w1 (n_v vs 0) 39) (w_ei w1 (w_ar ws (n_v vs 0) 42)) (w_ei w1 (w_ar ws (n_v vs 0) 43)) (w_ei ws (w_ar ws (n_v vs 0) 43)) k1 k2 k4 k5 k6 k7 k8 k9 k11 d0 d1 d2 f2 f11 g13 f14 f15 f19 f21 fe_0_31_1 fe_0_32_1 fe_0_39_1 fe_0_49_1 hE_0_17_1 hE_0_33_1 hE_0_34_1 hE_0_35_1 hE_0_42_1 hE_0_43_1 kz_0_31 kz_0_32 kz_0_39 kz_0_49
  refine ⟨(fun _ h => (by cases h)), [], trivial, ?_, (fun _ h => (by cases h))⟩
  rw [List.append_nil]
  exact List.forall_mem_cons.mpr ⟨⟨show (20 : Nat) < 100 from by decide, nf0⟩, List.forall_mem_cons.mpr ⟨⟨show (20 : Nat) < 100 from by decide, nf1⟩, (fun _ h => (by cases h))⟩⟩
set_option maxHeartbeats 4000000 in
theorem vc_Mo_draws_10_0 (x1 : Int) (x5 : Int) (x13 : Int) (pt_0 : Int → Int) (ph_0 : Int → Int) (alive_0 : Int → Int) (blockOf_0 : Int → Int) (drawnEdge_0 : Int → Int) (pn_0 : Int) (pm_0 : Int) (onlyPiece_0 : Int) (faces_0 : Int) (drawnNode_0 : Int → Int) (pm_1 : Int) (pt_1 : Int → Int) (ph_1 : Int → Int) (pn_1 : Int) (alive_1 : Int → Int) (blockOf_1 : Int → Int) (onlyPiece_1 : Int) (faces_1 : Int) (drawnNode_1 : Int → Int) (k1 : 0 ≤ x1 ∧ x1 ≤ 79) (k5 : 0 ≤ x5 ∧ x5 ≤ 79) (k13 : 0 ≤ x13 ∧ x13 ≤ 24) (h2 : x13 = ph_0 (x5)) (f4 : RG0 (pn_0) (pm_0) (pt_0) (ph_0) (alive_0) (blockOf_0) (drawnEdge_0) (x1) (x5)) (fe_0_31_1 : pn_0 = pn_1) (fe_0_32_1 : pm_0 = pm_1) (fe_0_39_1 : faces_0 = faces_1) (fe_0_49_1 : onlyPiece_0 = onlyPiece_1) (hE_0_17_1 : ∀ j : Int, blockOf_0 j = blockOf_1 j) (hE_0_33_1 : ∀ j : Int, pt_0 j = pt_1 j) (hE_0_34_1 : ∀ j : Int, ph_0 j = ph_1 j) (hE_0_35_1 : ∀ j : Int, alive_0 j = alive_1 j) (hE_0_42_1 : ∀ j : Int, drawnNode_0 j = drawnNode_1 j) (kz_0_31 : 0 ≤ pn_0 ∧ pn_0 ≤ 25) (kz_0_32 : 0 ≤ pm_0 ∧ pm_0 ≤ 80) (kz_0_39 : 0 ≤ faces_0 ∧ faces_0 ≤ 120) (kz_0_49 : (-1) ≤ onlyPiece_0 ∧ onlyPiece_0 ≤ 79) : x13 = ph_0 (x5) := by
  subst fe_0_31_1
  subst fe_0_32_1
  subst fe_0_39_1
  subst fe_0_49_1
  have e_hE_0_17_1 := funext hE_0_17_1; subst e_hE_0_17_1
  have e_hE_0_33_1 := funext hE_0_33_1; subst e_hE_0_33_1
  have e_hE_0_34_1 := funext hE_0_34_1; subst e_hE_0_34_1
  have e_hE_0_35_1 := funext hE_0_35_1; subst e_hE_0_35_1
  have e_hE_0_42_1 := funext hE_0_42_1; subst e_hE_0_42_1
  have h := ‹RG0 _ _ _ _ _ _ _ _ _›
  have h2 := h.1.1 x5 h.2.2.2.1.1 h.2.2.2.1.2.1
  omega
set_option maxHeartbeats 4000000 in
theorem vc_Mo_draws_10_1 (x1 : Int) (x5 : Int) (x13 : Int) (x15 : Int) (pt_0 : Int → Int) (ph_0 : Int → Int) (alive_0 : Int → Int) (blockOf_0 : Int → Int) (drawnEdge_0 : Int → Int) (pn_0 : Int) (pm_0 : Int) (onlyPiece_0 : Int) (faces_0 : Int) (drawnNode_0 : Int → Int) (pm_1 : Int) (pt_1 : Int → Int) (ph_1 : Int → Int) (pn_1 : Int) (alive_1 : Int → Int) (blockOf_1 : Int → Int) (onlyPiece_1 : Int) (faces_1 : Int) (drawnNode_1 : Int → Int) (k1 : 0 ≤ x1 ∧ x1 ≤ 79) (k5 : 0 ≤ x5 ∧ x5 ≤ 79) (k13 : 0 ≤ x13 ∧ x13 ≤ 24) (k15 : 0 ≤ x15 ∧ x15 ≤ 24) (h0 : x15 = pt_0 (x5)) (h2 : x13 = ph_0 (x5)) (f4 : RG0 (pn_0) (pm_0) (pt_0) (ph_0) (alive_0) (blockOf_0) (drawnEdge_0) (x1) (x5)) (fe_0_31_1 : pn_0 = pn_1) (fe_0_32_1 : pm_0 = pm_1) (fe_0_39_1 : faces_0 = faces_1) (fe_0_49_1 : onlyPiece_0 = onlyPiece_1) (hE_0_17_1 : ∀ j : Int, blockOf_0 j = blockOf_1 j) (hE_0_33_1 : ∀ j : Int, pt_0 j = pt_1 j) (hE_0_34_1 : ∀ j : Int, ph_0 j = ph_1 j) (hE_0_35_1 : ∀ j : Int, alive_0 j = alive_1 j) (hE_0_42_1 : ∀ j : Int, drawnNode_0 j = drawnNode_1 j) (kz_0_31 : 0 ≤ pn_0 ∧ pn_0 ≤ 25) (kz_0_32 : 0 ≤ pm_0 ∧ pm_0 ≤ 80) (kz_0_39 : 0 ≤ faces_0 ∧ faces_0 ≤ 120) (kz_0_49 : (-1) ≤ onlyPiece_0 ∧ onlyPiece_0 ≤ 79) : x15 = pt_0 (x5) := by
  subst fe_0_31_1
  subst fe_0_32_1
  subst fe_0_39_1
  subst fe_0_49_1
  have e_hE_0_17_1 := funext hE_0_17_1; subst e_hE_0_17_1
  have e_hE_0_33_1 := funext hE_0_33_1; subst e_hE_0_33_1
  have e_hE_0_34_1 := funext hE_0_34_1; subst e_hE_0_34_1
  have e_hE_0_35_1 := funext hE_0_35_1; subst e_hE_0_35_1
  have e_hE_0_42_1 := funext hE_0_42_1; subst e_hE_0_42_1
  have h := ‹RG0 _ _ _ _ _ _ _ _ _›
  have h2 := h.1.1 x5 h.2.2.2.1.1 h.2.2.2.1.2.1
  omega
set_option maxHeartbeats 4000000 in
theorem vc_Mo_draws_10_2 (x1 : Int) (x5 : Int) (x13 : Int) (pt_0 : Int → Int) (ph_0 : Int → Int) (alive_0 : Int → Int) (blockOf_0 : Int → Int) (drawnEdge_0 : Int → Int) (pn_0 : Int) (pm_0 : Int) (onlyPiece_0 : Int) (faces_0 : Int) (drawnNode_0 : Int → Int) (pm_1 : Int) (pt_1 : Int → Int) (ph_1 : Int → Int) (pn_1 : Int) (alive_1 : Int → Int) (blockOf_1 : Int → Int) (onlyPiece_1 : Int) (faces_1 : Int) (drawnNode_1 : Int → Int) (k1 : 0 ≤ x1 ∧ x1 ≤ 79) (k5 : 0 ≤ x5 ∧ x5 ≤ 79) (k13 : 0 ≤ x13 ∧ x13 ≤ 24) (h2 : x13 = ph_0 (x5)) (f4 : RG0 (pn_0) (pm_0) (pt_0) (ph_0) (alive_0) (blockOf_0) (drawnEdge_0) (x1) (x5)) (fe_0_31_1 : pn_0 = pn_1) (fe_0_32_1 : pm_0 = pm_1) (fe_0_39_1 : faces_0 = faces_1) (fe_0_49_1 : onlyPiece_0 = onlyPiece_1) (hE_0_17_1 : ∀ j : Int, blockOf_0 j = blockOf_1 j) (hE_0_33_1 : ∀ j : Int, pt_0 j = pt_1 j) (hE_0_34_1 : ∀ j : Int, ph_0 j = ph_1 j) (hE_0_35_1 : ∀ j : Int, alive_0 j = alive_1 j) (hE_0_42_1 : ∀ j : Int, drawnNode_0 j = drawnNode_1 j) (kz_0_31 : 0 ≤ pn_0 ∧ pn_0 ≤ 25) (kz_0_32 : 0 ≤ pm_0 ∧ pm_0 ≤ 80) (kz_0_39 : 0 ≤ faces_0 ∧ faces_0 ≤ 120) (kz_0_49 : (-1) ≤ onlyPiece_0 ∧ onlyPiece_0 ≤ 79) : 1 * x13 + ((-1) * pn_0 + 0) ≤ (-1) := by
  subst fe_0_31_1
  subst fe_0_32_1
  subst fe_0_39_1
  subst fe_0_49_1
  have e_hE_0_17_1 := funext hE_0_17_1; subst e_hE_0_17_1
  have e_hE_0_33_1 := funext hE_0_33_1; subst e_hE_0_33_1
  have e_hE_0_34_1 := funext hE_0_34_1; subst e_hE_0_34_1
  have e_hE_0_35_1 := funext hE_0_35_1; subst e_hE_0_35_1
  have e_hE_0_42_1 := funext hE_0_42_1; subst e_hE_0_42_1
  have h := ‹RG0 _ _ _ _ _ _ _ _ _›
  have h2 := h.1.1 x5 h.2.2.2.1.1 h.2.2.2.1.2.1
  omega
set_option maxHeartbeats 4000000 in
theorem vc_Mo_draws_10_3 (x1 : Int) (x5 : Int) (x13 : Int) (x15 : Int) (pt_0 : Int → Int) (ph_0 : Int → Int) (alive_0 : Int → Int) (blockOf_0 : Int → Int) (drawnEdge_0 : Int → Int) (pn_0 : Int) (pm_0 : Int) (onlyPiece_0 : Int) (faces_0 : Int) (drawnNode_0 : Int → Int) (pm_1 : Int) (pt_1 : Int → Int) (ph_1 : Int → Int) (pn_1 : Int) (alive_1 : Int → Int) (blockOf_1 : Int → Int) (onlyPiece_1 : Int) (faces_1 : Int) (drawnNode_1 : Int → Int) (k1 : 0 ≤ x1 ∧ x1 ≤ 79) (k5 : 0 ≤ x5 ∧ x5 ≤ 79) (k13 : 0 ≤ x13 ∧ x13 ≤ 24) (k15 : 0 ≤ x15 ∧ x15 ≤ 24) (h0 : x15 = pt_0 (x5)) (h2 : x13 = ph_0 (x5)) (f4 : RG0 (pn_0) (pm_0) (pt_0) (ph_0) (alive_0) (blockOf_0) (drawnEdge_0) (x1) (x5)) (fe_0_31_1 : pn_0 = pn_1) (fe_0_32_1 : pm_0 = pm_1) (fe_0_39_1 : faces_0 = faces_1) (fe_0_49_1 : onlyPiece_0 = onlyPiece_1) (hE_0_17_1 : ∀ j : Int, blockOf_0 j = blockOf_1 j) (hE_0_33_1 : ∀ j : Int, pt_0 j = pt_1 j) (hE_0_34_1 : ∀ j : Int, ph_0 j = ph_1 j) (hE_0_35_1 : ∀ j : Int, alive_0 j = alive_1 j) (hE_0_42_1 : ∀ j : Int, drawnNode_0 j = drawnNode_1 j) (kz_0_31 : 0 ≤ pn_0 ∧ pn_0 ≤ 25) (kz_0_32 : 0 ≤ pm_0 ∧ pm_0 ≤ 80) (kz_0_39 : 0 ≤ faces_0 ∧ faces_0 ≤ 120) (kz_0_49 : (-1) ≤ onlyPiece_0 ∧ onlyPiece_0 ≤ 79) : 1 * x15 + ((-1) * pn_0 + 0) ≤ (-1) := by
  subst fe_0_31_1
  subst fe_0_32_1
  subst fe_0_39_1
  subst fe_0_49_1
  have e_hE_0_17_1 := funext hE_0_17_1; subst e_hE_0_17_1
  have e_hE_0_33_1 := funext hE_0_33_1; subst e_hE_0_33_1
  have e_hE_0_34_1 := funext hE_0_34_1; subst e_hE_0_34_1
  have e_hE_0_35_1 := funext hE_0_35_1; subst e_hE_0_35_1
  have e_hE_0_42_1 := funext hE_0_42_1; subst e_hE_0_42_1
  have h := ‹RG0 _ _ _ _ _ _ _ _ _›
  have h2 := h.1.1 x5 h.2.2.2.1.1 h.2.2.2.1.2.1
  omega
def o_Mo_draws_10 : or_T := (163, 17, [(0, (2, 0, 0, [165])), (1, (0, 0, 79, [])), (5, (0, 0, 79, [])), (10, (2, 0, 0, [189])), (13, (0, 0, 24, [])), (15, (0, 0, 24, []))], [(10, [15, 14, 5], []), (9, [14, 3], [33]), (10, [13, 12, 5], []), (9, [12, 3], [34]), (20, [3, 4, 5], [60, 2, 5, 162, 31, 32, 33, 34, 35, 17, 43]), (24, [0, 3], []), (24, [1, 4], []), (100, [10, 5, 11], [])], [], [], [(20, [13, 3, 5], [50, 0, 1, 1034, 1, 2, 1, 0, 3, 1, 34, 1, 2]), (20, [15, 3, 5], [50, 0, 1, 1033, 1, 2, 1, 0, 3, 1, 33, 1, 2]), (20, [13, 3], [30, -1, 1, 0, 0, -1, 1, 31]), (20, [15, 3], [30, -1, 1, 0, 0, -1, 1, 31])], [], [])
theorem oo_Mo_draws_10 {kA : Nat → ClassId} : or_ok PRD kA GG o_Mo_draws_10 := by
  refine or_mk fun A ta ws vs hD hth hl => ?_
  intro t0 r0 t1 k1 t5 k5 t10 r10 t13 k13 t15 k15 f0 f1 f2 f3 f4 f13 f14 ta1 w1 le1 s1
  replace f0 := shm_107 f0
  replace f1 := shm_494 f1
  replace f2 := shm_107 f2
  replace f3 := shm_496 f3
  replace f4 := shm_1973 f4
  replace f13 := shm_5 f13
  replace f14 := shm_5 f14
  have s1 : (∀ b j, w_el ws b j = if b = v_ad (n_v vs 10) ∧ j = (v_iv (n_v vs 5)).toNat then v_iv (n_v vs 11) else w_el w1 b j) ∧ ∀ b k, w_fd ws b k = w_fd w1 b k := s1.2
  have q3 : n_v vs 3 = n_v vs 0 := f13.symm
  have q4 : n_v vs 4 = n_v vs 1 := f14.symm
  simp only [q3, q4] at f1 f3 f4
  have cr_0_17 := fdq_189 hD hth r0
  have cr_0_33 := fdq_117 hD hth r0
  have cr_0_34 := fdq_118 hD hth r0
  have cr_0_35 := fdq_132 hD hth r0
  have cr_0_42 := fdq_136 hD hth r0
  have ad_14 : v_ad (n_v vs 14) = w_ar ws (n_v vs 0) 33 := congrArg v_ad f1
  have ad_12 : v_ad (n_v vs 12) = w_ar ws (n_v vs 0) 34 := congrArg v_ad f3
  simp only [ad_14] at f0
  have h0 : v_iv (n_v vs 15) = w_ei ws (w_ar ws (n_v vs 0) 33) (v_iv (n_v vs 5)) := f0
  simp only [ad_12] at f2
  have h2 : v_iv (n_v vs 13) = w_ei ws (w_ar ws (n_v vs 0) 34) (v_iv (n_v vs 5)) := f2
  have fe_0_31_1 : w_fi ws (n_v vs 0) 31 = w_fi w1 (n_v vs 0) 31 := congrArg v_iv (s1.2 _ _)
  have fe_0_32_1 : w_fi ws (n_v vs 0) 32 = w_fi w1 (n_v vs 0) 32 := congrArg v_iv (s1.2 _ _)
  have fe_0_39_1 : w_fi ws (n_v vs 0) 39 = w_fi w1 (n_v vs 0) 39 := congrArg v_iv (s1.2 _ _)
  have fe_0_49_1 : w_fi ws (n_v vs 0) 49 = w_fi w1 (n_v vs 0) 49 := congrArg v_iv (s1.2 _ _)
  have hE_0_17_1 : ∀ j : Int, w_ei ws (w_ar ws (n_v vs 0) 17) j = w_ei w1 (w_ar ws (n_v vs 0) 17) j := el_kp s1.1 r10 cr_0_17 (by decide)
  have hE_0_33_1 : ∀ j : Int, w_ei ws (w_ar ws (n_v vs 0) 33) j = w_ei w1 (w_ar ws (n_v vs 0) 33) j := el_kp s1.1 r10 cr_0_33 (by decide)
  have hE_0_34_1 : ∀ j : Int, w_ei ws (w_ar ws (n_v vs 0) 34) j = w_ei w1 (w_ar ws (n_v vs 0) 34) j := el_kp s1.1 r10 cr_0_34 (by decide)
  have hE_0_35_1 : ∀ j : Int, w_ei ws (w_ar ws (n_v vs 0) 35) j = w_ei w1 (w_ar ws (n_v vs 0) 35) j := el_kp s1.1 r10 cr_0_35 (by decide)
  have hE_0_42_1 : ∀ j : Int, w_ei ws (w_ar ws (n_v vs 0) 42) j = w_ei w1 (w_ar ws (n_v vs 0) 42) j := el_kp s1.1 r10 cr_0_42 (by decide)
  have kz_0_31 := fdq_145 hD hth r0
  have kz_0_32 := fdq_140 hD hth r0
  have kz_0_39 := fdq_135 hD hth r0
  have kz_0_49 := fdq_146 hD hth r0
  have nf0 : fc_1 PRD (20, [13, 3, 5], [50, 0, 1, 1034, 1, 2, 1, 0, 3, 1, 34, 1, 2]) ws (vs) := by
    refine ⟨nf_in hl rfl, sgq_1466 ?_⟩
    · show v_iv (n_v vs 13) = w_ei ws (w_ar ws (n_v vs 3) 34) (v_iv (n_v vs 5))
      rw [q3]
      exact vc_Mo_draws_10_0 (v_iv (n_v vs 1)) (v_iv (n_v vs 5)) (v_iv (n_v vs 13)) (w_ei ws (w_ar ws (n_v vs 0) 33)) (w_ei ws (w_ar ws (n_v vs 0) 34)) (w_ei ws (w_ar ws (n_v vs 0) 35)) (w_ei ws (w_ar ws (n_v vs 0) 17)) (w_ei ws (w_ar ws (n_v vs 0) 43)) (w_fi ws (n_v vs 0) 31) (w_fi ws (n_v vs 0) 32) (w_fi ws (n_v vs 0) 49) (w_fi ws (n_v vs 0) 39) (w_ei ws (w_ar ws (n_v vs 0) 42)) (w_fi w1 (n_v vs 0) 32) (w_ei w1 (w_ar ws (n_v vs 0) 33)) (w_ei w1 (w_ar ws (n_v vs 0) 34)) (w_fi w1 (n_v vs 0) 31) (w_ei w1 (w_ar ws (n_v vs 0) 35)) (w_ei w1 (w_ar ws (n_v vs 0) 17)) (w_fi w1 (n_v vs 0) 49) (w_fi w1 (n_v vs 0) 39) (w_ei w1 (w_ar ws (n_v vs 0) 42)) k1 k5 k13 h2 f4 fe_0_31_1 fe_0_32_1 fe_0_39_1 fe_0_49_1 hE_0_17_1 hE_0_33_1 hE_0_34_1 hE_0_35_1 hE_0_42_1 kz_0_31 kz_0_32 kz_0_39 kz_0_49
  have nf1 : fc_1 PRD (20, [15, 3, 5], [50, 0, 1, 1033, 1, 2, 1, 0, 3, 1, 33, 1, 2]) ws (vs) := by
    refine ⟨nf_in hl rfl, sgq_1465 ?_⟩
    · show v_iv (n_v vs 15) = w_ei ws (w_ar ws (n_v vs 3) 33) (v_iv (n_v vs 5))
      rw [q3]
      exact vc_Mo_draws_10_1 (v_iv (n_v vs 1)) (v_iv (n_v vs 5)) (v_iv (n_v vs 13)) (v_iv (n_v vs 15)) (w_ei ws (w_ar ws (n_v vs 0) 33)) (w_ei ws (w_ar ws (n_v vs 0) 34)) (w_ei ws (w_ar ws (n_v vs 0) 35)) (w_ei ws (w_ar ws (n_v vs 0) 17)) (w_ei ws (w_ar ws (n_v vs 0) 43)) (w_fi ws (n_v vs 0) 31) (w_fi ws (n_v vs 0) 32) (w_fi ws (n_v vs 0) 49) (w_fi ws (n_v vs 0) 39) (w_ei ws (w_ar ws (n_v vs 0) 42)) (w_fi w1 (n_v vs 0) 32) (w_ei w1 (w_ar ws (n_v vs 0) 33)) (w_ei w1 (w_ar ws (n_v vs 0) 34)) (w_fi w1 (n_v vs 0) 31) (w_ei w1 (w_ar ws (n_v vs 0) 35)) (w_ei w1 (w_ar ws (n_v vs 0) 17)) (w_fi w1 (n_v vs 0) 49) (w_fi w1 (n_v vs 0) 39) (w_ei w1 (w_ar ws (n_v vs 0) 42)) k1 k5 k13 k15 h0 h2 f4 fe_0_31_1 fe_0_32_1 fe_0_39_1 fe_0_49_1 hE_0_17_1 hE_0_33_1 hE_0_34_1 hE_0_35_1 hE_0_42_1 kz_0_31 kz_0_32 kz_0_39 kz_0_49
  have nf2 : fc_1 PRD (20, [13, 3], [30, -1, 1, 0, 0, -1, 1, 31]) ws (vs) := by
    refine ⟨nf_in hl rfl, sgq_553 ?_⟩
    · show 1 * v_iv (n_v vs 13) + ((-1) * w_fi ws (n_v vs 3) 31 + 0) ≤ (-1)
      rw [q3]
      exact vc_Mo_draws_10_2 (v_iv (n_v vs 1)) (v_iv (n_v vs 5)) (v_iv (n_v vs 13)) (w_ei ws (w_ar ws (n_v vs 0) 33)) (w_ei ws (w_ar ws (n_v vs 0) 34)) (w_ei ws (w_ar ws (n_v vs 0) 35)) (w_ei ws (w_ar ws (n_v vs 0) 17)) (w_ei ws (w_ar ws (n_v vs 0) 43)) (w_fi ws (n_v vs 0) 31) (w_fi ws (n_v vs 0) 32) (w_fi ws (n_v vs 0) 49) (w_fi ws (n_v vs 0) 39) (w_ei ws (w_ar ws (n_v vs 0) 42)) (w_fi w1 (n_v vs 0) 32) (w_ei w1 (w_ar ws (n_v vs 0) 33)) (w_ei w1 (w_ar ws (n_v vs 0) 34)) (w_fi w1 (n_v vs 0) 31) (w_ei w1 (w_ar ws (n_v vs 0) 35)) (w_ei w1 (w_ar ws (n_v vs 0) 17)) (w_fi w1 (n_v vs 0) 49) (w_fi w1 (n_v vs 0) 39) (w_ei w1 (w_ar ws (n_v vs 0) 42)) k1 k5 k13 h2 f4 fe_0_31_1 fe_0_32_1 fe_0_39_1 fe_0_49_1 hE_0_17_1 hE_0_33_1 hE_0_34_1 hE_0_35_1 hE_0_42_1 kz_0_31 kz_0_32 kz_0_39 kz_0_49
  have nf3 : fc_1 PRD (20, [15, 3], [30, -1, 1, 0, 0, -1, 1, 31]) ws (vs) := by
    refine ⟨nf_in hl rfl, sgq_553 ?_⟩
    · show 1 * v_iv (n_v vs 15) + ((-1) * w_fi ws (n_v vs 3) 31 + 0) ≤ (-1)
      rw [q3]
      exact vc_Mo_draws_10_3 (v_iv (n_v vs 1)) (v_iv (n_v vs 5)) (v_iv (n_v vs 13)) (v_iv (n_v vs 15)) (w_ei ws (w_ar ws (n_v vs 0) 33)) (w_ei ws (w_ar ws (n_v vs 0) 34)) (w_ei ws (w_ar ws (n_v vs 0) 35)) (w_ei ws (w_ar ws (n_v vs 0) 17)) (w_ei ws (w_ar ws (n_v vs 0) 43)) (w_fi ws (n_v vs 0) 31) (w_fi ws (n_v vs 0) 32) (w_fi ws (n_v vs 0) 49) (w_fi ws (n_v vs 0) 39) (w_ei ws (w_ar ws (n_v vs 0) 42)) (w_fi w1 (n_v vs 0) 32) (w_ei w1 (w_ar ws (n_v vs 0) 33)) (w_ei w1 (w_ar ws (n_v vs 0) 34)) (w_fi w1 (n_v vs 0) 31) (w_ei w1 (w_ar ws (n_v vs 0) 35)) (w_ei w1 (w_ar ws (n_v vs 0) 17)) (w_fi w1 (n_v vs 0) 49) (w_fi w1 (n_v vs 0) 39) (w_ei w1 (w_ar ws (n_v vs 0) 42)) k1 k5 k13 k15 h0 h2 f4 fe_0_31_1 fe_0_32_1 fe_0_39_1 fe_0_49_1 hE_0_17_1 hE_0_33_1 hE_0_34_1 hE_0_35_1 hE_0_42_1 kz_0_31 kz_0_32 kz_0_39 kz_0_49
  refine ⟨(fun _ h => (by cases h)), [], trivial, ?_, (fun _ h => (by cases h))⟩
  rw [List.append_nil]
  exact List.forall_mem_cons.mpr ⟨⟨show (20 : Nat) < 100 from by decide, nf0⟩, List.forall_mem_cons.mpr ⟨⟨show (20 : Nat) < 100 from by decide, nf1⟩, List.forall_mem_cons.mpr ⟨⟨show (20 : Nat) < 100 from by decide, nf2⟩, List.forall_mem_cons.mpr ⟨⟨show (20 : Nat) < 100 from by decide, nf3⟩, (fun _ h => (by cases h))⟩⟩⟩⟩
set_option maxHeartbeats 4000000 in
theorem vc_Mo_draws_11_0 (x1 : Int) (x5 : Int) (x13 : Int) (x15 : Int) (x16 : Int) (ph_0 : Int → Int) (pt_0 : Int → Int) (pn_0 : Int) (alive_0 : Int → Int) (blockOf_0 : Int → Int) (drawnEdge_0 : Int → Int) (pm_0 : Int) (onlyPiece_0 : Int) (drawnNode_0 : Int → Int) (pieceOf_0 : Int → Int) (way_0 : Int → Int) (wayMany_0 : Int) (k1 : 0 ≤ x1 ∧ x1 ≤ 79) (k5 : 0 ≤ x5 ∧ x5 ≤ 79) (k13 : 0 ≤ x13 ∧ x13 ≤ 24) (k15 : 0 ≤ x15 ∧ x15 ≤ 24) (k16 : 0 ≤ x16 ∧ x16 ≤ 0) (f0 : x13 = ph_0 (x5)) (f1 : x15 = pt_0 (x5)) (f4 : RG0 (pn_0) (pm_0) (pt_0) (ph_0) (alive_0) (blockOf_0) (drawnEdge_0) (x1) (x5)) (f9 : onlyPiece_0 = (-1)) (f12 : D1n (pn_0) (drawnNode_0)) (f15 : SHP (pn_0) (pm_0) (onlyPiece_0) (wayMany_0) (pt_0) (ph_0) (alive_0) (drawnEdge_0) (pieceOf_0) (drawnNode_0) (way_0) (x13) (x15) (x16)) (kz_0_31 : 0 ≤ pn_0 ∧ pn_0 ≤ 25) (kz_0_32 : 0 ≤ pm_0 ∧ pm_0 ≤ 80) (kz_0_45 : 0 ≤ wayMany_0 ∧ wayMany_0 ≤ 30) (kz_0_49 : (-1) ≤ onlyPiece_0 ∧ onlyPiece_0 ≤ 79) : RGS (pn_0) (pm_0) (wayMany_0) (pt_0) (ph_0) (alive_0) (blockOf_0) (drawnEdge_0) (drawnNode_0) (way_0) (x1) (x5) := by
  exact rgs_of ‹RG0 _ _ _ _ _ _ _ _ _› ‹D1n _ _› ‹SHP _ _ _ _ _ _ _ _ _ _ _ _ _ _› (by omega) (by omega) (by omega) (by omega)
def o_Mo_draws_11 : or_T := (166, 17, [(0, (2, 0, 0, [165])), (1, (0, 0, 79, [])), (5, (0, 0, 79, [])), (13, (0, 0, 24, [])), (15, (0, 0, 24, [])), (16, (0, 0, 0, []))], [(20, [13, 3, 5], [50, 0, 1, 1034, 1, 2, 1, 0, 3, 1, 34, 1, 2]), (20, [15, 3, 5], [50, 0, 1, 1033, 1, 2, 1, 0, 3, 1, 33, 1, 2]), (20, [3, 4, 5], [60, 2, 5, 162, 31, 32, 33, 34, 35, 17, 43]), (20, [3], [50, 1, 0, 49, 1, 3, 2, 0, 49, 0, -1]), (20, [3], [60, 1, 1, 160, 31, 42]), (24, [0, 3], []), (24, [1, 4], []), (20, [3, 13, 15, 16], [60, 4, 7, 130, 31, 32, 49, 45, 33, 34, 35, 43, 44, 42, 46])], [], [], [(20, [3, 4, 5], [60, 3, 7, 163, 31, 32, 45, 33, 34, 35, 17, 43, 42, 46])], [], [])
theorem oo_Mo_draws_11 {kA : Nat → ClassId} : or_ok PRD kA GG o_Mo_draws_11 := by
  refine or_mk fun A ta ws vs hD hth hl => ?_
  intro t0 r0 t1 k1 t5 k5 t13 k13 t15 k15 t16 k16 f0 f1 f4 f9 f12 f13 f14 f15
  replace f0 := shm_1466 f0
  replace f1 := shm_1465 f1
  replace f4 := shm_1973 f4
  replace f9 := shm_1675 f9
  replace f12 := shm_1971 f12
  replace f13 := shm_5 f13
  replace f14 := shm_5 f14
  replace f15 := shm_1463 f15
  have q3 : n_v vs 3 = n_v vs 0 := f13.symm
  have q4 : n_v vs 4 = n_v vs 1 := f14.symm
  simp only [q3, q4] at f0 f1 f4 f9 f12 f15
  have kz_0_31 := fdq_145 hD hth r0
  have kz_0_32 := fdq_140 hD hth r0
  have kz_0_45 := fdq_191 hD hth r0
  have kz_0_49 := fdq_146 hD hth r0
  have nf0 : fc_1 PRD (20, [3, 4, 5], [60, 3, 7, 163, 31, 32, 45, 33, 34, 35, 17, 43, 42, 46]) ws (vs) := by
    refine ⟨nf_in hl rfl, sgq_1974 ?_⟩
    · show RGS (w_fi ws (n_v vs 3) 31) (w_fi ws (n_v vs 3) 32) (w_fi ws (n_v vs 3) 45) (w_ei ws (w_ar ws (n_v vs 3) 33)) (w_ei ws (w_ar ws (n_v vs 3) 34)) (w_ei ws (w_ar ws (n_v vs 3) 35)) (w_ei ws (w_ar ws (n_v vs 3) 17)) (w_ei ws (w_ar ws (n_v vs 3) 43)) (w_ei ws (w_ar ws (n_v vs 3) 42)) (w_ei ws (w_ar ws (n_v vs 3) 46)) (v_iv (n_v vs 4)) (v_iv (n_v vs 5))
      simp only [q3, q4]
      exact vc_Mo_draws_11_0 (v_iv (n_v vs 1)) (v_iv (n_v vs 5)) (v_iv (n_v vs 13)) (v_iv (n_v vs 15)) (v_iv (n_v vs 16)) (w_ei ws (w_ar ws (n_v vs 0) 34)) (w_ei ws (w_ar ws (n_v vs 0) 33)) (w_fi ws (n_v vs 0) 31) (w_ei ws (w_ar ws (n_v vs 0) 35)) (w_ei ws (w_ar ws (n_v vs 0) 17)) (w_ei ws (w_ar ws (n_v vs 0) 43)) (w_fi ws (n_v vs 0) 32) (w_fi ws (n_v vs 0) 49) (w_ei ws (w_ar ws (n_v vs 0) 42)) (w_ei ws (w_ar ws (n_v vs 0) 44)) (w_ei ws (w_ar ws (n_v vs 0) 46)) (w_fi ws (n_v vs 0) 45) k1 k5 k13 k15 k16 f0 f1 f4 f9 f12 f15 kz_0_31 kz_0_32 kz_0_45 kz_0_49
  refine ⟨(fun _ h => (by cases h)), [], trivial, ?_, (fun _ h => (by cases h))⟩
  rw [List.append_nil]
  exact List.forall_mem_cons.mpr ⟨⟨show (20 : Nat) < 100 from by decide, nf0⟩, (fun _ h => (by cases h))⟩
set_option maxHeartbeats 4000000 in
theorem vc_Mo_draws_12_0 (x1 : Int) (x5 : Int) (x18 : Int) (x19 : Int) (x20 : Int) (x22 : Int) (x23 : Int) (x24 : Int) (pt_0 : Int → Int) (ph_0 : Int → Int) (alive_0 : Int → Int) (blockOf_0 : Int → Int) (drawnEdge_0 : Int → Int) (drawnNode_0 : Int → Int) (way_0 : Int → Int) (pn_0 : Int) (pm_0 : Int) (wayMany_0 : Int) (onlyPiece_0 : Int) (faces_0 : Int) (pieceOf_0 : Int → Int) (pt_1 : Int → Int) (ph_1 : Int → Int) (alive_1 : Int → Int) (blockOf_1 : Int → Int) (drawnEdge_1 : Int → Int) (drawnNode_1 : Int → Int) (way_1 : Int → Int) (pn_1 : Int) (pm_1 : Int) (wayMany_1 : Int) (onlyPiece_1 : Int) (faces_1 : Int) (pieceOf_1 : Int → Int) (wayMany_2 : Int) (pt_2 : Int → Int) (ph_2 : Int → Int) (alive_2 : Int → Int) (blockOf_2 : Int → Int) (drawnEdge_2 : Int → Int) (drawnNode_2 : Int → Int) (way_2 : Int → Int) (pn_2 : Int) (pm_2 : Int) (onlyPiece_2 : Int) (faces_2 : Int) (pieceOf_2 : Int → Int) (pt_3 : Int → Int) (ph_3 : Int → Int) (alive_3 : Int → Int) (blockOf_3 : Int → Int) (drawnEdge_3 : Int → Int) (drawnNode_3 : Int → Int) (way_3 : Int → Int) (pn_3 : Int) (pm_3 : Int) (wayMany_3 : Int) (onlyPiece_3 : Int) (faces_3 : Int) (pieceOf_3 : Int → Int) (faceMany_0 : Int → Int) (faceMany_1 : Int → Int) (faceMany_2 : Int → Int) (faceMany_3 : Int → Int) (face_0 : Int → Int) (face_1 : Int → Int) (face_2 : Int → Int) (face_3 : Int → Int) (k1 : 0 ≤ x1 ∧ x1 ≤ 79) (k5 : 0 ≤ x5 ∧ x5 ≤ 79) (k18 : 0 ≤ x18 ∧ x18 ≤ 0) (k19 : 0 ≤ x19 ∧ x19 ≤ 30) (k20 : 1 ≤ x20 ∧ x20 ≤ 1) (k22 : 0 ≤ x22 ∧ x22 ≤ 0) (k23 : 0 ≤ x23 ∧ x23 ≤ 24) (k24 : 0 ≤ x24 ∧ x24 ≤ 0) (h18 : x23 = pt_1 (x5)) (g37 : x19 = wayMany_2) (f55 : RGS (pn_3) (pm_3) (wayMany_3) (pt_3) (ph_3) (alive_3) (blockOf_3) (drawnEdge_3) (drawnNode_3) (way_3) (x1) (x5)) (fe_0_31_1 : pn_0 = pn_1) (fe_0_32_1 : pm_0 = pm_1) (fe_0_39_1 : faces_0 = faces_1) (fe_0_45_1 : wayMany_0 = wayMany_1) (fe_0_49_1 : onlyPiece_0 = onlyPiece_1) (fe_0_31_2 : pn_1 = pn_2) (fe_0_32_2 : pm_1 = pm_2) (fe_0_39_2 : faces_1 = faces_2) (fe_0_45_2 : wayMany_1 = wayMany_2) (fe_0_49_2 : onlyPiece_1 = onlyPiece_2) (fe_0_31_3 : pn_2 = pn_3) (fe_0_32_3 : pm_2 = pm_3) (fe_0_39_3 : faces_2 = faces_3) (fe_0_45_3 : wayMany_2 = wayMany_3) (fe_0_49_3 : onlyPiece_2 = onlyPiece_3) (hE_0_17_1 : ∀ j : Int, blockOf_0 j = blockOf_1 j) (hE_0_17_2 : ∀ j : Int, blockOf_1 j = blockOf_2 j) (hE_0_17_3 : ∀ j : Int, blockOf_2 j = blockOf_3 j) (hE_0_33_1 : ∀ j : Int, pt_0 j = pt_1 j) (hE_0_33_2 : ∀ j : Int, pt_1 j = pt_2 j) (hE_0_33_3 : ∀ j : Int, pt_2 j = pt_3 j) (hE_0_34_1 : ∀ j : Int, ph_0 j = ph_1 j) (hE_0_34_2 : ∀ j : Int, ph_1 j = ph_2 j) (hE_0_34_3 : ∀ j : Int, ph_2 j = ph_3 j) (hE_0_35_1 : ∀ j : Int, alive_0 j = alive_1 j) (hE_0_35_2 : ∀ j : Int, alive_1 j = alive_2 j) (hE_0_35_3 : ∀ j : Int, alive_2 j = alive_3 j) (hE_0_40_1 : ∀ j : Int, faceMany_0 j = faceMany_1 j) (hE_0_40_2 : ∀ j : Int, 0 ≤ j → (j = x20 → faceMany_1 j = x19) ∧ (j ≠ x20 → faceMany_1 j = faceMany_2 j)) (hE_0_40_3 : ∀ j : Int, 0 ≤ j → (j = x18 → faceMany_2 j = x19) ∧ (j ≠ x18 → faceMany_2 j = faceMany_3 j)) (hE_0_41_1 : ∀ j : Int, 0 ≤ j → (j = x22 → face_0 j = x23) ∧ (j ≠ x22 → face_0 j = face_1 j)) (hE_0_41_2 : ∀ j : Int, face_1 j = face_2 j) (hE_0_41_3 : ∀ j : Int, face_2 j = face_3 j) (hE_0_42_1 : ∀ j : Int, drawnNode_0 j = drawnNode_1 j) (hE_0_42_2 : ∀ j : Int, drawnNode_1 j = drawnNode_2 j) (hE_0_42_3 : ∀ j : Int, drawnNode_2 j = drawnNode_3 j) (hE_0_43_1 : ∀ j : Int, drawnEdge_0 j = drawnEdge_1 j) (hE_0_43_2 : ∀ j : Int, drawnEdge_1 j = drawnEdge_2 j) (hE_0_43_3 : ∀ j : Int, drawnEdge_2 j = drawnEdge_3 j) (hE_0_44_1 : ∀ j : Int, pieceOf_0 j = pieceOf_1 j) (hE_0_44_2 : ∀ j : Int, pieceOf_1 j = pieceOf_2 j) (hE_0_44_3 : ∀ j : Int, pieceOf_2 j = pieceOf_3 j) (hE_0_46_1 : ∀ j : Int, way_0 j = way_1 j) (hE_0_46_2 : ∀ j : Int, way_1 j = way_2 j) (hE_0_46_3 : ∀ j : Int, way_2 j = way_3 j) (kz_0_31 : 0 ≤ pn_0 ∧ pn_0 ≤ 25) (kz_0_32 : 0 ≤ pm_0 ∧ pm_0 ≤ 80) (kz_0_39 : 0 ≤ faces_0 ∧ faces_0 ≤ 120) (kz_0_45 : 0 ≤ wayMany_0 ∧ wayMany_0 ≤ 30) (kz_0_49 : (-1) ≤ onlyPiece_0 ∧ onlyPiece_0 ≤ 79) : R1 (pn_0) (pm_0) (wayMany_0) (pt_0) (ph_0) (alive_0) (blockOf_0) (drawnEdge_0) (drawnNode_0) (way_0) (faceMany_0) (face_0) (x1) (x5) (x24) := by
  subst fe_0_31_1
  subst fe_0_32_1
  subst fe_0_39_1
  subst fe_0_45_1
  subst fe_0_49_1
  subst fe_0_31_2
  subst fe_0_32_2
  subst fe_0_39_2
  subst fe_0_45_2
  subst fe_0_49_2
  subst fe_0_31_3
  subst fe_0_32_3
  subst fe_0_39_3
  subst fe_0_45_3
  subst fe_0_49_3
  have e_hE_0_17_1 := funext hE_0_17_1; subst e_hE_0_17_1
  have e_hE_0_17_2 := funext hE_0_17_2; subst e_hE_0_17_2
  have e_hE_0_17_3 := funext hE_0_17_3; subst e_hE_0_17_3
  have e_hE_0_33_1 := funext hE_0_33_1; subst e_hE_0_33_1
  have e_hE_0_33_2 := funext hE_0_33_2; subst e_hE_0_33_2
  have e_hE_0_33_3 := funext hE_0_33_3; subst e_hE_0_33_3
  have e_hE_0_34_1 := funext hE_0_34_1; subst e_hE_0_34_1
  have e_hE_0_34_2 := funext hE_0_34_2; subst e_hE_0_34_2
  have e_hE_0_34_3 := funext hE_0_34_3; subst e_hE_0_34_3
  have e_hE_0_35_1 := funext hE_0_35_1; subst e_hE_0_35_1
  have e_hE_0_35_2 := funext hE_0_35_2; subst e_hE_0_35_2
  have e_hE_0_35_3 := funext hE_0_35_3; subst e_hE_0_35_3
  have e_hE_0_40_1 := funext hE_0_40_1; subst e_hE_0_40_1
  have e_hE_0_41_2 := funext hE_0_41_2; subst e_hE_0_41_2
  have e_hE_0_41_3 := funext hE_0_41_3; subst e_hE_0_41_3
  have e_hE_0_42_1 := funext hE_0_42_1; subst e_hE_0_42_1
  have e_hE_0_42_2 := funext hE_0_42_2; subst e_hE_0_42_2
  have e_hE_0_42_3 := funext hE_0_42_3; subst e_hE_0_42_3
  have e_hE_0_43_1 := funext hE_0_43_1; subst e_hE_0_43_1
  have e_hE_0_43_2 := funext hE_0_43_2; subst e_hE_0_43_2
  have e_hE_0_43_3 := funext hE_0_43_3; subst e_hE_0_43_3
  have e_hE_0_44_1 := funext hE_0_44_1; subst e_hE_0_44_1
  have e_hE_0_44_2 := funext hE_0_44_2; subst e_hE_0_44_2
  have e_hE_0_44_3 := funext hE_0_44_3; subst e_hE_0_44_3
  have e_hE_0_46_1 := funext hE_0_46_1; subst e_hE_0_46_1
  have e_hE_0_46_2 := funext hE_0_46_2; subst e_hE_0_46_2
  have e_hE_0_46_3 := funext hE_0_46_3; subst e_hE_0_46_3
  first
    | exact r1_next (k := x7) ‹R1 _ _ _ _ _ _ _ _ _ _ _ _ _ _ _› hE_0_41_1 (by omega) (by omega) (by omega) (by omega) (by omega)
    | (have h := ‹RGS _ _ _ _ _ _ _ _ _ _ _ _›
       have hb := rgs_bd h
       exact ⟨h, by rw [(hE_0_40_2 0 (by omega)).2 (by omega), (hE_0_40_3 0 (by omega)).1 (by omega)]; omega, by rw [(hE_0_40_2 1 (by omega)).1 (by omega)]; omega, by rw [(hE_0_41_1 0 (by omega)).1 (by omega)]; omega, fun j a b => by exfalso; omega, by omega⟩)
def o_Mo_draws_12 : or_T := (201, 25, [(0, (2, 0, 0, [165])), (1, (0, 0, 79, [])), (5, (0, 0, 79, [])), (17, (2, 0, 0, [186])), (18, (0, 0, 0, [])), (19, (0, 0, 30, [])), (20, (0, 1, 1, [])), (21, (2, 0, 0, [187])), (22, (0, 0, 0, [])), (23, (0, 0, 24, [])), (24, (0, 0, 0, []))], [(24, [0, 3], []), (24, [1, 4], []), (100, [21, 22, 23], []), (10, [23, 14, 5], []), (9, [14, 3], [33]), (9, [21, 3], [41]), (100, [17, 20, 19], []), (9, [19, 3], [45]), (9, [17, 3], [40]), (100, [17, 18, 19], []), (20, [3, 4, 5], [60, 3, 7, 163, 31, 32, 45, 33, 34, 35, 17, 43, 42, 46])], [], [], [(20, [3, 4, 5, 24], [60, 3, 9, 164, 31, 32, 45, 33, 34, 35, 17, 43, 42, 46, 40, 41])], [], [])
theorem oo_Mo_draws_12 {kA : Nat → ClassId} : or_ok PRD kA GG o_Mo_draws_12 := by
  refine or_mk fun A ta ws vs hD hth hl => ?_
  intro t0 r0 t1 k1 t5 k5 t17 r17 t18 k18 t19 k19 t20 k20 t21 r21 t22 k22 t23 k23 t24 k24 f14 f15 ta1 w1 le1 s1 f18 f19 f20 ta2 w2 le2 s2 f37 f38 ta3 w3 le3 s3 f55
  replace f14 := shm_5 f14
  replace f15 := shm_5 f15
  have s1 : (∀ b j, w_el ws b j = if b = v_ad (n_v vs 21) ∧ j = (v_iv (n_v vs 22)).toNat then v_iv (n_v vs 23) else w_el w1 b j) ∧ ∀ b k, w_fd ws b k = w_fd w1 b k := s1.2
  replace f18 := shm_107 f18
  replace f19 := shm_494 f19
  replace f20 := shm_522 f20
  have s2 : (∀ b j, w_el w1 b j = if b = v_ad (n_v vs 17) ∧ j = (v_iv (n_v vs 20)).toNat then v_iv (n_v vs 19) else w_el w2 b j) ∧ ∀ b k, w_fd w1 b k = w_fd w2 b k := s2.2
  replace f37 := shm_741 f37
  replace f38 := shm_518 f38
  have s3 : (∀ b j, w_el w2 b j = if b = v_ad (n_v vs 17) ∧ j = (v_iv (n_v vs 18)).toNat then v_iv (n_v vs 19) else w_el w3 b j) ∧ ∀ b k, w_fd w2 b k = w_fd w3 b k := s3.2
  replace f55 := shm_1974 f55
  have q3 : n_v vs 3 = n_v vs 0 := f14.symm
  have q4 : n_v vs 4 = n_v vs 1 := f15.symm
  simp only [q3, q4] at f19 f20 f37 f38 f55
  have ar_0_17_1 : w_ar w1 (n_v vs 0) 17 = w_ar ws (n_v vs 0) 17 := congrArg v_ad (s1.2 _ _).symm
  have ar_0_17_2 : w_ar w2 (n_v vs 0) 17 = w_ar ws (n_v vs 0) 17 := by rw [← ar_0_17_1]; show v_ad (w_fd w2 _ _) = v_ad (w_fd w1 _ _); rw [s2.2]
  have ar_0_17_3 : w_ar w3 (n_v vs 0) 17 = w_ar ws (n_v vs 0) 17 := by rw [← ar_0_17_2]; show v_ad (w_fd w3 _ _) = v_ad (w_fd w2 _ _); rw [s3.2]
  have cr_0_17 := fdq_189 hD hth r0
  have ar_0_33_1 : w_ar w1 (n_v vs 0) 33 = w_ar ws (n_v vs 0) 33 := congrArg v_ad (s1.2 _ _).symm
  have ar_0_33_2 : w_ar w2 (n_v vs 0) 33 = w_ar ws (n_v vs 0) 33 := by rw [← ar_0_33_1]; show v_ad (w_fd w2 _ _) = v_ad (w_fd w1 _ _); rw [s2.2]
  have ar_0_33_3 : w_ar w3 (n_v vs 0) 33 = w_ar ws (n_v vs 0) 33 := by rw [← ar_0_33_2]; show v_ad (w_fd w3 _ _) = v_ad (w_fd w2 _ _); rw [s3.2]
  have cr_0_33 := fdq_117 hD hth r0
  have ar_0_34_1 : w_ar w1 (n_v vs 0) 34 = w_ar ws (n_v vs 0) 34 := congrArg v_ad (s1.2 _ _).symm
  have ar_0_34_2 : w_ar w2 (n_v vs 0) 34 = w_ar ws (n_v vs 0) 34 := by rw [← ar_0_34_1]; show v_ad (w_fd w2 _ _) = v_ad (w_fd w1 _ _); rw [s2.2]
  have ar_0_34_3 : w_ar w3 (n_v vs 0) 34 = w_ar ws (n_v vs 0) 34 := by rw [← ar_0_34_2]; show v_ad (w_fd w3 _ _) = v_ad (w_fd w2 _ _); rw [s3.2]
  have cr_0_34 := fdq_118 hD hth r0
  have ar_0_35_1 : w_ar w1 (n_v vs 0) 35 = w_ar ws (n_v vs 0) 35 := congrArg v_ad (s1.2 _ _).symm
  have ar_0_35_2 : w_ar w2 (n_v vs 0) 35 = w_ar ws (n_v vs 0) 35 := by rw [← ar_0_35_1]; show v_ad (w_fd w2 _ _) = v_ad (w_fd w1 _ _); rw [s2.2]
  have ar_0_35_3 : w_ar w3 (n_v vs 0) 35 = w_ar ws (n_v vs 0) 35 := by rw [← ar_0_35_2]; show v_ad (w_fd w3 _ _) = v_ad (w_fd w2 _ _); rw [s3.2]
  have cr_0_35 := fdq_132 hD hth r0
  have ar_0_40_1 : w_ar w1 (n_v vs 0) 40 = w_ar ws (n_v vs 0) 40 := congrArg v_ad (s1.2 _ _).symm
  have ar_0_40_2 : w_ar w2 (n_v vs 0) 40 = w_ar ws (n_v vs 0) 40 := by rw [← ar_0_40_1]; show v_ad (w_fd w2 _ _) = v_ad (w_fd w1 _ _); rw [s2.2]
  have cr_0_40 := fdq_133 hD hth r0
  have ar_0_41_1 : w_ar w1 (n_v vs 0) 41 = w_ar ws (n_v vs 0) 41 := congrArg v_ad (s1.2 _ _).symm
  have cr_0_41 := fdq_134 hD hth r0
  have ar_0_42_1 : w_ar w1 (n_v vs 0) 42 = w_ar ws (n_v vs 0) 42 := congrArg v_ad (s1.2 _ _).symm
  have ar_0_42_2 : w_ar w2 (n_v vs 0) 42 = w_ar ws (n_v vs 0) 42 := by rw [← ar_0_42_1]; show v_ad (w_fd w2 _ _) = v_ad (w_fd w1 _ _); rw [s2.2]
  have ar_0_42_3 : w_ar w3 (n_v vs 0) 42 = w_ar ws (n_v vs 0) 42 := by rw [← ar_0_42_2]; show v_ad (w_fd w3 _ _) = v_ad (w_fd w2 _ _); rw [s3.2]
  have cr_0_42 := fdq_136 hD hth r0
  have ar_0_43_1 : w_ar w1 (n_v vs 0) 43 = w_ar ws (n_v vs 0) 43 := congrArg v_ad (s1.2 _ _).symm
  have ar_0_43_2 : w_ar w2 (n_v vs 0) 43 = w_ar ws (n_v vs 0) 43 := by rw [← ar_0_43_1]; show v_ad (w_fd w2 _ _) = v_ad (w_fd w1 _ _); rw [s2.2]
  have ar_0_43_3 : w_ar w3 (n_v vs 0) 43 = w_ar ws (n_v vs 0) 43 := by rw [← ar_0_43_2]; show v_ad (w_fd w3 _ _) = v_ad (w_fd w2 _ _); rw [s3.2]
  have cr_0_43 := fdq_137 hD hth r0
  have ar_0_44_1 : w_ar w1 (n_v vs 0) 44 = w_ar ws (n_v vs 0) 44 := congrArg v_ad (s1.2 _ _).symm
  have ar_0_44_2 : w_ar w2 (n_v vs 0) 44 = w_ar ws (n_v vs 0) 44 := by rw [← ar_0_44_1]; show v_ad (w_fd w2 _ _) = v_ad (w_fd w1 _ _); rw [s2.2]
  have ar_0_44_3 : w_ar w3 (n_v vs 0) 44 = w_ar ws (n_v vs 0) 44 := by rw [← ar_0_44_2]; show v_ad (w_fd w3 _ _) = v_ad (w_fd w2 _ _); rw [s3.2]
  have cr_0_44 := fdq_138 hD hth r0
  have ar_0_46_1 : w_ar w1 (n_v vs 0) 46 = w_ar ws (n_v vs 0) 46 := congrArg v_ad (s1.2 _ _).symm
  have ar_0_46_2 : w_ar w2 (n_v vs 0) 46 = w_ar ws (n_v vs 0) 46 := by rw [← ar_0_46_1]; show v_ad (w_fd w2 _ _) = v_ad (w_fd w1 _ _); rw [s2.2]
  have ar_0_46_3 : w_ar w3 (n_v vs 0) 46 = w_ar ws (n_v vs 0) 46 := by rw [← ar_0_46_2]; show v_ad (w_fd w3 _ _) = v_ad (w_fd w2 _ _); rw [s3.2]
  have cr_0_46 := fdq_190 hD hth r0
  have ad_14 : v_ad (n_v vs 14) = w_ar ws (n_v vs 0) 33 := (congrArg v_ad f19).trans ar_0_33_1
  have ad_21 : v_ad (n_v vs 21) = w_ar ws (n_v vs 0) 41 := (congrArg v_ad f20).trans ar_0_41_1
  have ad_17 : v_ad (n_v vs 17) = w_ar ws (n_v vs 0) 40 := (congrArg v_ad f38).trans ar_0_40_2
  simp only [ad_14] at f18
  have h18 : v_iv (n_v vs 23) = w_ei w1 (w_ar ws (n_v vs 0) 33) (v_iv (n_v vs 5)) := f18
  have g37 : v_iv (n_v vs 19) = w_fi w2 (n_v vs 0) 45 := congrArg v_iv f37
  simp only [ar_0_17_2, ar_0_33_2, ar_0_34_2, ar_0_35_2, ar_0_42_2, ar_0_43_2, ar_0_46_2, ar_0_44_2, ar_0_17_3, ar_0_33_3, ar_0_34_3, ar_0_35_3, ar_0_42_3, ar_0_43_3, ar_0_46_3, ar_0_44_3] at f55
  have fe_0_31_1 : w_fi ws (n_v vs 0) 31 = w_fi w1 (n_v vs 0) 31 := congrArg v_iv (s1.2 _ _)
  have fe_0_32_1 : w_fi ws (n_v vs 0) 32 = w_fi w1 (n_v vs 0) 32 := congrArg v_iv (s1.2 _ _)
  have fe_0_39_1 : w_fi ws (n_v vs 0) 39 = w_fi w1 (n_v vs 0) 39 := congrArg v_iv (s1.2 _ _)
  have fe_0_45_1 : w_fi ws (n_v vs 0) 45 = w_fi w1 (n_v vs 0) 45 := congrArg v_iv (s1.2 _ _)
  have fe_0_49_1 : w_fi ws (n_v vs 0) 49 = w_fi w1 (n_v vs 0) 49 := congrArg v_iv (s1.2 _ _)
  have fe_0_31_2 : w_fi w1 (n_v vs 0) 31 = w_fi w2 (n_v vs 0) 31 := congrArg v_iv (s2.2 _ _)
  have fe_0_32_2 : w_fi w1 (n_v vs 0) 32 = w_fi w2 (n_v vs 0) 32 := congrArg v_iv (s2.2 _ _)
  have fe_0_39_2 : w_fi w1 (n_v vs 0) 39 = w_fi w2 (n_v vs 0) 39 := congrArg v_iv (s2.2 _ _)
  have fe_0_45_2 : w_fi w1 (n_v vs 0) 45 = w_fi w2 (n_v vs 0) 45 := congrArg v_iv (s2.2 _ _)
  have fe_0_49_2 : w_fi w1 (n_v vs 0) 49 = w_fi w2 (n_v vs 0) 49 := congrArg v_iv (s2.2 _ _)
  have fe_0_31_3 : w_fi w2 (n_v vs 0) 31 = w_fi w3 (n_v vs 0) 31 := congrArg v_iv (s3.2 _ _)
  have fe_0_32_3 : w_fi w2 (n_v vs 0) 32 = w_fi w3 (n_v vs 0) 32 := congrArg v_iv (s3.2 _ _)
  have fe_0_39_3 : w_fi w2 (n_v vs 0) 39 = w_fi w3 (n_v vs 0) 39 := congrArg v_iv (s3.2 _ _)
  have fe_0_45_3 : w_fi w2 (n_v vs 0) 45 = w_fi w3 (n_v vs 0) 45 := congrArg v_iv (s3.2 _ _)
  have fe_0_49_3 : w_fi w2 (n_v vs 0) 49 = w_fi w3 (n_v vs 0) 49 := congrArg v_iv (s3.2 _ _)
  have hE_0_17_1 : ∀ j : Int, w_ei ws (w_ar ws (n_v vs 0) 17) j = w_ei w1 (w_ar ws (n_v vs 0) 17) j := el_kp s1.1 r21 cr_0_17 (by decide)
  have hE_0_17_2 : ∀ j : Int, w_ei w1 (w_ar ws (n_v vs 0) 17) j = w_ei w2 (w_ar ws (n_v vs 0) 17) j := el_kp s2.1 r17 cr_0_17 (by decide)
  have hE_0_17_3 : ∀ j : Int, w_ei w2 (w_ar ws (n_v vs 0) 17) j = w_ei w3 (w_ar ws (n_v vs 0) 17) j := el_kp s3.1 r17 cr_0_17 (by decide)
  have hE_0_33_1 : ∀ j : Int, w_ei ws (w_ar ws (n_v vs 0) 33) j = w_ei w1 (w_ar ws (n_v vs 0) 33) j := el_kp s1.1 r21 cr_0_33 (by decide)
  have hE_0_33_2 : ∀ j : Int, w_ei w1 (w_ar ws (n_v vs 0) 33) j = w_ei w2 (w_ar ws (n_v vs 0) 33) j := el_kp s2.1 r17 cr_0_33 (by decide)
  have hE_0_33_3 : ∀ j : Int, w_ei w2 (w_ar ws (n_v vs 0) 33) j = w_ei w3 (w_ar ws (n_v vs 0) 33) j := el_kp s3.1 r17 cr_0_33 (by decide)
  have hE_0_34_1 : ∀ j : Int, w_ei ws (w_ar ws (n_v vs 0) 34) j = w_ei w1 (w_ar ws (n_v vs 0) 34) j := el_kp s1.1 r21 cr_0_34 (by decide)
  have hE_0_34_2 : ∀ j : Int, w_ei w1 (w_ar ws (n_v vs 0) 34) j = w_ei w2 (w_ar ws (n_v vs 0) 34) j := el_kp s2.1 r17 cr_0_34 (by decide)
  have hE_0_34_3 : ∀ j : Int, w_ei w2 (w_ar ws (n_v vs 0) 34) j = w_ei w3 (w_ar ws (n_v vs 0) 34) j := el_kp s3.1 r17 cr_0_34 (by decide)
  have hE_0_35_1 : ∀ j : Int, w_ei ws (w_ar ws (n_v vs 0) 35) j = w_ei w1 (w_ar ws (n_v vs 0) 35) j := el_kp s1.1 r21 cr_0_35 (by decide)
  have hE_0_35_2 : ∀ j : Int, w_ei w1 (w_ar ws (n_v vs 0) 35) j = w_ei w2 (w_ar ws (n_v vs 0) 35) j := el_kp s2.1 r17 cr_0_35 (by decide)
  have hE_0_35_3 : ∀ j : Int, w_ei w2 (w_ar ws (n_v vs 0) 35) j = w_ei w3 (w_ar ws (n_v vs 0) 35) j := el_kp s3.1 r17 cr_0_35 (by decide)
  have hE_0_40_1 : ∀ j : Int, w_ei ws (w_ar ws (n_v vs 0) 40) j = w_ei w1 (w_ar ws (n_v vs 0) 40) j := el_kp s1.1 r21 cr_0_40 (by decide)
  have hE_0_40_2 : ∀ j : Int, 0 ≤ j → (j = v_iv (n_v vs 20) → w_ei w1 (w_ar ws (n_v vs 0) 40) j = v_iv (n_v vs 19)) ∧ (j ≠ v_iv (n_v vs 20) → w_ei w1 (w_ar ws (n_v vs 0) 40) j = w_ei w2 (w_ar ws (n_v vs 0) 40) j) := fun j hj => ⟨fun h => by unfold w_ei; rw [s2.1, if_pos ⟨ad_17.symm, by rw [h]⟩], fun h => by unfold w_ei; rw [s2.1, if_neg (fun e => h (by have := e.2; omega))]⟩
  have hE_0_40_3 : ∀ j : Int, 0 ≤ j → (j = v_iv (n_v vs 18) → w_ei w2 (w_ar ws (n_v vs 0) 40) j = v_iv (n_v vs 19)) ∧ (j ≠ v_iv (n_v vs 18) → w_ei w2 (w_ar ws (n_v vs 0) 40) j = w_ei w3 (w_ar ws (n_v vs 0) 40) j) := fun j hj => ⟨fun h => by unfold w_ei; rw [s3.1, if_pos ⟨ad_17.symm, by rw [h]⟩], fun h => by unfold w_ei; rw [s3.1, if_neg (fun e => h (by have := e.2; omega))]⟩
  have hE_0_41_1 : ∀ j : Int, 0 ≤ j → (j = v_iv (n_v vs 22) → w_ei ws (w_ar ws (n_v vs 0) 41) j = v_iv (n_v vs 23)) ∧ (j ≠ v_iv (n_v vs 22) → w_ei ws (w_ar ws (n_v vs 0) 41) j = w_ei w1 (w_ar ws (n_v vs 0) 41) j) := fun j hj => ⟨fun h => by unfold w_ei; rw [s1.1, if_pos ⟨ad_21.symm, by rw [h]⟩], fun h => by unfold w_ei; rw [s1.1, if_neg (fun e => h (by have := e.2; omega))]⟩
  have hE_0_41_2 : ∀ j : Int, w_ei w1 (w_ar ws (n_v vs 0) 41) j = w_ei w2 (w_ar ws (n_v vs 0) 41) j := el_kp s2.1 r17 cr_0_41 (by decide)
  have hE_0_41_3 : ∀ j : Int, w_ei w2 (w_ar ws (n_v vs 0) 41) j = w_ei w3 (w_ar ws (n_v vs 0) 41) j := el_kp s3.1 r17 cr_0_41 (by decide)
  have hE_0_42_1 : ∀ j : Int, w_ei ws (w_ar ws (n_v vs 0) 42) j = w_ei w1 (w_ar ws (n_v vs 0) 42) j := el_kp s1.1 r21 cr_0_42 (by decide)
  have hE_0_42_2 : ∀ j : Int, w_ei w1 (w_ar ws (n_v vs 0) 42) j = w_ei w2 (w_ar ws (n_v vs 0) 42) j := el_kp s2.1 r17 cr_0_42 (by decide)
  have hE_0_42_3 : ∀ j : Int, w_ei w2 (w_ar ws (n_v vs 0) 42) j = w_ei w3 (w_ar ws (n_v vs 0) 42) j := el_kp s3.1 r17 cr_0_42 (by decide)
  have hE_0_43_1 : ∀ j : Int, w_ei ws (w_ar ws (n_v vs 0) 43) j = w_ei w1 (w_ar ws (n_v vs 0) 43) j := el_kp s1.1 r21 cr_0_43 (by decide)
  have hE_0_43_2 : ∀ j : Int, w_ei w1 (w_ar ws (n_v vs 0) 43) j = w_ei w2 (w_ar ws (n_v vs 0) 43) j := el_kp s2.1 r17 cr_0_43 (by decide)
  have hE_0_43_3 : ∀ j : Int, w_ei w2 (w_ar ws (n_v vs 0) 43) j = w_ei w3 (w_ar ws (n_v vs 0) 43) j := el_kp s3.1 r17 cr_0_43 (by decide)
  have hE_0_44_1 : ∀ j : Int, w_ei ws (w_ar ws (n_v vs 0) 44) j = w_ei w1 (w_ar ws (n_v vs 0) 44) j := el_kp s1.1 r21 cr_0_44 (by decide)
  have hE_0_44_2 : ∀ j : Int, w_ei w1 (w_ar ws (n_v vs 0) 44) j = w_ei w2 (w_ar ws (n_v vs 0) 44) j := el_kp s2.1 r17 cr_0_44 (by decide)
  have hE_0_44_3 : ∀ j : Int, w_ei w2 (w_ar ws (n_v vs 0) 44) j = w_ei w3 (w_ar ws (n_v vs 0) 44) j := el_kp s3.1 r17 cr_0_44 (by decide)
  have hE_0_46_1 : ∀ j : Int, w_ei ws (w_ar ws (n_v vs 0) 46) j = w_ei w1 (w_ar ws (n_v vs 0) 46) j := el_kp s1.1 r21 cr_0_46 (by decide)
  have hE_0_46_2 : ∀ j : Int, w_ei w1 (w_ar ws (n_v vs 0) 46) j = w_ei w2 (w_ar ws (n_v vs 0) 46) j := el_kp s2.1 r17 cr_0_46 (by decide)
  have hE_0_46_3 : ∀ j : Int, w_ei w2 (w_ar ws (n_v vs 0) 46) j = w_ei w3 (w_ar ws (n_v vs 0) 46) j := el_kp s3.1 r17 cr_0_46 (by decide)
  have kz_0_31 := fdq_145 hD hth r0
  have kz_0_32 := fdq_140 hD hth r0
  have kz_0_39 := fdq_135 hD hth r0
  have kz_0_45 := fdq_191 hD hth r0
  have kz_0_49 := fdq_146 hD hth r0
  have nf0 : fc_1 PRD (20, [3, 4, 5, 24], [60, 3, 9, 164, 31, 32, 45, 33, 34, 35, 17, 43, 42, 46, 40, 41]) ws (vs) := by
    refine ⟨nf_in hl rfl, sgq_1975 ?_⟩
    · show R1 (w_fi ws (n_v vs 3) 31) (w_fi ws (n_v vs 3) 32) (w_fi ws (n_v vs 3) 45) (w_ei ws (w_ar ws (n_v vs 3) 33)) (w_ei ws (w_ar ws (n_v vs 3) 34)) (w_ei ws (w_ar ws (n_v vs 3) 35)) (w_ei ws (w_ar ws (n_v vs 3) 17)) (w_ei ws (w_ar ws (n_v vs 3) 43)) (w_ei ws (w_ar ws (n_v vs 3) 42)) (w_ei ws (w_ar ws (n_v vs 3) 46)) (w_ei ws (w_ar ws (n_v vs 3) 40)) (w_ei ws (w_ar ws (n_v vs 3) 41)) (v_iv (n_v vs 4)) (v_iv (n_v vs 5)) (v_iv (n_v vs 24))
      simp only [q3, q4]
      exact vc_Mo_draws_12_0 (v_iv (n_v vs 1)) (v_iv (n_v vs 5)) (v_iv (n_v vs 18)) (v_iv (n_v vs 19)) (v_iv (n_v vs 20)) (v_iv (n_v vs 22)) (v_iv (n_v vs 23)) (v_iv (n_v vs 24)) (w_ei ws (w_ar ws (n_v vs 0) 33)) (w_ei ws (w_ar ws (n_v vs 0) 34)) (w_ei ws (w_ar ws (n_v vs 0) 35)) (w_ei ws (w_ar ws (n_v vs 0) 17)) (w_ei ws (w_ar ws (n_v vs 0) 43)) (w_ei ws (w_ar ws (n_v vs 0) 42)) (w_ei ws (w_ar ws (n_v vs 0) 46)) (w_fi ws (n_v vs 0) 31) (w_fi ws (n_v vs 0) 32) (w_fi ws (n_v vs 0) 45) (w_fi ws (n_v vs 0) 49) (w_fi ws (n_v vs 0) 39) (w_ei ws (w_ar ws (n_v vs 0) 44)) (w_ei w1 (w_ar ws (n_v vs 0) 33)) (w_ei w1 (w_ar ws (n_v vs 0) 34)) (w_ei w1 (w_ar ws (n_v vs 0) 35)) (w_ei w1 (w_ar ws (n_v vs 0) 17)) (w_ei w1 (w_ar ws (n_v vs 0) 43)) (w_ei w1 (w_ar ws (n_v vs 0) 42)) (w_ei w1 (w_ar ws (n_v vs 0) 46)) (w_fi w1 (n_v vs 0) 31) (w_fi w1 (n_v vs 0) 32) (w_fi w1 (n_v vs 0) 45) (w_fi w1 (n_v vs 0) 49) (w_fi w1 (n_v vs 0) 39) (w_ei w1 (w_ar ws (n_v vs 0) 44)) (w_fi w2 (n_v vs 0) 45) (w_ei w2 (w_ar ws (n_v vs 0) 33)) (w_ei w2 (w_ar ws (n_v vs 0) 34)) (w_ei w2 (w_ar ws (n_v vs 0) 35)) (w_ei w2 (w_ar ws (n_v vs 0) 17)) (w_ei w2 (w_ar ws (n_v vs 0) 43)) (w_ei w2 (w_ar ws (n_v vs 0) 42)) (w_ei w2 (w_ar ws (n_v vs 0) 46)) (w_fi w2 (n_v vs 0) 31) (w_fi w2 (n_v vs 0) 32) (w_fi w2 (n_v vs 0) 49) (w_fi w2 (n_v vs 0) 39) (w_ei w2 (w_ar ws (n_v vs 0) 44)) (w_ei w3 (w_ar ws (n_v vs 0) 33)) (w_ei w3 (w_ar ws (n_v vs 0) 34)) (w_ei w3 (w_ar ws (n_v vs 0) 35)) (w_ei w3 (w_ar ws (n_v vs 0) 17)) (w_ei w3 (w_ar ws (n_v vs 0) 43)) (w_ei w3 (w_ar ws (n_v vs 0) 42)) (w_ei w3 (w_ar ws (n_v vs 0) 46)) (w_fi w3 (n_v vs 0) 31) (w_fi w3 (n_v vs 0) 32) (w_fi w3 (n_v vs 0) 45) (w_fi w3 (n_v vs 0) 49) (w_fi w3 (n_v vs 0) 39) (w_ei w3 (w_ar ws (n_v vs 0) 44)) (w_ei ws (w_ar ws (n_v vs 0) 40)) (w_ei w1 (w_ar ws (n_v vs 0) 40)) (w_ei w2 (w_ar ws (n_v vs 0) 40)) (w_ei w3 (w_ar ws (n_v vs 0) 40)) (w_ei ws (w_ar ws (n_v vs 0) 41)) (w_ei w1 (w_ar ws (n_v vs 0) 41)) (w_ei w2 (w_ar ws (n_v vs 0) 41)) (w_ei w3 (w_ar ws (n_v vs 0) 41)) k1 k5 k18 k19 k20 k22 k23 k24 h18 g37 f55 fe_0_31_1 fe_0_32_1 fe_0_39_1 fe_0_45_1 fe_0_49_1 fe_0_31_2 fe_0_32_2 fe_0_39_2 fe_0_45_2 fe_0_49_2 fe_0_31_3 fe_0_32_3 fe_0_39_3 fe_0_45_3 fe_0_49_3 hE_0_17_1 hE_0_17_2 hE_0_17_3 hE_0_33_1 hE_0_33_2 hE_0_33_3 hE_0_34_1 hE_0_34_2 hE_0_34_3 hE_0_35_1 hE_0_35_2 hE_0_35_3 hE_0_40_1 hE_0_40_2 hE_0_40_3 hE_0_41_1 hE_0_41_2 hE_0_41_3 hE_0_42_1 hE_0_42_2 hE_0_42_3 hE_0_43_1 hE_0_43_2 hE_0_43_3 hE_0_44_1 hE_0_44_2 hE_0_44_3 hE_0_46_1 hE_0_46_2 hE_0_46_3 kz_0_31 kz_0_32 kz_0_39 kz_0_45 kz_0_49
  refine ⟨(fun _ h => (by cases h)), [], trivial, ?_, (fun _ h => (by cases h))⟩
  rw [List.append_nil]
  exact List.forall_mem_cons.mpr ⟨⟨show (20 : Nat) < 100 from by decide, nf0⟩, (fun _ h => (by cases h))⟩
set_option maxHeartbeats 4000000 in
theorem vc_Mo_draws_13_0 (x1 : Int) (x5 : Int) (x6 : Int) (x10 : Int) (pm_0 : Int) (pt_0 : Int → Int) (ph_0 : Int → Int) (alive_0 : Int → Int) (blockOf_0 : Int → Int) (faces_0 : Int) (faceMany_0 : Int → Int) (face_0 : Int → Int) (k1 : 0 ≤ x1 ∧ x1 ≤ 79) (k5 : (-1) ≤ x5 ∧ x5 ≤ 79) (k6 : 1 ≤ x6 ∧ x6 ≤ 1) (k10 : 1 ≤ x10 ∧ x10 ≤ 1) (f7 : faces_0 = 0) (f8 : D0e (pm_0) (alive_0) (blockOf_0) (x1) (x5) (x6)) (kz_0_32 : 0 ≤ pm_0 ∧ pm_0 ≤ 80) (kz_0_39 : 0 ≤ faces_0 ∧ faces_0 ≤ 120) : DRQ (pm_0) (faces_0) (pt_0) (ph_0) (alive_0) (blockOf_0) (faceMany_0) (face_0) (x1) (x10) := by
  exact drq_one ‹D0e _ _ _ _ _ _› (by omega) (by omega)
set_option maxHeartbeats 4000000 in
theorem vc_Mo_draws_13_1 (onlyPiece_0 : Int) (f6 : onlyPiece_0 = (-1)) (kz_0_49 : (-1) ≤ onlyPiece_0 ∧ onlyPiece_0 ≤ 79) : onlyPiece_0 = (-1) := by
  first | omega
def o_Mo_draws_13 : or_T := (141, 11, [(0, (2, 0, 0, [165])), (1, (0, 0, 79, [])), (5, (0, -1, 79, [])), (6, (0, 1, 1, [])), (10, (0, 1, 1, []))], [(20, [3], [50, 1, 0, 49, 1, 3, 2, 0, 49, 0, -1]), (20, [3], [50, 1, 0, 39, 1, 3, 2, 0, 39, 0, 0]), (20, [3, 4, 5, 6], [60, 1, 2, 158, 32, 35, 17]), (24, [0, 3], []), (24, [1, 4], [])], [], [], [(20, [0, 1, 10], [60, 2, 6, 169, 32, 39, 33, 34, 35, 17, 40, 41]), (20, [0], [50, 1, 0, 49, 1, 3, 2, 0, 49, 0, -1])], [], [])
theorem oo_Mo_draws_13 {kA : Nat → ClassId} : or_ok PRD kA GG o_Mo_draws_13 := by
  refine or_mk fun A ta ws vs hD hth hl => ?_
  intro t0 r0 t1 k1 t5 k5 t6 k6 t10 k10 f6 f7 f8 f11 f12
  replace f6 := shm_1675 f6
  replace f7 := shm_1968 f7
  replace f8 := shm_1969 f8
  replace f11 := shm_5 f11
  replace f12 := shm_5 f12
  have q3 : n_v vs 3 = n_v vs 0 := f11.symm
  have q4 : n_v vs 4 = n_v vs 1 := f12.symm
  simp only [q3, q4] at f6 f7 f8
  have kz_0_32 := fdq_140 hD hth r0
  have kz_0_39 := fdq_135 hD hth r0
  have kz_0_49 := fdq_146 hD hth r0
  have nf0 : fc_1 PRD (20, [0, 1, 10], [60, 2, 6, 169, 32, 39, 33, 34, 35, 17, 40, 41]) ws (vs) := ⟨nf_in hl rfl, sgq_1976 (vc_Mo_draws_13_0 (v_iv (n_v vs 1)) (v_iv (n_v vs 5)) (v_iv (n_v vs 6)) (v_iv (n_v vs 10)) (w_fi ws (n_v vs 0) 32) (w_ei ws (w_ar ws (n_v vs 0) 33)) (w_ei ws (w_ar ws (n_v vs 0) 34)) (w_ei ws (w_ar ws (n_v vs 0) 35)) (w_ei ws (w_ar ws (n_v vs 0) 17)) (w_fi ws (n_v vs 0) 39) (w_ei ws (w_ar ws (n_v vs 0) 40)) (w_ei ws (w_ar ws (n_v vs 0) 41)) k1 k5 k6 k10 f7 f8 kz_0_32 kz_0_39)⟩
  have nf1 : fc_1 PRD (20, [0], [50, 1, 0, 49, 1, 3, 2, 0, 49, 0, -1]) ws (vs) := ⟨nf_in hl rfl, sgq_1675 (vc_Mo_draws_13_1 (w_fi ws (n_v vs 0) 49) f6 kz_0_49)⟩
  refine ⟨(fun _ h => (by cases h)), [], trivial, ?_, (fun _ h => (by cases h))⟩
  rw [List.append_nil]
  exact List.forall_mem_cons.mpr ⟨⟨show (20 : Nat) < 100 from by decide, nf0⟩, List.forall_mem_cons.mpr ⟨⟨show (20 : Nat) < 100 from by decide, nf1⟩, (fun _ h => (by cases h))⟩⟩
set_option maxHeartbeats 4000000 in
theorem vc_Mo_draws_14_0 (x1 : Int) (x7 : Int) (x11 : Int) (x12 : Int) (x13 : Int) (pt_0 : Int → Int) (ph_0 : Int → Int) (pn_0 : Int) (pm_0 : Int) (alive_0 : Int → Int) (blockOf_0 : Int → Int) (onlyPiece_0 : Int) (faces_0 : Int) (drawnNode_0 : Int → Int) (alive_1 : Int → Int) (pm_1 : Int) (pt_1 : Int → Int) (ph_1 : Int → Int) (pn_1 : Int) (blockOf_1 : Int → Int) (onlyPiece_1 : Int) (faces_1 : Int) (drawnNode_1 : Int → Int) (drawnEdge_1 : Int → Int) (drawnEdge_0 : Int → Int) (k1 : 0 ≤ x1 ∧ x1 ≤ 79) (k7 : 0 ≤ x7 ∧ x7 ≤ 79) (k11 : 0 ≤ x11 ∧ x11 ≤ 0) (k12 : 1 ≤ x12 ∧ x12 ≤ 1) (k13 : 1 ≤ x13 ∧ x13 ≤ 80) (d0 : x7 + 1 ≤ x13 ∧ x13 ≤ x7 + 1) (h12 : x11 = alive_1 (x7)) (f24 : D3 (alive_1) (blockOf_1) (drawnEdge_1) (x1) (x7)) (fe_0_31_1 : pn_0 = pn_1) (fe_0_32_1 : pm_0 = pm_1) (fe_0_39_1 : faces_0 = faces_1) (fe_0_49_1 : onlyPiece_0 = onlyPiece_1) (hE_0_17_1 : ∀ j : Int, blockOf_0 j = blockOf_1 j) (hE_0_33_1 : ∀ j : Int, pt_0 j = pt_1 j) (hE_0_34_1 : ∀ j : Int, ph_0 j = ph_1 j) (hE_0_35_1 : ∀ j : Int, alive_0 j = alive_1 j) (hK_0_35 : ∀ j : Int, 0 ≤ j → j < 80 → 0 ≤ alive_0 j ∧ alive_0 j ≤ 1) (hE_0_42_1 : ∀ j : Int, drawnNode_0 j = drawnNode_1 j) (hE_0_43_1 : ∀ j : Int, 0 ≤ j → (j = x7 → drawnEdge_0 j = x12) ∧ (j ≠ x7 → drawnEdge_0 j = drawnEdge_1 j)) (kz_0_31 : 0 ≤ pn_0 ∧ pn_0 ≤ 25) (kz_0_32 : 0 ≤ pm_0 ∧ pm_0 ≤ 80) (kz_0_39 : 0 ≤ faces_0 ∧ faces_0 ≤ 120) (kz_0_49 : (-1) ≤ onlyPiece_0 ∧ onlyPiece_0 ≤ 79) : D3 (alive_0) (blockOf_0) (drawnEdge_0) (x1) (x13) := by
  subst fe_0_31_1
  subst fe_0_32_1
  subst fe_0_39_1
  subst fe_0_49_1
  have e_hE_0_17_1 := funext hE_0_17_1; subst e_hE_0_17_1
  have e_hE_0_33_1 := funext hE_0_33_1; subst e_hE_0_33_1
  have e_hE_0_34_1 := funext hE_0_34_1; subst e_hE_0_34_1
  have e_hE_0_35_1 := funext hE_0_35_1; subst e_hE_0_35_1
  have e_hE_0_42_1 := funext hE_0_42_1; subst e_hE_0_42_1
  first
    | (intro e a b; exfalso; omega)
    | (have h := ‹D3 _ _ _ _ _›
       intro e a b
       by_cases q : e = x7
       · have v := (hE_0_43_1 e a).1 q
         rw [q] at v ⊢
         first
           | exact ⟨fun _ => ⟨by have := hK_0_35 x7 (by omega) (by omega); omega, by omega⟩, fun _ => by omega⟩
           | exact ⟨fun z => by exfalso; omega, fun z => by exfalso; have := z.1; have := z.2; omega⟩
       · rw [(hE_0_43_1 e a).2 q]; exact h e a (by omega))
def o_Mo_draws_14 : or_T := (87, 14, [(0, (2, 0, 0, [165])), (1, (0, 0, 79, [])), (7, (0, 0, 79, [])), (9, (2, 0, 0, [189])), (11, (0, 0, 0, [])), (12, (0, 1, 1, [])), (13, (0, 1, 80, []))], [(24, [0, 3], []), (24, [1, 4], []), (100, [9, 7, 12], []), (10, [11, 10, 7], []), (9, [10, 3], [35]), (9, [9, 3], [43]), (20, [3, 4, 7], [60, 0, 3, 161, 35, 17, 43])], [], [], [(20, [3, 4, 13], [60, 0, 3, 161, 35, 17, 43])], [], [(13, 7, 1, 1), (7, 8, -4294967296, -1)])
theorem oo_Mo_draws_14 {kA : Nat → ClassId} : or_ok PRD kA GG o_Mo_draws_14 := by
  refine or_mk fun A ta ws vs hD hth hl => ?_
  intro t0 r0 t1 k1 t7 k7 t9 r9 t11 k11 t12 k12 t13 k13 d0 d2 f8 f9 ta1 w1 le1 s1 f12 f13 f14 f24
  replace f8 := shm_5 f8
  replace f9 := shm_5 f9
  have s1 : (∀ b j, w_el ws b j = if b = v_ad (n_v vs 9) ∧ j = (v_iv (n_v vs 7)).toNat then v_iv (n_v vs 12) else w_el w1 b j) ∧ ∀ b k, w_fd ws b k = w_fd w1 b k := s1.2
  replace f12 := shm_107 f12
  replace f13 := shm_511 f13
  replace f14 := shm_532 f14
  replace f24 := shm_1972 f24
  have q3 : n_v vs 3 = n_v vs 0 := f8.symm
  have q4 : n_v vs 4 = n_v vs 1 := f9.symm
  simp only [q3, q4] at f13 f14 f24
  have ar_0_17_1 : w_ar w1 (n_v vs 0) 17 = w_ar ws (n_v vs 0) 17 := congrArg v_ad (s1.2 _ _).symm
  have cr_0_17 := fdq_189 hD hth r0
  have ar_0_33_1 : w_ar w1 (n_v vs 0) 33 = w_ar ws (n_v vs 0) 33 := congrArg v_ad (s1.2 _ _).symm
  have cr_0_33 := fdq_117 hD hth r0
  have ar_0_34_1 : w_ar w1 (n_v vs 0) 34 = w_ar ws (n_v vs 0) 34 := congrArg v_ad (s1.2 _ _).symm
  have cr_0_34 := fdq_118 hD hth r0
  have ar_0_35_1 : w_ar w1 (n_v vs 0) 35 = w_ar ws (n_v vs 0) 35 := congrArg v_ad (s1.2 _ _).symm
  have cr_0_35 := fdq_132 hD hth r0
  have ar_0_42_1 : w_ar w1 (n_v vs 0) 42 = w_ar ws (n_v vs 0) 42 := congrArg v_ad (s1.2 _ _).symm
  have cr_0_42 := fdq_136 hD hth r0
  have ar_0_43_1 : w_ar w1 (n_v vs 0) 43 = w_ar ws (n_v vs 0) 43 := congrArg v_ad (s1.2 _ _).symm
  have ad_10 : v_ad (n_v vs 10) = w_ar ws (n_v vs 0) 35 := (congrArg v_ad f13).trans ar_0_35_1
  have ad_9 : v_ad (n_v vs 9) = w_ar ws (n_v vs 0) 43 := (congrArg v_ad f14).trans ar_0_43_1
  simp only [ad_10] at f12
  have h12 : v_iv (n_v vs 11) = w_ei w1 (w_ar ws (n_v vs 0) 35) (v_iv (n_v vs 7)) := f12
  simp only [ar_0_33_1, ar_0_34_1, ar_0_17_1, ar_0_35_1, ar_0_42_1, ar_0_43_1] at f24
  have fe_0_31_1 : w_fi ws (n_v vs 0) 31 = w_fi w1 (n_v vs 0) 31 := congrArg v_iv (s1.2 _ _)
  have fe_0_32_1 : w_fi ws (n_v vs 0) 32 = w_fi w1 (n_v vs 0) 32 := congrArg v_iv (s1.2 _ _)
  have fe_0_39_1 : w_fi ws (n_v vs 0) 39 = w_fi w1 (n_v vs 0) 39 := congrArg v_iv (s1.2 _ _)
  have fe_0_49_1 : w_fi ws (n_v vs 0) 49 = w_fi w1 (n_v vs 0) 49 := congrArg v_iv (s1.2 _ _)
  have hE_0_17_1 : ∀ j : Int, w_ei ws (w_ar ws (n_v vs 0) 17) j = w_ei w1 (w_ar ws (n_v vs 0) 17) j := el_kp s1.1 r9 cr_0_17 (by decide)
  have hE_0_33_1 : ∀ j : Int, w_ei ws (w_ar ws (n_v vs 0) 33) j = w_ei w1 (w_ar ws (n_v vs 0) 33) j := el_kp s1.1 r9 cr_0_33 (by decide)
  have hE_0_34_1 : ∀ j : Int, w_ei ws (w_ar ws (n_v vs 0) 34) j = w_ei w1 (w_ar ws (n_v vs 0) 34) j := el_kp s1.1 r9 cr_0_34 (by decide)
  have hE_0_35_1 : ∀ j : Int, w_ei ws (w_ar ws (n_v vs 0) 35) j = w_ei w1 (w_ar ws (n_v vs 0) 35) j := el_kp s1.1 r9 cr_0_35 (by decide)
  have hK_0_35 := elq_72 hD hth cr_0_35
  have hE_0_42_1 : ∀ j : Int, w_ei ws (w_ar ws (n_v vs 0) 42) j = w_ei w1 (w_ar ws (n_v vs 0) 42) j := el_kp s1.1 r9 cr_0_42 (by decide)
  have hE_0_43_1 : ∀ j : Int, 0 ≤ j → (j = v_iv (n_v vs 7) → w_ei ws (w_ar ws (n_v vs 0) 43) j = v_iv (n_v vs 12)) ∧ (j ≠ v_iv (n_v vs 7) → w_ei ws (w_ar ws (n_v vs 0) 43) j = w_ei w1 (w_ar ws (n_v vs 0) 43) j) := fun j hj => ⟨fun h => by unfold w_ei; rw [s1.1, if_pos ⟨ad_9.symm, by rw [h]⟩], fun h => by unfold w_ei; rw [s1.1, if_neg (fun e => h (by have := e.2; omega))]⟩
  have kz_0_31 := fdq_145 hD hth r0
  have kz_0_32 := fdq_140 hD hth r0
  have kz_0_39 := fdq_135 hD hth r0
  have kz_0_49 := fdq_146 hD hth r0
  have nf0 : fc_1 PRD (20, [3, 4, 13], [60, 0, 3, 161, 35, 17, 43]) ws (vs) := by
    refine ⟨nf_in hl rfl, sgq_1972 ?_⟩
    · show D3 (w_ei ws (w_ar ws (n_v vs 3) 35)) (w_ei ws (w_ar ws (n_v vs 3) 17)) (w_ei ws (w_ar ws (n_v vs 3) 43)) (v_iv (n_v vs 4)) (v_iv (n_v vs 13))
      simp only [q3, q4]
      exact vc_Mo_draws_14_0 (v_iv (n_v vs 1)) (v_iv (n_v vs 7)) (v_iv (n_v vs 11)) (v_iv (n_v vs 12)) (v_iv (n_v vs 13)) (w_ei ws (w_ar ws (n_v vs 0) 33)) (w_ei ws (w_ar ws (n_v vs 0) 34)) (w_fi ws (n_v vs 0) 31) (w_fi ws (n_v vs 0) 32) (w_ei ws (w_ar ws (n_v vs 0) 35)) (w_ei ws (w_ar ws (n_v vs 0) 17)) (w_fi ws (n_v vs 0) 49) (w_fi ws (n_v vs 0) 39) (w_ei ws (w_ar ws (n_v vs 0) 42)) (w_ei w1 (w_ar ws (n_v vs 0) 35)) (w_fi w1 (n_v vs 0) 32) (w_ei w1 (w_ar ws (n_v vs 0) 33)) (w_ei w1 (w_ar ws (n_v vs 0) 34)) (w_fi w1 (n_v vs 0) 31) (w_ei w1 (w_ar ws (n_v vs 0) 17)) (w_fi w1 (n_v vs 0) 49) (w_fi w1 (n_v vs 0) 39) (w_ei w1 (w_ar ws (n_v vs 0) 42)) (w_ei w1 (w_ar ws (n_v vs 0) 43)) (w_ei ws (w_ar ws (n_v vs 0) 43)) k1 k7 k11 k12 k13 d0 h12 f24 fe_0_31_1 fe_0_32_1 fe_0_39_1 fe_0_49_1 hE_0_17_1 hE_0_33_1 hE_0_34_1 hE_0_35_1 hK_0_35 hE_0_42_1 hE_0_43_1 kz_0_31 kz_0_32 kz_0_39 kz_0_49
  refine ⟨(fun _ h => (by cases h)), [], trivial, ?_, (fun _ h => (by cases h))⟩
  rw [List.append_nil]
  exact List.forall_mem_cons.mpr ⟨⟨show (20 : Nat) < 100 from by decide, nf0⟩, (fun _ h => (by cases h))⟩
set_option maxHeartbeats 4000000 in
theorem vc_Mo_draws_15_0 (x1 : Int) (x4 : Int) (x7 : Int) (x11 : Int) (x13 : Int) (x14 : Int) (x15 : Int) (pt_0 : Int → Int) (ph_0 : Int → Int) (pn_0 : Int) (pm_0 : Int) (alive_0 : Int → Int) (blockOf_0 : Int → Int) (onlyPiece_0 : Int) (faces_0 : Int) (drawnNode_0 : Int → Int) (blockOf_1 : Int → Int) (alive_1 : Int → Int) (pm_1 : Int) (pt_1 : Int → Int) (ph_1 : Int → Int) (pn_1 : Int) (onlyPiece_1 : Int) (faces_1 : Int) (drawnNode_1 : Int → Int) (drawnEdge_1 : Int → Int) (drawnEdge_0 : Int → Int) (k1 : 0 ≤ x1 ∧ x1 ≤ 79) (k4 : 0 ≤ x4 ∧ x4 ≤ 79) (k7 : 0 ≤ x7 ∧ x7 ≤ 79) (k11 : 1 ≤ x11 ∧ x11 ≤ 1) (k13 : 0 ≤ x13 ∧ x13 ≤ 79) (k14 : 0 ≤ x14 ∧ x14 ≤ 0) (k15 : 1 ≤ x15 ∧ x15 ≤ 80) (d0 : x7 + 1 ≤ x15 ∧ x15 ≤ x7 + 1) (d2 : x4 + 0 ≤ x13 ∧ x13 ≤ x4 + 0) (d4 : x4 + (-4294967296) ≤ x1 ∧ x1 ≤ x4 + 0) (d5 : x1 + (-4294967296) ≤ x4 ∧ x4 ≤ x1 + 0) (h12 : x13 = blockOf_1 (x7)) (h15 : x11 = alive_1 (x7)) (f27 : D3 (alive_1) (blockOf_1) (drawnEdge_1) (x1) (x7)) (fe_0_31_1 : pn_0 = pn_1) (fe_0_32_1 : pm_0 = pm_1) (fe_0_39_1 : faces_0 = faces_1) (fe_0_49_1 : onlyPiece_0 = onlyPiece_1) (hE_0_17_1 : ∀ j : Int, blockOf_0 j = blockOf_1 j) (hE_0_33_1 : ∀ j : Int, pt_0 j = pt_1 j) (hE_0_34_1 : ∀ j : Int, ph_0 j = ph_1 j) (hE_0_35_1 : ∀ j : Int, alive_0 j = alive_1 j) (hK_0_35 : ∀ j : Int, 0 ≤ j → j < 80 → 0 ≤ alive_0 j ∧ alive_0 j ≤ 1) (hE_0_42_1 : ∀ j : Int, drawnNode_0 j = drawnNode_1 j) (hE_0_43_1 : ∀ j : Int, 0 ≤ j → (j = x7 → drawnEdge_0 j = x14) ∧ (j ≠ x7 → drawnEdge_0 j = drawnEdge_1 j)) (kz_0_31 : 0 ≤ pn_0 ∧ pn_0 ≤ 25) (kz_0_32 : 0 ≤ pm_0 ∧ pm_0 ≤ 80) (kz_0_39 : 0 ≤ faces_0 ∧ faces_0 ≤ 120) (kz_0_49 : (-1) ≤ onlyPiece_0 ∧ onlyPiece_0 ≤ 79) : D3 (alive_0) (blockOf_0) (drawnEdge_0) (x1) (x15) := by
  subst fe_0_31_1
  subst fe_0_32_1
  subst fe_0_39_1
  subst fe_0_49_1
  have e_hE_0_17_1 := funext hE_0_17_1; subst e_hE_0_17_1
  have e_hE_0_33_1 := funext hE_0_33_1; subst e_hE_0_33_1
  have e_hE_0_34_1 := funext hE_0_34_1; subst e_hE_0_34_1
  have e_hE_0_35_1 := funext hE_0_35_1; subst e_hE_0_35_1
  have e_hE_0_42_1 := funext hE_0_42_1; subst e_hE_0_42_1
  first
    | (intro e a b; exfalso; omega)
    | (have h := ‹D3 _ _ _ _ _›
       intro e a b
       by_cases q : e = x7
       · have v := (hE_0_43_1 e a).1 q
         rw [q] at v ⊢
         first
           | exact ⟨fun _ => ⟨by have := hK_0_35 x7 (by omega) (by omega); omega, by omega⟩, fun _ => by omega⟩
           | exact ⟨fun z => by exfalso; omega, fun z => by exfalso; have := z.1; have := z.2; omega⟩
       · rw [(hE_0_43_1 e a).2 q]; exact h e a (by omega))
def o_Mo_draws_15 : or_T := (87, 16, [(0, (2, 0, 0, [165])), (1, (0, 0, 79, [])), (2, (0, 0, 80, [])), (3, (2, 0, 0, [165])), (4, (0, 0, 79, [])), (5, (0, -1, 79, [])), (6, (0, 0, 81, [])), (7, (0, 0, 79, [])), (8, (0, 1, 80, [])), (9, (2, 0, 0, [189])), (10, (2, 0, 0, [182])), (11, (0, 1, 1, [])), (12, (2, 0, 0, [172])), (13, (0, 0, 79, [])), (14, (0, 0, 0, [])), (15, (0, 1, 80, []))], [(6, [15, 7], [1]), (20, [3], [60, 2, 2, 75, 31, 32, 33, 34]), (20, [3, 2], [60, 1, 4, 97, 32, 33, 34, 35, 17]), (23, [4, 2], [-1, 1, -1]), (20, [3], [50, 1, 0, 49, 1, 3, 2, 0, 49, 0, -1]), (20, [3], [50, 1, 0, 39, 1, 3, 2, 0, 39, 0, 0]), (20, [3, 4, 5, 6], [60, 1, 2, 158, 32, 35, 17]), (20, [3], [60, 1, 1, 160, 31, 42]), (24, [0, 3], []), (24, [1, 4], []), (100, [9, 7, 14], []), (7, [13, 4], [0]), (10, [13, 12, 7], []), (9, [12, 3], [17]), (8, [11], [1]), (10, [11, 10, 7], []), (9, [10, 3], [35]), (9, [9, 3], [43]), (7, [7, 8], [2]), (9, [8, 3], [32]), (20, [3], [60, 2, 2, 75, 31, 32, 33, 34]), (20, [3, 2], [60, 1, 4, 97, 32, 33, 34, 35, 17]), (23, [4, 2], [-1, 1, -1]), (20, [3], [50, 1, 0, 49, 1, 3, 2, 0, 49, 0, -1]), (20, [3], [50, 1, 0, 39, 1, 3, 2, 0, 39, 0, 0]), (20, [3, 4, 5, 6], [60, 1, 2, 158, 32, 35, 17]), (20, [3], [60, 1, 1, 160, 31, 42]), (20, [3, 4, 7], [60, 0, 3, 161, 35, 17, 43])], [], [], [(20, [3, 4, 15], [60, 0, 3, 161, 35, 17, 43])], [], [(15, 7, 1, 1), (15, 8, -4294967296, 0), (13, 4, 0, 0), (7, 8, -4294967296, -1), (1, 4, -4294967296, 0), (4, 1, -4294967296, 0)])
theorem oo_Mo_draws_15 {kA : Nat → ClassId} : or_ok PRD kA GG o_Mo_draws_15 := by
  refine or_mk fun A ta ws vs hD hth hl => ?_
  intro t0 r0 t1 k1 t2 k2 t3 r3 t4 k4 t5 k5 t6 k6 t7 k7 t8 k8 t9 r9 t10 r10 t11 k11 t12 r12 t13 k13 t14 k14 t15 k15 d0 d1 d2 d3 d4 d5 f0 f1 f2 f3 f4 f5 f6 f7 f8 f9 ta1 w1 le1 s1 f11 f12 f13 f14 f15 f16 f17 f18 f19 f20 f21 f22 f23 f24 f25 f26 f27
  replace f8 := shm_5 f8
  replace f9 := shm_5 f9
  have s1 : (∀ b j, w_el ws b j = if b = v_ad (n_v vs 9) ∧ j = (v_iv (n_v vs 7)).toNat then v_iv (n_v vs 14) else w_el w1 b j) ∧ ∀ b k, w_fd ws b k = w_fd w1 b k := s1.2
  replace f12 := shm_107 f12
  replace f13 := shm_795 f13
  replace f15 := shm_107 f15
  replace f16 := shm_511 f16
  replace f17 := shm_532 f17
  replace f27 := shm_1972 f27
  have q3 : n_v vs 3 = n_v vs 0 := f8.symm
  have q4 : n_v vs 4 = n_v vs 1 := f9.symm
  simp only [q3, q4] at f13 f16 f17 f27
  have ar_0_17_1 : w_ar w1 (n_v vs 0) 17 = w_ar ws (n_v vs 0) 17 := congrArg v_ad (s1.2 _ _).symm
  have cr_0_17 := fdq_189 hD hth r0
  have ar_0_33_1 : w_ar w1 (n_v vs 0) 33 = w_ar ws (n_v vs 0) 33 := congrArg v_ad (s1.2 _ _).symm
  have cr_0_33 := fdq_117 hD hth r0
  have ar_0_34_1 : w_ar w1 (n_v vs 0) 34 = w_ar ws (n_v vs 0) 34 := congrArg v_ad (s1.2 _ _).symm
  have cr_0_34 := fdq_118 hD hth r0
  have ar_0_35_1 : w_ar w1 (n_v vs 0) 35 = w_ar ws (n_v vs 0) 35 := congrArg v_ad (s1.2 _ _).symm
  have cr_0_35 := fdq_132 hD hth r0
  have ar_0_42_1 : w_ar w1 (n_v vs 0) 42 = w_ar ws (n_v vs 0) 42 := congrArg v_ad (s1.2 _ _).symm
  have cr_0_42 := fdq_136 hD hth r0
  have ar_0_43_1 : w_ar w1 (n_v vs 0) 43 = w_ar ws (n_v vs 0) 43 := congrArg v_ad (s1.2 _ _).symm
  have ad_12 : v_ad (n_v vs 12) = w_ar ws (n_v vs 0) 17 := (congrArg v_ad f13).trans ar_0_17_1
  have ad_10 : v_ad (n_v vs 10) = w_ar ws (n_v vs 0) 35 := (congrArg v_ad f16).trans ar_0_35_1
  have ad_9 : v_ad (n_v vs 9) = w_ar ws (n_v vs 0) 43 := (congrArg v_ad f17).trans ar_0_43_1
  simp only [ad_12] at f12
  have h12 : v_iv (n_v vs 13) = w_ei w1 (w_ar ws (n_v vs 0) 17) (v_iv (n_v vs 7)) := f12
  simp only [ad_10] at f15
  have h15 : v_iv (n_v vs 11) = w_ei w1 (w_ar ws (n_v vs 0) 35) (v_iv (n_v vs 7)) := f15
  simp only [ar_0_33_1, ar_0_34_1, ar_0_17_1, ar_0_35_1, ar_0_42_1, ar_0_43_1] at f27
  have fe_0_31_1 : w_fi ws (n_v vs 0) 31 = w_fi w1 (n_v vs 0) 31 := congrArg v_iv (s1.2 _ _)
  have fe_0_32_1 : w_fi ws (n_v vs 0) 32 = w_fi w1 (n_v vs 0) 32 := congrArg v_iv (s1.2 _ _)
  have fe_0_39_1 : w_fi ws (n_v vs 0) 39 = w_fi w1 (n_v vs 0) 39 := congrArg v_iv (s1.2 _ _)
  have fe_0_49_1 : w_fi ws (n_v vs 0) 49 = w_fi w1 (n_v vs 0) 49 := congrArg v_iv (s1.2 _ _)
  have hE_0_17_1 : ∀ j : Int, w_ei ws (w_ar ws (n_v vs 0) 17) j = w_ei w1 (w_ar ws (n_v vs 0) 17) j := el_kp s1.1 r9 cr_0_17 (by decide)
  have hE_0_33_1 : ∀ j : Int, w_ei ws (w_ar ws (n_v vs 0) 33) j = w_ei w1 (w_ar ws (n_v vs 0) 33) j := el_kp s1.1 r9 cr_0_33 (by decide)
  have hE_0_34_1 : ∀ j : Int, w_ei ws (w_ar ws (n_v vs 0) 34) j = w_ei w1 (w_ar ws (n_v vs 0) 34) j := el_kp s1.1 r9 cr_0_34 (by decide)
  have hE_0_35_1 : ∀ j : Int, w_ei ws (w_ar ws (n_v vs 0) 35) j = w_ei w1 (w_ar ws (n_v vs 0) 35) j := el_kp s1.1 r9 cr_0_35 (by decide)
  have hK_0_35 := elq_72 hD hth cr_0_35
  have hE_0_42_1 : ∀ j : Int, w_ei ws (w_ar ws (n_v vs 0) 42) j = w_ei w1 (w_ar ws (n_v vs 0) 42) j := el_kp s1.1 r9 cr_0_42 (by decide)
  have hE_0_43_1 : ∀ j : Int, 0 ≤ j → (j = v_iv (n_v vs 7) → w_ei ws (w_ar ws (n_v vs 0) 43) j = v_iv (n_v vs 14)) ∧ (j ≠ v_iv (n_v vs 7) → w_ei ws (w_ar ws (n_v vs 0) 43) j = w_ei w1 (w_ar ws (n_v vs 0) 43) j) := fun j hj => ⟨fun h => by unfold w_ei; rw [s1.1, if_pos ⟨ad_9.symm, by rw [h]⟩], fun h => by unfold w_ei; rw [s1.1, if_neg (fun e => h (by have := e.2; omega))]⟩
  have kz_0_31 := fdq_145 hD hth r0
  have kz_0_32 := fdq_140 hD hth r0
  have kz_0_39 := fdq_135 hD hth r0
  have kz_0_49 := fdq_146 hD hth r0
  have nf0 : fc_1 PRD (20, [3, 4, 15], [60, 0, 3, 161, 35, 17, 43]) ws (vs) := by
    refine ⟨nf_in hl rfl, sgq_1972 ?_⟩
    · show D3 (w_ei ws (w_ar ws (n_v vs 3) 35)) (w_ei ws (w_ar ws (n_v vs 3) 17)) (w_ei ws (w_ar ws (n_v vs 3) 43)) (v_iv (n_v vs 4)) (v_iv (n_v vs 15))
      simp only [q3, q4]
      exact vc_Mo_draws_15_0 (v_iv (n_v vs 1)) (v_iv (n_v vs 4)) (v_iv (n_v vs 7)) (v_iv (n_v vs 11)) (v_iv (n_v vs 13)) (v_iv (n_v vs 14)) (v_iv (n_v vs 15)) (w_ei ws (w_ar ws (n_v vs 0) 33)) (w_ei ws (w_ar ws (n_v vs 0) 34)) (w_fi ws (n_v vs 0) 31) (w_fi ws (n_v vs 0) 32) (w_ei ws (w_ar ws (n_v vs 0) 35)) (w_ei ws (w_ar ws (n_v vs 0) 17)) (w_fi ws (n_v vs 0) 49) (w_fi ws (n_v vs 0) 39) (w_ei ws (w_ar ws (n_v vs 0) 42)) (w_ei w1 (w_ar ws (n_v vs 0) 17)) (w_ei w1 (w_ar ws (n_v vs 0) 35)) (w_fi w1 (n_v vs 0) 32) (w_ei w1 (w_ar ws (n_v vs 0) 33)) (w_ei w1 (w_ar ws (n_v vs 0) 34)) (w_fi w1 (n_v vs 0) 31) (w_fi w1 (n_v vs 0) 49) (w_fi w1 (n_v vs 0) 39) (w_ei w1 (w_ar ws (n_v vs 0) 42)) (w_ei w1 (w_ar ws (n_v vs 0) 43)) (w_ei ws (w_ar ws (n_v vs 0) 43)) k1 k4 k7 k11 k13 k14 k15 d0 d2 d4 d5 h12 h15 f27 fe_0_31_1 fe_0_32_1 fe_0_39_1 fe_0_49_1 hE_0_17_1 hE_0_33_1 hE_0_34_1 hE_0_35_1 hK_0_35 hE_0_42_1 hE_0_43_1 kz_0_31 kz_0_32 kz_0_39 kz_0_49
  refine ⟨(fun _ h => (by cases h)), [], trivial, ?_, (fun _ h => (by cases h))⟩
  rw [List.append_nil]
  exact List.forall_mem_cons.mpr ⟨⟨show (20 : Nat) < 100 from by decide, nf0⟩, (fun _ h => (by cases h))⟩
set_option maxHeartbeats 4000000 in
theorem vc_Mo_draws_16_0 (x1 : Int) (x4 : Int) (x7 : Int) (x11 : Int) (x13 : Int) (x14 : Int) (x15 : Int) (pt_0 : Int → Int) (ph_0 : Int → Int) (pn_0 : Int) (pm_0 : Int) (alive_0 : Int → Int) (blockOf_0 : Int → Int) (onlyPiece_0 : Int) (faces_0 : Int) (drawnNode_0 : Int → Int) (blockOf_1 : Int → Int) (alive_1 : Int → Int) (pm_1 : Int) (pt_1 : Int → Int) (ph_1 : Int → Int) (pn_1 : Int) (onlyPiece_1 : Int) (faces_1 : Int) (drawnNode_1 : Int → Int) (drawnEdge_1 : Int → Int) (drawnEdge_0 : Int → Int) (k1 : 0 ≤ x1 ∧ x1 ≤ 79) (k4 : 0 ≤ x4 ∧ x4 ≤ 79) (k7 : 0 ≤ x7 ∧ x7 ≤ 79) (k11 : 1 ≤ x11 ∧ x11 ≤ 1) (k13 : (-1) ≤ x13 ∧ x13 ≤ 79) (k14 : 1 ≤ x14 ∧ x14 ≤ 1) (k15 : 1 ≤ x15 ∧ x15 ≤ 80) (d0 : x7 + 1 ≤ x15 ∧ x15 ≤ x7 + 1) (d3 : x4 + (-4294967296) ≤ x1 ∧ x1 ≤ x4 + 0) (d4 : x1 + (-4294967296) ≤ x4 ∧ x4 ≤ x1 + 0) (f11 : x13 ≠ x1) (h12 : x13 = blockOf_1 (x7)) (f14 : x11 ≠ 0) (f27 : D3 (alive_1) (blockOf_1) (drawnEdge_1) (x1) (x7)) (fe_0_31_1 : pn_0 = pn_1) (fe_0_32_1 : pm_0 = pm_1) (fe_0_39_1 : faces_0 = faces_1) (fe_0_49_1 : onlyPiece_0 = onlyPiece_1) (hE_0_17_1 : ∀ j : Int, blockOf_0 j = blockOf_1 j) (hE_0_33_1 : ∀ j : Int, pt_0 j = pt_1 j) (hE_0_34_1 : ∀ j : Int, ph_0 j = ph_1 j) (hE_0_35_1 : ∀ j : Int, alive_0 j = alive_1 j) (hK_0_35 : ∀ j : Int, 0 ≤ j → j < 80 → 0 ≤ alive_0 j ∧ alive_0 j ≤ 1) (hE_0_42_1 : ∀ j : Int, drawnNode_0 j = drawnNode_1 j) (hE_0_43_1 : ∀ j : Int, 0 ≤ j → (j = x7 → drawnEdge_0 j = x14) ∧ (j ≠ x7 → drawnEdge_0 j = drawnEdge_1 j)) (kz_0_31 : 0 ≤ pn_0 ∧ pn_0 ≤ 25) (kz_0_32 : 0 ≤ pm_0 ∧ pm_0 ≤ 80) (kz_0_39 : 0 ≤ faces_0 ∧ faces_0 ≤ 120) (kz_0_49 : (-1) ≤ onlyPiece_0 ∧ onlyPiece_0 ≤ 79) : D3 (alive_0) (blockOf_0) (drawnEdge_0) (x1) (x15) := by
  subst fe_0_31_1
  subst fe_0_32_1
  subst fe_0_39_1
  subst fe_0_49_1
  have e_hE_0_17_1 := funext hE_0_17_1; subst e_hE_0_17_1
  have e_hE_0_33_1 := funext hE_0_33_1; subst e_hE_0_33_1
  have e_hE_0_34_1 := funext hE_0_34_1; subst e_hE_0_34_1
  have e_hE_0_35_1 := funext hE_0_35_1; subst e_hE_0_35_1
  have e_hE_0_42_1 := funext hE_0_42_1; subst e_hE_0_42_1
  first
    | (intro e a b; exfalso; omega)
    | (have h := ‹D3 _ _ _ _ _›
       intro e a b
       by_cases q : e = x7
       · have v := (hE_0_43_1 e a).1 q
         rw [q] at v ⊢
         first
           | exact ⟨fun _ => ⟨by have := hK_0_35 x7 (by omega) (by omega); omega, by omega⟩, fun _ => by omega⟩
           | exact ⟨fun z => by exfalso; omega, fun z => by exfalso; have := z.1; have := z.2; omega⟩
       · rw [(hE_0_43_1 e a).2 q]; exact h e a (by omega))
def o_Mo_draws_16 : or_T := (87, 16, [(0, (2, 0, 0, [165])), (1, (0, 0, 79, [])), (2, (0, 0, 80, [])), (3, (2, 0, 0, [165])), (4, (0, 0, 79, [])), (5, (0, -1, 79, [])), (6, (0, 0, 81, [])), (7, (0, 0, 79, [])), (8, (0, 1, 80, [])), (9, (2, 0, 0, [189])), (10, (2, 0, 0, [182])), (11, (0, 1, 1, [])), (12, (2, 0, 0, [172])), (13, (0, -1, 79, [])), (14, (0, 1, 1, [])), (15, (0, 1, 80, []))], [(6, [15, 7], [1]), (20, [3], [60, 2, 2, 75, 31, 32, 33, 34]), (20, [3, 2], [60, 1, 4, 97, 32, 33, 34, 35, 17]), (23, [4, 2], [-1, 1, -1]), (20, [3], [50, 1, 0, 49, 1, 3, 2, 0, 49, 0, -1]), (20, [3], [50, 1, 0, 39, 1, 3, 2, 0, 39, 0, 0]), (20, [3, 4, 5, 6], [60, 1, 2, 158, 32, 35, 17]), (20, [3], [60, 1, 1, 160, 31, 42]), (24, [0, 3], []), (24, [1, 4], []), (100, [9, 7, 14], []), (7, [13, 4], [1]), (10, [13, 12, 7], []), (9, [12, 3], [17]), (8, [11], [1]), (10, [11, 10, 7], []), (9, [10, 3], [35]), (9, [9, 3], [43]), (7, [7, 8], [2]), (9, [8, 3], [32]), (20, [3], [60, 2, 2, 75, 31, 32, 33, 34]), (20, [3, 2], [60, 1, 4, 97, 32, 33, 34, 35, 17]), (23, [4, 2], [-1, 1, -1]), (20, [3], [50, 1, 0, 49, 1, 3, 2, 0, 49, 0, -1]), (20, [3], [50, 1, 0, 39, 1, 3, 2, 0, 39, 0, 0]), (20, [3, 4, 5, 6], [60, 1, 2, 158, 32, 35, 17]), (20, [3], [60, 1, 1, 160, 31, 42]), (20, [3, 4, 7], [60, 0, 3, 161, 35, 17, 43])], [], [], [(20, [3, 4, 15], [60, 0, 3, 161, 35, 17, 43])], [], [(15, 7, 1, 1), (15, 8, -4294967296, 0), (7, 8, -4294967296, -1), (1, 4, -4294967296, 0), (4, 1, -4294967296, 0)])
theorem oo_Mo_draws_16 {kA : Nat → ClassId} : or_ok PRD kA GG o_Mo_draws_16 := by
  refine or_mk fun A ta ws vs hD hth hl => ?_
  intro t0 r0 t1 k1 t2 k2 t3 r3 t4 k4 t5 k5 t6 k6 t7 k7 t8 k8 t9 r9 t10 r10 t11 k11 t12 r12 t13 k13 t14 k14 t15 k15 d0 d1 d2 d3 d4 f0 f1 f2 f3 f4 f5 f6 f7 f8 f9 ta1 w1 le1 s1 f11 f12 f13 f14 f15 f16 f17 f18 f19 f20 f21 f22 f23 f24 f25 f26 f27
  replace f8 := shm_5 f8
  replace f9 := shm_5 f9
  have s1 : (∀ b j, w_el ws b j = if b = v_ad (n_v vs 9) ∧ j = (v_iv (n_v vs 7)).toNat then v_iv (n_v vs 14) else w_el w1 b j) ∧ ∀ b k, w_fd ws b k = w_fd w1 b k := s1.2
  replace f11 := shm_40 f11
  replace f12 := shm_107 f12
  replace f13 := shm_795 f13
  replace f14 := shm_142 f14
  replace f17 := shm_532 f17
  replace f27 := shm_1972 f27
  have q3 : n_v vs 3 = n_v vs 0 := f8.symm
  have q4 : n_v vs 4 = n_v vs 1 := f9.symm
  simp only [q3, q4] at f11 f13 f17 f27
  have ar_0_17_1 : w_ar w1 (n_v vs 0) 17 = w_ar ws (n_v vs 0) 17 := congrArg v_ad (s1.2 _ _).symm
  have cr_0_17 := fdq_189 hD hth r0
  have ar_0_33_1 : w_ar w1 (n_v vs 0) 33 = w_ar ws (n_v vs 0) 33 := congrArg v_ad (s1.2 _ _).symm
  have cr_0_33 := fdq_117 hD hth r0
  have ar_0_34_1 : w_ar w1 (n_v vs 0) 34 = w_ar ws (n_v vs 0) 34 := congrArg v_ad (s1.2 _ _).symm
  have cr_0_34 := fdq_118 hD hth r0
  have ar_0_35_1 : w_ar w1 (n_v vs 0) 35 = w_ar ws (n_v vs 0) 35 := congrArg v_ad (s1.2 _ _).symm
  have cr_0_35 := fdq_132 hD hth r0
  have ar_0_42_1 : w_ar w1 (n_v vs 0) 42 = w_ar ws (n_v vs 0) 42 := congrArg v_ad (s1.2 _ _).symm
  have cr_0_42 := fdq_136 hD hth r0
  have ar_0_43_1 : w_ar w1 (n_v vs 0) 43 = w_ar ws (n_v vs 0) 43 := congrArg v_ad (s1.2 _ _).symm
  have ad_12 : v_ad (n_v vs 12) = w_ar ws (n_v vs 0) 17 := (congrArg v_ad f13).trans ar_0_17_1
  have ad_9 : v_ad (n_v vs 9) = w_ar ws (n_v vs 0) 43 := (congrArg v_ad f17).trans ar_0_43_1
  simp only [ad_12] at f12
  have h12 : v_iv (n_v vs 13) = w_ei w1 (w_ar ws (n_v vs 0) 17) (v_iv (n_v vs 7)) := f12
  simp only [ar_0_33_1, ar_0_34_1, ar_0_17_1, ar_0_35_1, ar_0_42_1, ar_0_43_1] at f27
  have fe_0_31_1 : w_fi ws (n_v vs 0) 31 = w_fi w1 (n_v vs 0) 31 := congrArg v_iv (s1.2 _ _)
  have fe_0_32_1 : w_fi ws (n_v vs 0) 32 = w_fi w1 (n_v vs 0) 32 := congrArg v_iv (s1.2 _ _)
  have fe_0_39_1 : w_fi ws (n_v vs 0) 39 = w_fi w1 (n_v vs 0) 39 := congrArg v_iv (s1.2 _ _)
  have fe_0_49_1 : w_fi ws (n_v vs 0) 49 = w_fi w1 (n_v vs 0) 49 := congrArg v_iv (s1.2 _ _)
  have hE_0_17_1 : ∀ j : Int, w_ei ws (w_ar ws (n_v vs 0) 17) j = w_ei w1 (w_ar ws (n_v vs 0) 17) j := el_kp s1.1 r9 cr_0_17 (by decide)
  have hE_0_33_1 : ∀ j : Int, w_ei ws (w_ar ws (n_v vs 0) 33) j = w_ei w1 (w_ar ws (n_v vs 0) 33) j := el_kp s1.1 r9 cr_0_33 (by decide)
  have hE_0_34_1 : ∀ j : Int, w_ei ws (w_ar ws (n_v vs 0) 34) j = w_ei w1 (w_ar ws (n_v vs 0) 34) j := el_kp s1.1 r9 cr_0_34 (by decide)
  have hE_0_35_1 : ∀ j : Int, w_ei ws (w_ar ws (n_v vs 0) 35) j = w_ei w1 (w_ar ws (n_v vs 0) 35) j := el_kp s1.1 r9 cr_0_35 (by decide)
  have hK_0_35 := elq_72 hD hth cr_0_35
  have hE_0_42_1 : ∀ j : Int, w_ei ws (w_ar ws (n_v vs 0) 42) j = w_ei w1 (w_ar ws (n_v vs 0) 42) j := el_kp s1.1 r9 cr_0_42 (by decide)
  have hE_0_43_1 : ∀ j : Int, 0 ≤ j → (j = v_iv (n_v vs 7) → w_ei ws (w_ar ws (n_v vs 0) 43) j = v_iv (n_v vs 14)) ∧ (j ≠ v_iv (n_v vs 7) → w_ei ws (w_ar ws (n_v vs 0) 43) j = w_ei w1 (w_ar ws (n_v vs 0) 43) j) := fun j hj => ⟨fun h => by unfold w_ei; rw [s1.1, if_pos ⟨ad_9.symm, by rw [h]⟩], fun h => by unfold w_ei; rw [s1.1, if_neg (fun e => h (by have := e.2; omega))]⟩
  have kz_0_31 := fdq_145 hD hth r0
  have kz_0_32 := fdq_140 hD hth r0
  have kz_0_39 := fdq_135 hD hth r0
  have kz_0_49 := fdq_146 hD hth r0
  have nf0 : fc_1 PRD (20, [3, 4, 15], [60, 0, 3, 161, 35, 17, 43]) ws (vs) := by
    refine ⟨nf_in hl rfl, sgq_1972 ?_⟩
    · show D3 (w_ei ws (w_ar ws (n_v vs 3) 35)) (w_ei ws (w_ar ws (n_v vs 3) 17)) (w_ei ws (w_ar ws (n_v vs 3) 43)) (v_iv (n_v vs 4)) (v_iv (n_v vs 15))
      simp only [q3, q4]
      exact vc_Mo_draws_16_0 (v_iv (n_v vs 1)) (v_iv (n_v vs 4)) (v_iv (n_v vs 7)) (v_iv (n_v vs 11)) (v_iv (n_v vs 13)) (v_iv (n_v vs 14)) (v_iv (n_v vs 15)) (w_ei ws (w_ar ws (n_v vs 0) 33)) (w_ei ws (w_ar ws (n_v vs 0) 34)) (w_fi ws (n_v vs 0) 31) (w_fi ws (n_v vs 0) 32) (w_ei ws (w_ar ws (n_v vs 0) 35)) (w_ei ws (w_ar ws (n_v vs 0) 17)) (w_fi ws (n_v vs 0) 49) (w_fi ws (n_v vs 0) 39) (w_ei ws (w_ar ws (n_v vs 0) 42)) (w_ei w1 (w_ar ws (n_v vs 0) 17)) (w_ei w1 (w_ar ws (n_v vs 0) 35)) (w_fi w1 (n_v vs 0) 32) (w_ei w1 (w_ar ws (n_v vs 0) 33)) (w_ei w1 (w_ar ws (n_v vs 0) 34)) (w_fi w1 (n_v vs 0) 31) (w_fi w1 (n_v vs 0) 49) (w_fi w1 (n_v vs 0) 39) (w_ei w1 (w_ar ws (n_v vs 0) 42)) (w_ei w1 (w_ar ws (n_v vs 0) 43)) (w_ei ws (w_ar ws (n_v vs 0) 43)) k1 k4 k7 k11 k13 k14 k15 d0 d3 d4 f11 h12 f14 f27 fe_0_31_1 fe_0_32_1 fe_0_39_1 fe_0_49_1 hE_0_17_1 hE_0_33_1 hE_0_34_1 hE_0_35_1 hK_0_35 hE_0_42_1 hE_0_43_1 kz_0_31 kz_0_32 kz_0_39 kz_0_49
  refine ⟨(fun _ h => (by cases h)), [], trivial, ?_, (fun _ h => (by cases h))⟩
  rw [List.append_nil]
  exact List.forall_mem_cons.mpr ⟨⟨show (20 : Nat) < 100 from by decide, nf0⟩, (fun _ h => (by cases h))⟩
set_option maxHeartbeats 4000000 in
theorem vc_Mo_draws_17_0 (x1 : Int) (x5 : Int) (x7 : Int) (x9 : Int) (x10 : Int) (x12 : Int) (x14 : Int) (x15 : Int) (pt_0 : Int → Int) (ph_0 : Int → Int) (pn_0 : Int) (pm_0 : Int) (alive_0 : Int → Int) (blockOf_0 : Int → Int) (onlyPiece_0 : Int) (pt_1 : Int → Int) (wayMany_1 : Int) (ph_1 : Int → Int) (pn_1 : Int) (pm_1 : Int) (alive_1 : Int → Int) (blockOf_1 : Int → Int) (onlyPiece_1 : Int) (drawnEdge_1 : Int → Int) (drawnNode_1 : Int → Int) (way_1 : Int → Int) (faceMany_1 : Int → Int) (face_1 : Int → Int) (wayMany_0 : Int) (faceMany_0 : Int → Int) (face_0 : Int → Int) (drawnNode_0 : Int → Int) (drawnEdge_0 : Int → Int) (way_0 : Int → Int) (k1 : 0 ≤ x1 ∧ x1 ≤ 79) (k5 : 0 ≤ x5 ∧ x5 ≤ 79) (k7 : 0 ≤ x7 ∧ x7 ≤ 29) (k9 : 1 ≤ x9 ∧ x9 ≤ 30) (k10 : 0 ≤ x10 ∧ x10 ≤ 30) (k12 : 60 ≤ x12 ∧ x12 ≤ 60) (k14 : 0 ≤ x14 ∧ x14 ≤ 24) (k15 : 1 ≤ x15 ∧ x15 ≤ 1) (d0 : x10 + 0 ≤ x9 ∧ x9 ≤ x10 + 4294967296) (d1 : x7 + 1 ≤ x9 ∧ x9 ≤ x7 + 1) (h7 : x14 = pt_1 (x5)) (g11 : x10 = wayMany_1) (f17 : R1 (pn_1) (pm_1) (wayMany_1) (pt_1) (ph_1) (alive_1) (blockOf_1) (drawnEdge_1) (drawnNode_1) (way_1) (faceMany_1) (face_1) (x1) (x5) (x7)) (fe_0_31_1 : pn_0 = pn_1) (fe_0_32_1 : pm_0 = pm_1) (fe_0_45_1 : wayMany_0 = wayMany_1) (fe_0_49_1 : onlyPiece_0 = onlyPiece_1) (hE_0_17_1 : ∀ j : Int, blockOf_0 j = blockOf_1 j) (hE_0_33_1 : ∀ j : Int, pt_0 j = pt_1 j) (hE_0_34_1 : ∀ j : Int, ph_0 j = ph_1 j) (hE_0_35_1 : ∀ j : Int, alive_0 j = alive_1 j) (hE_0_40_1 : ∀ j : Int, faceMany_0 j = faceMany_1 j) (hE_0_41_1 : ∀ j : Int, 0 ≤ j → (j = x12 → face_0 j = x14) ∧ (j ≠ x12 → face_0 j = face_1 j)) (hE_0_42_1 : ∀ j : Int, drawnNode_0 j = drawnNode_1 j) (hE_0_43_1 : ∀ j : Int, drawnEdge_0 j = drawnEdge_1 j) (hE_0_46_1 : ∀ j : Int, way_0 j = way_1 j) (kz_0_31 : 0 ≤ pn_0 ∧ pn_0 ≤ 25) (kz_0_32 : 0 ≤ pm_0 ∧ pm_0 ≤ 80) (kz_0_45 : 0 ≤ wayMany_0 ∧ wayMany_0 ≤ 30) (kz_0_49 : (-1) ≤ onlyPiece_0 ∧ onlyPiece_0 ≤ 79) : R2 (pn_0) (pm_0) (wayMany_0) (pt_0) (ph_0) (alive_0) (blockOf_0) (drawnEdge_0) (drawnNode_0) (way_0) (faceMany_0) (face_0) (x1) (x5) (x15) := by
  subst fe_0_31_1
  subst fe_0_32_1
  subst fe_0_45_1
  subst fe_0_49_1
  have e_hE_0_17_1 := funext hE_0_17_1; subst e_hE_0_17_1
  have e_hE_0_33_1 := funext hE_0_33_1; subst e_hE_0_33_1
  have e_hE_0_34_1 := funext hE_0_34_1; subst e_hE_0_34_1
  have e_hE_0_35_1 := funext hE_0_35_1; subst e_hE_0_35_1
  have e_hE_0_40_1 := funext hE_0_40_1; subst e_hE_0_40_1
  have e_hE_0_42_1 := funext hE_0_42_1; subst e_hE_0_42_1
  have e_hE_0_43_1 := funext hE_0_43_1; subst e_hE_0_43_1
  have e_hE_0_46_1 := funext hE_0_46_1; subst e_hE_0_46_1
  first
    | exact r2_of (k := x7) ‹R1 _ _ _ _ _ _ _ _ _ _ _ _ _ _ _› (by omega) (by omega) hE_0_41_1 (by omega) (by omega) (by omega)
    | exact r2_next (k := x7) (q := x12) ‹R2 _ _ _ _ _ _ _ _ _ _ _ _ _ _ _› (by omega) hE_0_41_1 (by omega) (by omega) (by omega) (by omega) (by omega) (by omega)
def o_Mo_draws_17 : or_T := (250, 16, [(0, (2, 0, 0, [165])), (1, (0, 0, 79, [])), (5, (0, 0, 79, [])), (7, (0, 0, 29, [])), (9, (0, 1, 30, [])), (10, (0, 0, 30, [])), (11, (2, 0, 0, [187])), (12, (0, 60, 60, [])), (14, (0, 0, 24, [])), (15, (0, 1, 1, []))], [(24, [0, 3], []), (24, [1, 4], []), (100, [11, 12, 14], []), (10, [14, 13, 5], []), (9, [13, 3], [33]), (9, [11, 3], [41]), (9, [10, 3], [45]), (20, [3, 4, 5, 7], [60, 3, 9, 164, 31, 32, 45, 33, 34, 35, 17, 43, 42, 46, 40, 41])], [], [], [(20, [3, 4, 5, 15], [60, 3, 9, 165, 31, 32, 45, 33, 34, 35, 17, 43, 42, 46, 40, 41])], [], [(9, 10, 0, 4294967296), (9, 7, 1, 1)])
theorem oo_Mo_draws_17 {kA : Nat → ClassId} : or_ok PRD kA GG o_Mo_draws_17 := by
  refine or_mk fun A ta ws vs hD hth hl => ?_
  intro t0 r0 t1 k1 t5 k5 t7 k7 t9 k9 t10 k10 t11 r11 t12 k12 t14 k14 t15 k15 d0 d1 f4 f5 ta1 w1 le1 s1 f7 f8 f9 f11 f17
  replace f4 := shm_5 f4
  replace f5 := shm_5 f5
  have s1 : (∀ b j, w_el ws b j = if b = v_ad (n_v vs 11) ∧ j = (v_iv (n_v vs 12)).toNat then v_iv (n_v vs 14) else w_el w1 b j) ∧ ∀ b k, w_fd ws b k = w_fd w1 b k := s1.2
  replace f7 := shm_107 f7
  replace f8 := shm_494 f8
  replace f9 := shm_522 f9
  replace f11 := shm_741 f11
  replace f17 := shm_1975 f17
  have q3 : n_v vs 3 = n_v vs 0 := f4.symm
  have q4 : n_v vs 4 = n_v vs 1 := f5.symm
  simp only [q3, q4] at f8 f9 f11 f17
  have ar_0_17_1 : w_ar w1 (n_v vs 0) 17 = w_ar ws (n_v vs 0) 17 := congrArg v_ad (s1.2 _ _).symm
  have cr_0_17 := fdq_189 hD hth r0
  have ar_0_33_1 : w_ar w1 (n_v vs 0) 33 = w_ar ws (n_v vs 0) 33 := congrArg v_ad (s1.2 _ _).symm
  have cr_0_33 := fdq_117 hD hth r0
  have ar_0_34_1 : w_ar w1 (n_v vs 0) 34 = w_ar ws (n_v vs 0) 34 := congrArg v_ad (s1.2 _ _).symm
  have cr_0_34 := fdq_118 hD hth r0
  have ar_0_35_1 : w_ar w1 (n_v vs 0) 35 = w_ar ws (n_v vs 0) 35 := congrArg v_ad (s1.2 _ _).symm
  have cr_0_35 := fdq_132 hD hth r0
  have ar_0_40_1 : w_ar w1 (n_v vs 0) 40 = w_ar ws (n_v vs 0) 40 := congrArg v_ad (s1.2 _ _).symm
  have cr_0_40 := fdq_133 hD hth r0
  have ar_0_41_1 : w_ar w1 (n_v vs 0) 41 = w_ar ws (n_v vs 0) 41 := congrArg v_ad (s1.2 _ _).symm
  have ar_0_42_1 : w_ar w1 (n_v vs 0) 42 = w_ar ws (n_v vs 0) 42 := congrArg v_ad (s1.2 _ _).symm
  have cr_0_42 := fdq_136 hD hth r0
  have ar_0_43_1 : w_ar w1 (n_v vs 0) 43 = w_ar ws (n_v vs 0) 43 := congrArg v_ad (s1.2 _ _).symm
  have cr_0_43 := fdq_137 hD hth r0
  have ar_0_46_1 : w_ar w1 (n_v vs 0) 46 = w_ar ws (n_v vs 0) 46 := congrArg v_ad (s1.2 _ _).symm
  have cr_0_46 := fdq_190 hD hth r0
  have ad_13 : v_ad (n_v vs 13) = w_ar ws (n_v vs 0) 33 := (congrArg v_ad f8).trans ar_0_33_1
  have ad_11 : v_ad (n_v vs 11) = w_ar ws (n_v vs 0) 41 := (congrArg v_ad f9).trans ar_0_41_1
  simp only [ad_13] at f7
  have h7 : v_iv (n_v vs 14) = w_ei w1 (w_ar ws (n_v vs 0) 33) (v_iv (n_v vs 5)) := f7
  have g11 : v_iv (n_v vs 10) = w_fi w1 (n_v vs 0) 45 := congrArg v_iv f11
  simp only [ar_0_33_1, ar_0_34_1, ar_0_17_1, ar_0_35_1, ar_0_40_1, ar_0_41_1, ar_0_42_1, ar_0_43_1, ar_0_46_1] at f17
  have fe_0_31_1 : w_fi ws (n_v vs 0) 31 = w_fi w1 (n_v vs 0) 31 := congrArg v_iv (s1.2 _ _)
  have fe_0_32_1 : w_fi ws (n_v vs 0) 32 = w_fi w1 (n_v vs 0) 32 := congrArg v_iv (s1.2 _ _)
  have fe_0_45_1 : w_fi ws (n_v vs 0) 45 = w_fi w1 (n_v vs 0) 45 := congrArg v_iv (s1.2 _ _)
  have fe_0_49_1 : w_fi ws (n_v vs 0) 49 = w_fi w1 (n_v vs 0) 49 := congrArg v_iv (s1.2 _ _)
  have hE_0_17_1 : ∀ j : Int, w_ei ws (w_ar ws (n_v vs 0) 17) j = w_ei w1 (w_ar ws (n_v vs 0) 17) j := el_kp s1.1 r11 cr_0_17 (by decide)
  have hE_0_33_1 : ∀ j : Int, w_ei ws (w_ar ws (n_v vs 0) 33) j = w_ei w1 (w_ar ws (n_v vs 0) 33) j := el_kp s1.1 r11 cr_0_33 (by decide)
  have hE_0_34_1 : ∀ j : Int, w_ei ws (w_ar ws (n_v vs 0) 34) j = w_ei w1 (w_ar ws (n_v vs 0) 34) j := el_kp s1.1 r11 cr_0_34 (by decide)
  have hE_0_35_1 : ∀ j : Int, w_ei ws (w_ar ws (n_v vs 0) 35) j = w_ei w1 (w_ar ws (n_v vs 0) 35) j := el_kp s1.1 r11 cr_0_35 (by decide)
  have hE_0_40_1 : ∀ j : Int, w_ei ws (w_ar ws (n_v vs 0) 40) j = w_ei w1 (w_ar ws (n_v vs 0) 40) j := el_kp s1.1 r11 cr_0_40 (by decide)
  have hE_0_41_1 : ∀ j : Int, 0 ≤ j → (j = v_iv (n_v vs 12) → w_ei ws (w_ar ws (n_v vs 0) 41) j = v_iv (n_v vs 14)) ∧ (j ≠ v_iv (n_v vs 12) → w_ei ws (w_ar ws (n_v vs 0) 41) j = w_ei w1 (w_ar ws (n_v vs 0) 41) j) := fun j hj => ⟨fun h => by unfold w_ei; rw [s1.1, if_pos ⟨ad_11.symm, by rw [h]⟩], fun h => by unfold w_ei; rw [s1.1, if_neg (fun e => h (by have := e.2; omega))]⟩
  have hE_0_42_1 : ∀ j : Int, w_ei ws (w_ar ws (n_v vs 0) 42) j = w_ei w1 (w_ar ws (n_v vs 0) 42) j := el_kp s1.1 r11 cr_0_42 (by decide)
  have hE_0_43_1 : ∀ j : Int, w_ei ws (w_ar ws (n_v vs 0) 43) j = w_ei w1 (w_ar ws (n_v vs 0) 43) j := el_kp s1.1 r11 cr_0_43 (by decide)
  have hE_0_46_1 : ∀ j : Int, w_ei ws (w_ar ws (n_v vs 0) 46) j = w_ei w1 (w_ar ws (n_v vs 0) 46) j := el_kp s1.1 r11 cr_0_46 (by decide)
  have kz_0_31 := fdq_145 hD hth r0
  have kz_0_32 := fdq_140 hD hth r0
  have kz_0_45 := fdq_191 hD hth r0
  have kz_0_49 := fdq_146 hD hth r0
  have nf0 : fc_1 PRD (20, [3, 4, 5, 15], [60, 3, 9, 165, 31, 32, 45, 33, 34, 35, 17, 43, 42, 46, 40, 41]) ws (vs) := by
    refine ⟨nf_in hl rfl, sgq_1977 ?_⟩
    · show R2 (w_fi ws (n_v vs 3) 31) (w_fi ws (n_v vs 3) 32) (w_fi ws (n_v vs 3) 45) (w_ei ws (w_ar ws (n_v vs 3) 33)) (w_ei ws (w_ar ws (n_v vs 3) 34)) (w_ei ws (w_ar ws (n_v vs 3) 35)) (w_ei ws (w_ar ws (n_v vs 3) 17)) (w_ei ws (w_ar ws (n_v vs 3) 43)) (w_ei ws (w_ar ws (n_v vs 3) 42)) (w_ei ws (w_ar ws (n_v vs 3) 46)) (w_ei ws (w_ar ws (n_v vs 3) 40)) (w_ei ws (w_ar ws (n_v vs 3) 41)) (v_iv (n_v vs 4)) (v_iv (n_v vs 5)) (v_iv (n_v vs 15))
      simp only [q3, q4]
      exact vc_Mo_draws_17_0 (v_iv (n_v vs 1)) (v_iv (n_v vs 5)) (v_iv (n_v vs 7)) (v_iv (n_v vs 9)) (v_iv (n_v vs 10)) (v_iv (n_v vs 12)) (v_iv (n_v vs 14)) (v_iv (n_v vs 15)) (w_ei ws (w_ar ws (n_v vs 0) 33)) (w_ei ws (w_ar ws (n_v vs 0) 34)) (w_fi ws (n_v vs 0) 31) (w_fi ws (n_v vs 0) 32) (w_ei ws (w_ar ws (n_v vs 0) 35)) (w_ei ws (w_ar ws (n_v vs 0) 17)) (w_fi ws (n_v vs 0) 49) (w_ei w1 (w_ar ws (n_v vs 0) 33)) (w_fi w1 (n_v vs 0) 45) (w_ei w1 (w_ar ws (n_v vs 0) 34)) (w_fi w1 (n_v vs 0) 31) (w_fi w1 (n_v vs 0) 32) (w_ei w1 (w_ar ws (n_v vs 0) 35)) (w_ei w1 (w_ar ws (n_v vs 0) 17)) (w_fi w1 (n_v vs 0) 49) (w_ei w1 (w_ar ws (n_v vs 0) 43)) (w_ei w1 (w_ar ws (n_v vs 0) 42)) (w_ei w1 (w_ar ws (n_v vs 0) 46)) (w_ei w1 (w_ar ws (n_v vs 0) 40)) (w_ei w1 (w_ar ws (n_v vs 0) 41)) (w_fi ws (n_v vs 0) 45) (w_ei ws (w_ar ws (n_v vs 0) 40)) (w_ei ws (w_ar ws (n_v vs 0) 41)) (w_ei ws (w_ar ws (n_v vs 0) 42)) (w_ei ws (w_ar ws (n_v vs 0) 43)) (w_ei ws (w_ar ws (n_v vs 0) 46)) k1 k5 k7 k9 k10 k12 k14 k15 d0 d1 h7 g11 f17 fe_0_31_1 fe_0_32_1 fe_0_45_1 fe_0_49_1 hE_0_17_1 hE_0_33_1 hE_0_34_1 hE_0_35_1 hE_0_40_1 hE_0_41_1 hE_0_42_1 hE_0_43_1 hE_0_46_1 kz_0_31 kz_0_32 kz_0_45 kz_0_49
  refine ⟨(fun _ h => (by cases h)), [], trivial, ?_, (fun _ h => (by cases h))⟩
  rw [List.append_nil]
  exact List.forall_mem_cons.mpr ⟨⟨show (20 : Nat) < 100 from by decide, nf0⟩, (fun _ h => (by cases h))⟩
set_option maxHeartbeats 4000000 in
theorem vc_Mo_draws_18_0 (x1 : Int) (x5 : Int) (x7 : Int) (x9 : Int) (x10 : Int) (x13 : Int) (x15 : Int) (x16 : Int) (pt_0 : Int → Int) (ph_0 : Int → Int) (pn_0 : Int) (pm_0 : Int) (alive_0 : Int → Int) (blockOf_0 : Int → Int) (onlyPiece_0 : Int) (way_1 : Int → Int) (wayMany_1 : Int) (pt_1 : Int → Int) (ph_1 : Int → Int) (pn_1 : Int) (pm_1 : Int) (alive_1 : Int → Int) (blockOf_1 : Int → Int) (onlyPiece_1 : Int) (drawnEdge_1 : Int → Int) (drawnNode_1 : Int → Int) (faceMany_1 : Int → Int) (face_1 : Int → Int) (wayMany_0 : Int) (faceMany_0 : Int → Int) (face_0 : Int → Int) (drawnNode_0 : Int → Int) (drawnEdge_0 : Int → Int) (way_0 : Int → Int) (k1 : 0 ≤ x1 ∧ x1 ≤ 79) (k5 : 0 ≤ x5 ∧ x5 ≤ 79) (k7 : 0 ≤ x7 ∧ x7 ≤ 28) (k9 : 1 ≤ x9 ∧ x9 ≤ 29) (k10 : 2 ≤ x10 ∧ x10 ≤ 30) (k13 : 1 ≤ x13 ∧ x13 ≤ 29) (k15 : 0 ≤ x15 ∧ x15 ≤ 24) (k16 : 1 ≤ x16 ∧ x16 ≤ 29) (d0 : x7 + 1 ≤ x16 ∧ x16 ≤ x7 + 1) (d1 : x7 + 1 ≤ x13 ∧ x13 ≤ x7 + 1) (d2 : x10 + (-4294967296) ≤ x9 ∧ x9 ≤ x10 + (-1)) (d3 : x7 + 1 ≤ x9 ∧ x9 ≤ x7 + 1) (f0 : x16 = x7 + 1) (h8 : x15 = way_1 (x7)) (g13 : x10 = wayMany_1) (f19 : R1 (pn_1) (pm_1) (wayMany_1) (pt_1) (ph_1) (alive_1) (blockOf_1) (drawnEdge_1) (drawnNode_1) (way_1) (faceMany_1) (face_1) (x1) (x5) (x7)) (fe_0_31_1 : pn_0 = pn_1) (fe_0_32_1 : pm_0 = pm_1) (fe_0_45_1 : wayMany_0 = wayMany_1) (fe_0_49_1 : onlyPiece_0 = onlyPiece_1) (hE_0_17_1 : ∀ j : Int, blockOf_0 j = blockOf_1 j) (hE_0_33_1 : ∀ j : Int, pt_0 j = pt_1 j) (hE_0_34_1 : ∀ j : Int, ph_0 j = ph_1 j) (hE_0_35_1 : ∀ j : Int, alive_0 j = alive_1 j) (hE_0_40_1 : ∀ j : Int, faceMany_0 j = faceMany_1 j) (hE_0_41_1 : ∀ j : Int, 0 ≤ j → (j = x13 → face_0 j = x15) ∧ (j ≠ x13 → face_0 j = face_1 j)) (hE_0_42_1 : ∀ j : Int, drawnNode_0 j = drawnNode_1 j) (hE_0_43_1 : ∀ j : Int, drawnEdge_0 j = drawnEdge_1 j) (hE_0_46_1 : ∀ j : Int, way_0 j = way_1 j) (kz_0_31 : 0 ≤ pn_0 ∧ pn_0 ≤ 25) (kz_0_32 : 0 ≤ pm_0 ∧ pm_0 ≤ 80) (kz_0_45 : 0 ≤ wayMany_0 ∧ wayMany_0 ≤ 30) (kz_0_49 : (-1) ≤ onlyPiece_0 ∧ onlyPiece_0 ≤ 79) : R1 (pn_0) (pm_0) (wayMany_0) (pt_0) (ph_0) (alive_0) (blockOf_0) (drawnEdge_0) (drawnNode_0) (way_0) (faceMany_0) (face_0) (x1) (x5) (x16) := by
  subst fe_0_31_1
  subst fe_0_32_1
  subst fe_0_45_1
  subst fe_0_49_1
  have e_hE_0_17_1 := funext hE_0_17_1; subst e_hE_0_17_1
  have e_hE_0_33_1 := funext hE_0_33_1; subst e_hE_0_33_1
  have e_hE_0_34_1 := funext hE_0_34_1; subst e_hE_0_34_1
  have e_hE_0_35_1 := funext hE_0_35_1; subst e_hE_0_35_1
  have e_hE_0_40_1 := funext hE_0_40_1; subst e_hE_0_40_1
  have e_hE_0_42_1 := funext hE_0_42_1; subst e_hE_0_42_1
  have e_hE_0_43_1 := funext hE_0_43_1; subst e_hE_0_43_1
  have e_hE_0_46_1 := funext hE_0_46_1; subst e_hE_0_46_1
  first
    | exact r1_next (k := x7) ‹R1 _ _ _ _ _ _ _ _ _ _ _ _ _ _ _› hE_0_41_1 (by omega) (by omega) (by omega) (by omega) (by omega)
    | (have h := ‹RGS _ _ _ _ _ _ _ _ _ _ _ _›
       have hb := rgs_bd h
       exact ⟨h, by rw [(hE_0_40_2 0 (by omega)).2 (by omega), (hE_0_40_3 0 (by omega)).1 (by omega)]; omega, by rw [(hE_0_40_2 1 (by omega)).1 (by omega)]; omega, by rw [(hE_0_41_1 0 (by omega)).1 (by omega)]; omega, fun j a b => by exfalso; omega, by omega⟩)
def o_Mo_draws_18 : or_T := (201, 17, [(0, (2, 0, 0, [165])), (1, (0, 0, 79, [])), (5, (0, 0, 79, [])), (7, (0, 0, 28, [])), (9, (0, 1, 29, [])), (10, (0, 2, 30, [])), (11, (2, 0, 0, [187])), (13, (0, 1, 29, [])), (15, (0, 0, 24, [])), (16, (0, 1, 29, []))], [(6, [16, 7], [1]), (24, [0, 3], []), (24, [1, 4], []), (100, [11, 13, 15], []), (10, [15, 14, 7], []), (9, [14, 3], [46]), (9, [11, 3], [41]), (9, [10, 3], [45]), (20, [3, 4, 5, 7], [60, 3, 9, 164, 31, 32, 45, 33, 34, 35, 17, 43, 42, 46, 40, 41])], [], [], [(20, [3, 4, 5, 16], [60, 3, 9, 164, 31, 32, 45, 33, 34, 35, 17, 43, 42, 46, 40, 41])], [], [(16, 7, 1, 1), (13, 7, 1, 1), (9, 10, -4294967296, -1), (9, 7, 1, 1)])
theorem oo_Mo_draws_18 {kA : Nat → ClassId} : or_ok PRD kA GG o_Mo_draws_18 := by
  refine or_mk fun A ta ws vs hD hth hl => ?_
  intro t0 r0 t1 k1 t5 k5 t7 k7 t9 k9 t10 k10 t11 r11 t13 k13 t15 k15 t16 k16 d0 d1 d2 d3 f0 f5 f6 ta1 w1 le1 s1 f8 f9 f11 f13 f19
  replace f0 := shm_4 f0
  replace f5 := shm_5 f5
  replace f6 := shm_5 f6
  have s1 : (∀ b j, w_el ws b j = if b = v_ad (n_v vs 11) ∧ j = (v_iv (n_v vs 13)).toNat then v_iv (n_v vs 15) else w_el w1 b j) ∧ ∀ b k, w_fd ws b k = w_fd w1 b k := s1.2
  replace f8 := shm_107 f8
  replace f9 := shm_737 f9
  replace f11 := shm_522 f11
  replace f13 := shm_741 f13
  replace f19 := shm_1975 f19
  have q3 : n_v vs 3 = n_v vs 0 := f5.symm
  have q4 : n_v vs 4 = n_v vs 1 := f6.symm
  simp only [q3, q4] at f9 f11 f13 f19
  have ar_0_17_1 : w_ar w1 (n_v vs 0) 17 = w_ar ws (n_v vs 0) 17 := congrArg v_ad (s1.2 _ _).symm
  have cr_0_17 := fdq_189 hD hth r0
  have ar_0_33_1 : w_ar w1 (n_v vs 0) 33 = w_ar ws (n_v vs 0) 33 := congrArg v_ad (s1.2 _ _).symm
  have cr_0_33 := fdq_117 hD hth r0
  have ar_0_34_1 : w_ar w1 (n_v vs 0) 34 = w_ar ws (n_v vs 0) 34 := congrArg v_ad (s1.2 _ _).symm
  have cr_0_34 := fdq_118 hD hth r0
  have ar_0_35_1 : w_ar w1 (n_v vs 0) 35 = w_ar ws (n_v vs 0) 35 := congrArg v_ad (s1.2 _ _).symm
  have cr_0_35 := fdq_132 hD hth r0
  have ar_0_40_1 : w_ar w1 (n_v vs 0) 40 = w_ar ws (n_v vs 0) 40 := congrArg v_ad (s1.2 _ _).symm
  have cr_0_40 := fdq_133 hD hth r0
  have ar_0_41_1 : w_ar w1 (n_v vs 0) 41 = w_ar ws (n_v vs 0) 41 := congrArg v_ad (s1.2 _ _).symm
  have ar_0_42_1 : w_ar w1 (n_v vs 0) 42 = w_ar ws (n_v vs 0) 42 := congrArg v_ad (s1.2 _ _).symm
  have cr_0_42 := fdq_136 hD hth r0
  have ar_0_43_1 : w_ar w1 (n_v vs 0) 43 = w_ar ws (n_v vs 0) 43 := congrArg v_ad (s1.2 _ _).symm
  have cr_0_43 := fdq_137 hD hth r0
  have ar_0_46_1 : w_ar w1 (n_v vs 0) 46 = w_ar ws (n_v vs 0) 46 := congrArg v_ad (s1.2 _ _).symm
  have cr_0_46 := fdq_190 hD hth r0
  have ad_14 : v_ad (n_v vs 14) = w_ar ws (n_v vs 0) 46 := (congrArg v_ad f9).trans ar_0_46_1
  have ad_11 : v_ad (n_v vs 11) = w_ar ws (n_v vs 0) 41 := (congrArg v_ad f11).trans ar_0_41_1
  simp only [ad_14] at f8
  have h8 : v_iv (n_v vs 15) = w_ei w1 (w_ar ws (n_v vs 0) 46) (v_iv (n_v vs 7)) := f8
  have g13 : v_iv (n_v vs 10) = w_fi w1 (n_v vs 0) 45 := congrArg v_iv f13
  simp only [ar_0_33_1, ar_0_34_1, ar_0_17_1, ar_0_35_1, ar_0_40_1, ar_0_41_1, ar_0_42_1, ar_0_43_1, ar_0_46_1] at f19
  have fe_0_31_1 : w_fi ws (n_v vs 0) 31 = w_fi w1 (n_v vs 0) 31 := congrArg v_iv (s1.2 _ _)
  have fe_0_32_1 : w_fi ws (n_v vs 0) 32 = w_fi w1 (n_v vs 0) 32 := congrArg v_iv (s1.2 _ _)
  have fe_0_45_1 : w_fi ws (n_v vs 0) 45 = w_fi w1 (n_v vs 0) 45 := congrArg v_iv (s1.2 _ _)
  have fe_0_49_1 : w_fi ws (n_v vs 0) 49 = w_fi w1 (n_v vs 0) 49 := congrArg v_iv (s1.2 _ _)
  have hE_0_17_1 : ∀ j : Int, w_ei ws (w_ar ws (n_v vs 0) 17) j = w_ei w1 (w_ar ws (n_v vs 0) 17) j := el_kp s1.1 r11 cr_0_17 (by decide)
  have hE_0_33_1 : ∀ j : Int, w_ei ws (w_ar ws (n_v vs 0) 33) j = w_ei w1 (w_ar ws (n_v vs 0) 33) j := el_kp s1.1 r11 cr_0_33 (by decide)
  have hE_0_34_1 : ∀ j : Int, w_ei ws (w_ar ws (n_v vs 0) 34) j = w_ei w1 (w_ar ws (n_v vs 0) 34) j := el_kp s1.1 r11 cr_0_34 (by decide)
  have hE_0_35_1 : ∀ j : Int, w_ei ws (w_ar ws (n_v vs 0) 35) j = w_ei w1 (w_ar ws (n_v vs 0) 35) j := el_kp s1.1 r11 cr_0_35 (by decide)
  have hE_0_40_1 : ∀ j : Int, w_ei ws (w_ar ws (n_v vs 0) 40) j = w_ei w1 (w_ar ws (n_v vs 0) 40) j := el_kp s1.1 r11 cr_0_40 (by decide)
  have hE_0_41_1 : ∀ j : Int, 0 ≤ j → (j = v_iv (n_v vs 13) → w_ei ws (w_ar ws (n_v vs 0) 41) j = v_iv (n_v vs 15)) ∧ (j ≠ v_iv (n_v vs 13) → w_ei ws (w_ar ws (n_v vs 0) 41) j = w_ei w1 (w_ar ws (n_v vs 0) 41) j) := fun j hj => ⟨fun h => by unfold w_ei; rw [s1.1, if_pos ⟨ad_11.symm, by rw [h]⟩], fun h => by unfold w_ei; rw [s1.1, if_neg (fun e => h (by have := e.2; omega))]⟩
  have hE_0_42_1 : ∀ j : Int, w_ei ws (w_ar ws (n_v vs 0) 42) j = w_ei w1 (w_ar ws (n_v vs 0) 42) j := el_kp s1.1 r11 cr_0_42 (by decide)
  have hE_0_43_1 : ∀ j : Int, w_ei ws (w_ar ws (n_v vs 0) 43) j = w_ei w1 (w_ar ws (n_v vs 0) 43) j := el_kp s1.1 r11 cr_0_43 (by decide)
  have hE_0_46_1 : ∀ j : Int, w_ei ws (w_ar ws (n_v vs 0) 46) j = w_ei w1 (w_ar ws (n_v vs 0) 46) j := el_kp s1.1 r11 cr_0_46 (by decide)
  have kz_0_31 := fdq_145 hD hth r0
  have kz_0_32 := fdq_140 hD hth r0
  have kz_0_45 := fdq_191 hD hth r0
  have kz_0_49 := fdq_146 hD hth r0
  have nf0 : fc_1 PRD (20, [3, 4, 5, 16], [60, 3, 9, 164, 31, 32, 45, 33, 34, 35, 17, 43, 42, 46, 40, 41]) ws (vs) := by
    refine ⟨nf_in hl rfl, sgq_1975 ?_⟩
    · show R1 (w_fi ws (n_v vs 3) 31) (w_fi ws (n_v vs 3) 32) (w_fi ws (n_v vs 3) 45) (w_ei ws (w_ar ws (n_v vs 3) 33)) (w_ei ws (w_ar ws (n_v vs 3) 34)) (w_ei ws (w_ar ws (n_v vs 3) 35)) (w_ei ws (w_ar ws (n_v vs 3) 17)) (w_ei ws (w_ar ws (n_v vs 3) 43)) (w_ei ws (w_ar ws (n_v vs 3) 42)) (w_ei ws (w_ar ws (n_v vs 3) 46)) (w_ei ws (w_ar ws (n_v vs 3) 40)) (w_ei ws (w_ar ws (n_v vs 3) 41)) (v_iv (n_v vs 4)) (v_iv (n_v vs 5)) (v_iv (n_v vs 16))
      simp only [q3, q4]
      exact vc_Mo_draws_18_0 (v_iv (n_v vs 1)) (v_iv (n_v vs 5)) (v_iv (n_v vs 7)) (v_iv (n_v vs 9)) (v_iv (n_v vs 10)) (v_iv (n_v vs 13)) (v_iv (n_v vs 15)) (v_iv (n_v vs 16)) (w_ei ws (w_ar ws (n_v vs 0) 33)) (w_ei ws (w_ar ws (n_v vs 0) 34)) (w_fi ws (n_v vs 0) 31) (w_fi ws (n_v vs 0) 32) (w_ei ws (w_ar ws (n_v vs 0) 35)) (w_ei ws (w_ar ws (n_v vs 0) 17)) (w_fi ws (n_v vs 0) 49) (w_ei w1 (w_ar ws (n_v vs 0) 46)) (w_fi w1 (n_v vs 0) 45) (w_ei w1 (w_ar ws (n_v vs 0) 33)) (w_ei w1 (w_ar ws (n_v vs 0) 34)) (w_fi w1 (n_v vs 0) 31) (w_fi w1 (n_v vs 0) 32) (w_ei w1 (w_ar ws (n_v vs 0) 35)) (w_ei w1 (w_ar ws (n_v vs 0) 17)) (w_fi w1 (n_v vs 0) 49) (w_ei w1 (w_ar ws (n_v vs 0) 43)) (w_ei w1 (w_ar ws (n_v vs 0) 42)) (w_ei w1 (w_ar ws (n_v vs 0) 40)) (w_ei w1 (w_ar ws (n_v vs 0) 41)) (w_fi ws (n_v vs 0) 45) (w_ei ws (w_ar ws (n_v vs 0) 40)) (w_ei ws (w_ar ws (n_v vs 0) 41)) (w_ei ws (w_ar ws (n_v vs 0) 42)) (w_ei ws (w_ar ws (n_v vs 0) 43)) (w_ei ws (w_ar ws (n_v vs 0) 46)) k1 k5 k7 k9 k10 k13 k15 k16 d0 d1 d2 d3 f0 h8 g13 f19 fe_0_31_1 fe_0_32_1 fe_0_45_1 fe_0_49_1 hE_0_17_1 hE_0_33_1 hE_0_34_1 hE_0_35_1 hE_0_40_1 hE_0_41_1 hE_0_42_1 hE_0_43_1 hE_0_46_1 kz_0_31 kz_0_32 kz_0_45 kz_0_49
  refine ⟨(fun _ h => (by cases h)), [], trivial, ?_, (fun _ h => (by cases h))⟩
  rw [List.append_nil]
  exact List.forall_mem_cons.mpr ⟨⟨show (20 : Nat) < 100 from by decide, nf0⟩, (fun _ h => (by cases h))⟩
set_option maxHeartbeats 4000000 in
theorem vc_Mo_draws_19_0 (x1 : Int) (x4 : Int) (pt_0 : Int → Int) (ph_0 : Int → Int) (pn_0 : Int) (pm_0 : Int) (alive_0 : Int → Int) (blockOf_0 : Int → Int) (onlyPiece_0 : Int) (drawnEdge_0 : Int → Int) (drawnNode_0 : Int → Int) (way_0 : Int → Int) (faceMany_0 : Int → Int) (face_0 : Int → Int) (wayMany_0 : Int) (wayMany_1 : Int) (pt_1 : Int → Int) (ph_1 : Int → Int) (pn_1 : Int) (pm_1 : Int) (alive_1 : Int → Int) (blockOf_1 : Int → Int) (onlyPiece_1 : Int) (drawnEdge_1 : Int → Int) (drawnNode_1 : Int → Int) (way_1 : Int → Int) (faceMany_1 : Int → Int) (face_1 : Int → Int) (gx : Int) (k1 : 0 ≤ x1 ∧ x1 ≤ 79) (k4 : 0 ≤ x4 ∧ x4 ≤ 79) (d1 : x4 + (-4294967296) ≤ x1 ∧ x1 ≤ x4 + 0) (d2 : x1 + (-4294967296) ≤ x4 ∧ x4 ≤ x1 + 0) (fe_0_31_1 : pn_0 = pn_1) (fe_0_32_1 : pm_0 = pm_1) (fe_0_45_1 : wayMany_0 = wayMany_1) (fe_0_49_1 : onlyPiece_0 = onlyPiece_1) (hE_0_17_1 : ∀ j : Int, blockOf_0 j = blockOf_1 j) (hE_0_33_1 : ∀ j : Int, pt_0 j = pt_1 j) (hE_0_34_1 : ∀ j : Int, ph_0 j = ph_1 j) (hE_0_35_1 : ∀ j : Int, alive_0 j = alive_1 j) (hE_0_40_1 : ∀ j : Int, faceMany_0 j = faceMany_1 j) (hE_0_41_1 : ∀ j : Int, face_0 j = face_1 j) (hE_0_42_1 : ∀ j : Int, drawnNode_0 j = drawnNode_1 j) (hE_0_43_1 : ∀ j : Int, drawnEdge_0 j = drawnEdge_1 j) (hE_0_46_1 : ∀ j : Int, way_0 j = way_1 j) (kz_0_31 : 0 ≤ pn_0 ∧ pn_0 ≤ 25) (kz_0_32 : 0 ≤ pm_0 ∧ pm_0 ≤ 80) (kz_0_45 : 0 ≤ wayMany_0 ∧ wayMany_0 ≤ 30) (kz_0_49 : (-1) ≤ onlyPiece_0 ∧ onlyPiece_0 ≤ 79) (ex2 : gx = x1) : 1 * gx + ((-1) * x1 + 0) ≤ 0 := by
  subst fe_0_31_1
  subst fe_0_32_1
  subst fe_0_45_1
  subst fe_0_49_1
  have e_hE_0_17_1 := funext hE_0_17_1; subst e_hE_0_17_1
  have e_hE_0_33_1 := funext hE_0_33_1; subst e_hE_0_33_1
  have e_hE_0_34_1 := funext hE_0_34_1; subst e_hE_0_34_1
  have e_hE_0_35_1 := funext hE_0_35_1; subst e_hE_0_35_1
  have e_hE_0_40_1 := funext hE_0_40_1; subst e_hE_0_40_1
  have e_hE_0_41_1 := funext hE_0_41_1; subst e_hE_0_41_1
  have e_hE_0_42_1 := funext hE_0_42_1; subst e_hE_0_42_1
  have e_hE_0_43_1 := funext hE_0_43_1; subst e_hE_0_43_1
  have e_hE_0_46_1 := funext hE_0_46_1; subst e_hE_0_46_1
  first | omega
set_option maxHeartbeats 4000000 in
theorem vc_Mo_draws_19_1 (x1 : Int) (x4 : Int) (pt_0 : Int → Int) (ph_0 : Int → Int) (pn_0 : Int) (pm_0 : Int) (alive_0 : Int → Int) (blockOf_0 : Int → Int) (onlyPiece_0 : Int) (drawnEdge_0 : Int → Int) (drawnNode_0 : Int → Int) (way_0 : Int → Int) (faceMany_0 : Int → Int) (face_0 : Int → Int) (wayMany_0 : Int) (wayMany_1 : Int) (pt_1 : Int → Int) (ph_1 : Int → Int) (pn_1 : Int) (pm_1 : Int) (alive_1 : Int → Int) (blockOf_1 : Int → Int) (onlyPiece_1 : Int) (drawnEdge_1 : Int → Int) (drawnNode_1 : Int → Int) (way_1 : Int → Int) (faceMany_1 : Int → Int) (face_1 : Int → Int) (gx : Int) (k1 : 0 ≤ x1 ∧ x1 ≤ 79) (k4 : 0 ≤ x4 ∧ x4 ≤ 79) (d1 : x4 + (-4294967296) ≤ x1 ∧ x1 ≤ x4 + 0) (d2 : x1 + (-4294967296) ≤ x4 ∧ x4 ≤ x1 + 0) (fe_0_31_1 : pn_0 = pn_1) (fe_0_32_1 : pm_0 = pm_1) (fe_0_45_1 : wayMany_0 = wayMany_1) (fe_0_49_1 : onlyPiece_0 = onlyPiece_1) (hE_0_17_1 : ∀ j : Int, blockOf_0 j = blockOf_1 j) (hE_0_33_1 : ∀ j : Int, pt_0 j = pt_1 j) (hE_0_34_1 : ∀ j : Int, ph_0 j = ph_1 j) (hE_0_35_1 : ∀ j : Int, alive_0 j = alive_1 j) (hE_0_40_1 : ∀ j : Int, faceMany_0 j = faceMany_1 j) (hE_0_41_1 : ∀ j : Int, face_0 j = face_1 j) (hE_0_42_1 : ∀ j : Int, drawnNode_0 j = drawnNode_1 j) (hE_0_43_1 : ∀ j : Int, drawnEdge_0 j = drawnEdge_1 j) (hE_0_46_1 : ∀ j : Int, way_0 j = way_1 j) (kz_0_31 : 0 ≤ pn_0 ∧ pn_0 ≤ 25) (kz_0_32 : 0 ≤ pm_0 ∧ pm_0 ≤ 80) (kz_0_45 : 0 ≤ wayMany_0 ∧ wayMany_0 ≤ 30) (kz_0_49 : (-1) ≤ onlyPiece_0 ∧ onlyPiece_0 ≤ 79) (ex2 : gx = x1) : (-1) * gx + (1 * x1 + 0) ≤ 0 := by
  subst fe_0_31_1
  subst fe_0_32_1
  subst fe_0_45_1
  subst fe_0_49_1
  have e_hE_0_17_1 := funext hE_0_17_1; subst e_hE_0_17_1
  have e_hE_0_33_1 := funext hE_0_33_1; subst e_hE_0_33_1
  have e_hE_0_34_1 := funext hE_0_34_1; subst e_hE_0_34_1
  have e_hE_0_35_1 := funext hE_0_35_1; subst e_hE_0_35_1
  have e_hE_0_40_1 := funext hE_0_40_1; subst e_hE_0_40_1
  have e_hE_0_41_1 := funext hE_0_41_1; subst e_hE_0_41_1
  have e_hE_0_42_1 := funext hE_0_42_1; subst e_hE_0_42_1
  have e_hE_0_43_1 := funext hE_0_43_1; subst e_hE_0_43_1
  have e_hE_0_46_1 := funext hE_0_46_1; subst e_hE_0_46_1
  first | omega
set_option maxHeartbeats 4000000 in
theorem vc_Mo_draws_19_2 (pt_0 : Int → Int) (ph_0 : Int → Int) (pn_0 : Int) (pm_0 : Int) (alive_0 : Int → Int) (blockOf_0 : Int → Int) (onlyPiece_0 : Int) (drawnEdge_0 : Int → Int) (drawnNode_0 : Int → Int) (way_0 : Int → Int) (faceMany_0 : Int → Int) (face_0 : Int → Int) (wayMany_0 : Int) (wayMany_1 : Int) (pt_1 : Int → Int) (ph_1 : Int → Int) (pn_1 : Int) (pm_1 : Int) (alive_1 : Int → Int) (blockOf_1 : Int → Int) (onlyPiece_1 : Int) (drawnEdge_1 : Int → Int) (drawnNode_1 : Int → Int) (way_1 : Int → Int) (faceMany_1 : Int → Int) (face_1 : Int → Int) (f10 : GOK (pn_1) (pm_1) (pt_1) (ph_1)) (fe_0_31_1 : pn_0 = pn_1) (fe_0_32_1 : pm_0 = pm_1) (fe_0_45_1 : wayMany_0 = wayMany_1) (fe_0_49_1 : onlyPiece_0 = onlyPiece_1) (hE_0_17_1 : ∀ j : Int, blockOf_0 j = blockOf_1 j) (hE_0_33_1 : ∀ j : Int, pt_0 j = pt_1 j) (hE_0_34_1 : ∀ j : Int, ph_0 j = ph_1 j) (hE_0_35_1 : ∀ j : Int, alive_0 j = alive_1 j) (hE_0_40_1 : ∀ j : Int, faceMany_0 j = faceMany_1 j) (hE_0_41_1 : ∀ j : Int, face_0 j = face_1 j) (hE_0_42_1 : ∀ j : Int, drawnNode_0 j = drawnNode_1 j) (hE_0_43_1 : ∀ j : Int, drawnEdge_0 j = drawnEdge_1 j) (hE_0_46_1 : ∀ j : Int, way_0 j = way_1 j) (kz_0_31 : 0 ≤ pn_0 ∧ pn_0 ≤ 25) (kz_0_32 : 0 ≤ pm_0 ∧ pm_0 ≤ 80) (kz_0_45 : 0 ≤ wayMany_0 ∧ wayMany_0 ≤ 30) (kz_0_49 : (-1) ≤ onlyPiece_0 ∧ onlyPiece_0 ≤ 79) : GOK (pn_0) (pm_0) (pt_0) (ph_0) := by
  subst fe_0_31_1
  subst fe_0_32_1
  subst fe_0_45_1
  subst fe_0_49_1
  have e_hE_0_17_1 := funext hE_0_17_1; subst e_hE_0_17_1
  have e_hE_0_33_1 := funext hE_0_33_1; subst e_hE_0_33_1
  have e_hE_0_34_1 := funext hE_0_34_1; subst e_hE_0_34_1
  have e_hE_0_35_1 := funext hE_0_35_1; subst e_hE_0_35_1
  have e_hE_0_40_1 := funext hE_0_40_1; subst e_hE_0_40_1
  have e_hE_0_41_1 := funext hE_0_41_1; subst e_hE_0_41_1
  have e_hE_0_42_1 := funext hE_0_42_1; subst e_hE_0_42_1
  have e_hE_0_43_1 := funext hE_0_43_1; subst e_hE_0_43_1
  have e_hE_0_46_1 := funext hE_0_46_1; subst e_hE_0_46_1
  first | assumption
set_option maxHeartbeats 4000000 in
theorem vc_Mo_draws_19_3 (x1 : Int) (x5 : Int) (x7 : Int) (x8 : Int) (x9 : Int) (pt_0 : Int → Int) (ph_0 : Int → Int) (pn_0 : Int) (pm_0 : Int) (alive_0 : Int → Int) (blockOf_0 : Int → Int) (onlyPiece_0 : Int) (drawnEdge_0 : Int → Int) (drawnNode_0 : Int → Int) (way_0 : Int → Int) (faceMany_0 : Int → Int) (face_0 : Int → Int) (wayMany_0 : Int) (wayMany_1 : Int) (pt_1 : Int → Int) (ph_1 : Int → Int) (pn_1 : Int) (pm_1 : Int) (alive_1 : Int → Int) (blockOf_1 : Int → Int) (onlyPiece_1 : Int) (drawnEdge_1 : Int → Int) (drawnNode_1 : Int → Int) (way_1 : Int → Int) (faceMany_1 : Int → Int) (face_1 : Int → Int) (faces_0 : Int) (gx : Int) (k1 : 0 ≤ x1 ∧ x1 ≤ 79) (k5 : 0 ≤ x5 ∧ x5 ≤ 79) (k7 : 1 ≤ x7 ∧ x7 ≤ 30) (k8 : 0 ≤ x8 ∧ x8 ≤ 30) (k9 : 2 ≤ x9 ∧ x9 ≤ 2) (d0 : x8 + 0 ≤ x7 ∧ x7 ≤ x8 + 4294967296) (g9 : x8 = wayMany_1) (f14 : R2 (pn_1) (pm_1) (wayMany_1) (pt_1) (ph_1) (alive_1) (blockOf_1) (drawnEdge_1) (drawnNode_1) (way_1) (faceMany_1) (face_1) (x1) (x5) (x7)) (fe_0_31_1 : pn_0 = pn_1) (fe_0_32_1 : pm_0 = pm_1) (fe_0_39_1 : faces_0 = x9) (fe_0_45_1 : wayMany_0 = wayMany_1) (fe_0_49_1 : onlyPiece_0 = onlyPiece_1) (hE_0_17_1 : ∀ j : Int, blockOf_0 j = blockOf_1 j) (hE_0_33_1 : ∀ j : Int, pt_0 j = pt_1 j) (hE_0_34_1 : ∀ j : Int, ph_0 j = ph_1 j) (hE_0_35_1 : ∀ j : Int, alive_0 j = alive_1 j) (hE_0_40_1 : ∀ j : Int, faceMany_0 j = faceMany_1 j) (hE_0_41_1 : ∀ j : Int, face_0 j = face_1 j) (hE_0_42_1 : ∀ j : Int, drawnNode_0 j = drawnNode_1 j) (hE_0_43_1 : ∀ j : Int, drawnEdge_0 j = drawnEdge_1 j) (hE_0_46_1 : ∀ j : Int, way_0 j = way_1 j) (kz_0_31 : 0 ≤ pn_0 ∧ pn_0 ≤ 25) (kz_0_32 : 0 ≤ pm_0 ∧ pm_0 ≤ 80) (kz_0_39 : 0 ≤ faces_0 ∧ faces_0 ≤ 120) (kz_0_45 : 0 ≤ wayMany_0 ∧ wayMany_0 ≤ 30) (kz_0_49 : (-1) ≤ onlyPiece_0 ∧ onlyPiece_0 ≤ 79) (ex2 : gx = x1) : DWP (pn_0) (pm_0) (faces_0) (wayMany_0) (pt_0) (ph_0) (alive_0) (blockOf_0) (drawnEdge_0) (drawnNode_0) (faceMany_0) (face_0) (way_0) (gx) := by
  subst fe_0_31_1
  subst fe_0_32_1
  subst fe_0_45_1
  subst fe_0_49_1
  have e_hE_0_17_1 := funext hE_0_17_1; subst e_hE_0_17_1
  have e_hE_0_33_1 := funext hE_0_33_1; subst e_hE_0_33_1
  have e_hE_0_34_1 := funext hE_0_34_1; subst e_hE_0_34_1
  have e_hE_0_35_1 := funext hE_0_35_1; subst e_hE_0_35_1
  have e_hE_0_40_1 := funext hE_0_40_1; subst e_hE_0_40_1
  have e_hE_0_41_1 := funext hE_0_41_1; subst e_hE_0_41_1
  have e_hE_0_42_1 := funext hE_0_42_1; subst e_hE_0_42_1
  have e_hE_0_43_1 := funext hE_0_43_1; subst e_hE_0_43_1
  have e_hE_0_46_1 := funext hE_0_46_1; subst e_hE_0_46_1
  have h := r2_dwp (faces := faces_0) ‹R2 _ _ _ _ _ _ _ _ _ _ _ _ _ _ _› (by omega) (by omega) (by omega) (by omega) (by omega)
  first | exact h | (rw [ex2]; exact h)
def o_Mo_draws_19 : or_T := (293, 10, [(0, (2, 0, 0, [165])), (1, (0, 0, 79, [])), (4, (0, 0, 79, [])), (5, (0, 0, 79, [])), (7, (0, 1, 30, [])), (8, (0, 0, 30, [])), (9, (0, 2, 2, []))], [(24, [0, 3], []), (24, [1, 4], []), (101, [3, 9], [39]), (9, [8, 3], [45]), (20, [3], [60, 2, 2, 75, 31, 32, 33, 34]), (20, [3, 4, 5, 7], [60, 3, 9, 165, 31, 32, 45, 33, 34, 35, 17, 43, 42, 46, 40, 41])], [], [(0, 0, 79, [])], [(23, [10, 4], [0, 1, -1]), (23, [10, 4], [0, -1, 1]), (20, [3], [60, 2, 2, 75, 31, 32, 33, 34]), (20, [3, 10], [60, 4, 9, 152, 31, 32, 39, 45, 33, 34, 35, 17, 43, 42, 40, 41, 46])], [], [(7, 8, 0, 4294967296), (1, 4, -4294967296, 0), (4, 1, -4294967296, 0)])
theorem oo_Mo_draws_19 {kA : Nat → ClassId} : or_ok PRD kA GG o_Mo_draws_19 := by
  refine or_mk fun A ta ws vs hD hth hl => ?_
  intro t0 r0 t1 k1 t4 k4 t5 k5 t7 k7 t8 k8 t9 k9 d0 d1 d2 f5 f6 ta1 w1 le1 s1 f9 f10 f14
  replace f5 := shm_5 f5
  replace f6 := shm_5 f6
  have s1 : (∀ b j, w_el ws b j = w_el w1 b j) ∧ ∀ b j, w_fd ws b j = if b = v_ad (n_v vs 3) ∧ j = 39 then n_v vs 9 else w_fd w1 b j := s1.2
  replace f9 := shm_741 f9
  replace f10 := shm_575 f10
  replace f14 := shm_1977 f14
  have q3 : n_v vs 3 = n_v vs 0 := f5.symm
  have q4 : n_v vs 4 = n_v vs 1 := f6.symm
  rw [q3] at s1
  simp only [q3, q4] at f9 f10 f14
  have ar_0_17_1 : w_ar w1 (n_v vs 0) 17 = w_ar ws (n_v vs 0) 17 := by show v_ad (w_fd w1 _ _) = v_ad (w_fd ws _ _); rw [s1.2, if_neg (fun e => absurd e.2 (by decide))]
  have ar_0_33_1 : w_ar w1 (n_v vs 0) 33 = w_ar ws (n_v vs 0) 33 := by show v_ad (w_fd w1 _ _) = v_ad (w_fd ws _ _); rw [s1.2, if_neg (fun e => absurd e.2 (by decide))]
  have ar_0_34_1 : w_ar w1 (n_v vs 0) 34 = w_ar ws (n_v vs 0) 34 := by show v_ad (w_fd w1 _ _) = v_ad (w_fd ws _ _); rw [s1.2, if_neg (fun e => absurd e.2 (by decide))]
  have ar_0_35_1 : w_ar w1 (n_v vs 0) 35 = w_ar ws (n_v vs 0) 35 := by show v_ad (w_fd w1 _ _) = v_ad (w_fd ws _ _); rw [s1.2, if_neg (fun e => absurd e.2 (by decide))]
  have ar_0_40_1 : w_ar w1 (n_v vs 0) 40 = w_ar ws (n_v vs 0) 40 := by show v_ad (w_fd w1 _ _) = v_ad (w_fd ws _ _); rw [s1.2, if_neg (fun e => absurd e.2 (by decide))]
  have ar_0_41_1 : w_ar w1 (n_v vs 0) 41 = w_ar ws (n_v vs 0) 41 := by show v_ad (w_fd w1 _ _) = v_ad (w_fd ws _ _); rw [s1.2, if_neg (fun e => absurd e.2 (by decide))]
  have ar_0_42_1 : w_ar w1 (n_v vs 0) 42 = w_ar ws (n_v vs 0) 42 := by show v_ad (w_fd w1 _ _) = v_ad (w_fd ws _ _); rw [s1.2, if_neg (fun e => absurd e.2 (by decide))]
  have ar_0_43_1 : w_ar w1 (n_v vs 0) 43 = w_ar ws (n_v vs 0) 43 := by show v_ad (w_fd w1 _ _) = v_ad (w_fd ws _ _); rw [s1.2, if_neg (fun e => absurd e.2 (by decide))]
  have ar_0_46_1 : w_ar w1 (n_v vs 0) 46 = w_ar ws (n_v vs 0) 46 := by show v_ad (w_fd w1 _ _) = v_ad (w_fd ws _ _); rw [s1.2, if_neg (fun e => absurd e.2 (by decide))]
  have g9 : v_iv (n_v vs 8) = w_fi w1 (n_v vs 0) 45 := congrArg v_iv f9
  simp only [ar_0_33_1, ar_0_34_1, ar_0_17_1, ar_0_35_1, ar_0_40_1, ar_0_41_1, ar_0_42_1, ar_0_43_1, ar_0_46_1] at f10 f14
  have fe_0_31_1 : w_fi ws (n_v vs 0) 31 = w_fi w1 (n_v vs 0) 31 := by show v_iv (w_fd _ _ _) = v_iv (w_fd _ _ _); rw [s1.2, if_neg (fun e => absurd e.2 (by decide))]
  have fe_0_32_1 : w_fi ws (n_v vs 0) 32 = w_fi w1 (n_v vs 0) 32 := by show v_iv (w_fd _ _ _) = v_iv (w_fd _ _ _); rw [s1.2, if_neg (fun e => absurd e.2 (by decide))]
  have fe_0_39_1 : w_fi ws (n_v vs 0) 39 = v_iv (n_v vs 9) := by show v_iv (w_fd _ _ _) = _; rw [s1.2, if_pos ⟨rfl, rfl⟩]
  have fe_0_45_1 : w_fi ws (n_v vs 0) 45 = w_fi w1 (n_v vs 0) 45 := by show v_iv (w_fd _ _ _) = v_iv (w_fd _ _ _); rw [s1.2, if_neg (fun e => absurd e.2 (by decide))]
  have fe_0_49_1 : w_fi ws (n_v vs 0) 49 = w_fi w1 (n_v vs 0) 49 := by show v_iv (w_fd _ _ _) = v_iv (w_fd _ _ _); rw [s1.2, if_neg (fun e => absurd e.2 (by decide))]
  have hE_0_17_1 : ∀ j : Int, w_ei ws (w_ar ws (n_v vs 0) 17) j = w_ei w1 (w_ar ws (n_v vs 0) 17) j := fun j => s1.1 _ _
  have hE_0_33_1 : ∀ j : Int, w_ei ws (w_ar ws (n_v vs 0) 33) j = w_ei w1 (w_ar ws (n_v vs 0) 33) j := fun j => s1.1 _ _
  have hE_0_34_1 : ∀ j : Int, w_ei ws (w_ar ws (n_v vs 0) 34) j = w_ei w1 (w_ar ws (n_v vs 0) 34) j := fun j => s1.1 _ _
  have hE_0_35_1 : ∀ j : Int, w_ei ws (w_ar ws (n_v vs 0) 35) j = w_ei w1 (w_ar ws (n_v vs 0) 35) j := fun j => s1.1 _ _
  have hE_0_40_1 : ∀ j : Int, w_ei ws (w_ar ws (n_v vs 0) 40) j = w_ei w1 (w_ar ws (n_v vs 0) 40) j := fun j => s1.1 _ _
  have hE_0_41_1 : ∀ j : Int, w_ei ws (w_ar ws (n_v vs 0) 41) j = w_ei w1 (w_ar ws (n_v vs 0) 41) j := fun j => s1.1 _ _
  have hE_0_42_1 : ∀ j : Int, w_ei ws (w_ar ws (n_v vs 0) 42) j = w_ei w1 (w_ar ws (n_v vs 0) 42) j := fun j => s1.1 _ _
  have hE_0_43_1 : ∀ j : Int, w_ei ws (w_ar ws (n_v vs 0) 43) j = w_ei w1 (w_ar ws (n_v vs 0) 43) j := fun j => s1.1 _ _
  have hE_0_46_1 : ∀ j : Int, w_ei ws (w_ar ws (n_v vs 0) 46) j = w_ei w1 (w_ar ws (n_v vs 0) 46) j := fun j => s1.1 _ _
  have kz_0_31 := fdq_145 hD hth r0
  have kz_0_32 := fdq_140 hD hth r0
  have kz_0_39 := fdq_135 hD hth r0
  have kz_0_45 := fdq_191 hD hth r0
  have kz_0_49 := fdq_146 hD hth r0
  obtain ⟨x, ex, hx⟩ := iv_ex (ta := ta) (lo := 0) (hi := 79) (z := v_iv (n_v vs 1)) (by omega) (by omega) (by omega) (by omega)
  have ex2 : v_iv (Value.int x) = v_iv (n_v vs 1) := ex
  have ex3 : 0 ≤ v_iv (Value.int x) ∧ v_iv (Value.int x) ≤ 79 := tv_rng hx
  have e_3 : n_v (vs ++ [Value.int x]) 3 = n_v vs 3 := n_v_old (by rw [hl]; decide)
  have e_4 : n_v (vs ++ [Value.int x]) 4 = n_v vs 4 := n_v_old (by rw [hl]; decide)
  have e_10 : n_v (vs ++ [Value.int x]) 10 = Value.int x := n_v_new hl
  have nf0 : fc_1 PRD (23, [10, 4], [0, 1, -1]) ws (vs ++ [Value.int x]) := by
    refine ⟨nf_inA hl rfl, sgq_7 ?_⟩
    · show 1 * v_iv (n_v (vs ++ [Value.int x]) 10) + ((-1) * v_iv (n_v (vs ++ [Value.int x]) 4) + 0) ≤ 0
      simp only [e_4, e_10, q4]
      exact vc_Mo_draws_19_0 (v_iv (n_v vs 1)) (v_iv (n_v vs 4)) (w_ei ws (w_ar ws (n_v vs 0) 33)) (w_ei ws (w_ar ws (n_v vs 0) 34)) (w_fi ws (n_v vs 0) 31) (w_fi ws (n_v vs 0) 32) (w_ei ws (w_ar ws (n_v vs 0) 35)) (w_ei ws (w_ar ws (n_v vs 0) 17)) (w_fi ws (n_v vs 0) 49) (w_ei ws (w_ar ws (n_v vs 0) 43)) (w_ei ws (w_ar ws (n_v vs 0) 42)) (w_ei ws (w_ar ws (n_v vs 0) 46)) (w_ei ws (w_ar ws (n_v vs 0) 40)) (w_ei ws (w_ar ws (n_v vs 0) 41)) (w_fi ws (n_v vs 0) 45) (w_fi w1 (n_v vs 0) 45) (w_ei w1 (w_ar ws (n_v vs 0) 33)) (w_ei w1 (w_ar ws (n_v vs 0) 34)) (w_fi w1 (n_v vs 0) 31) (w_fi w1 (n_v vs 0) 32) (w_ei w1 (w_ar ws (n_v vs 0) 35)) (w_ei w1 (w_ar ws (n_v vs 0) 17)) (w_fi w1 (n_v vs 0) 49) (w_ei w1 (w_ar ws (n_v vs 0) 43)) (w_ei w1 (w_ar ws (n_v vs 0) 42)) (w_ei w1 (w_ar ws (n_v vs 0) 46)) (w_ei w1 (w_ar ws (n_v vs 0) 40)) (w_ei w1 (w_ar ws (n_v vs 0) 41)) (v_iv (Value.int x)) k1 k4 d1 d2 fe_0_31_1 fe_0_32_1 fe_0_45_1 fe_0_49_1 hE_0_17_1 hE_0_33_1 hE_0_34_1 hE_0_35_1 hE_0_40_1 hE_0_41_1 hE_0_42_1 hE_0_43_1 hE_0_46_1 kz_0_31 kz_0_32 kz_0_45 kz_0_49 ex2
  have nf1 : fc_1 PRD (23, [10, 4], [0, -1, 1]) ws (vs ++ [Value.int x]) := by
    refine ⟨nf_inA hl rfl, sgq_22 ?_⟩
    · show (-1) * v_iv (n_v (vs ++ [Value.int x]) 10) + (1 * v_iv (n_v (vs ++ [Value.int x]) 4) + 0) ≤ 0
      simp only [e_4, e_10, q4]
      exact vc_Mo_draws_19_1 (v_iv (n_v vs 1)) (v_iv (n_v vs 4)) (w_ei ws (w_ar ws (n_v vs 0) 33)) (w_ei ws (w_ar ws (n_v vs 0) 34)) (w_fi ws (n_v vs 0) 31) (w_fi ws (n_v vs 0) 32) (w_ei ws (w_ar ws (n_v vs 0) 35)) (w_ei ws (w_ar ws (n_v vs 0) 17)) (w_fi ws (n_v vs 0) 49) (w_ei ws (w_ar ws (n_v vs 0) 43)) (w_ei ws (w_ar ws (n_v vs 0) 42)) (w_ei ws (w_ar ws (n_v vs 0) 46)) (w_ei ws (w_ar ws (n_v vs 0) 40)) (w_ei ws (w_ar ws (n_v vs 0) 41)) (w_fi ws (n_v vs 0) 45) (w_fi w1 (n_v vs 0) 45) (w_ei w1 (w_ar ws (n_v vs 0) 33)) (w_ei w1 (w_ar ws (n_v vs 0) 34)) (w_fi w1 (n_v vs 0) 31) (w_fi w1 (n_v vs 0) 32) (w_ei w1 (w_ar ws (n_v vs 0) 35)) (w_ei w1 (w_ar ws (n_v vs 0) 17)) (w_fi w1 (n_v vs 0) 49) (w_ei w1 (w_ar ws (n_v vs 0) 43)) (w_ei w1 (w_ar ws (n_v vs 0) 42)) (w_ei w1 (w_ar ws (n_v vs 0) 46)) (w_ei w1 (w_ar ws (n_v vs 0) 40)) (w_ei w1 (w_ar ws (n_v vs 0) 41)) (v_iv (Value.int x)) k1 k4 d1 d2 fe_0_31_1 fe_0_32_1 fe_0_45_1 fe_0_49_1 hE_0_17_1 hE_0_33_1 hE_0_34_1 hE_0_35_1 hE_0_40_1 hE_0_41_1 hE_0_42_1 hE_0_43_1 hE_0_46_1 kz_0_31 kz_0_32 kz_0_45 kz_0_49 ex2
  have nf2 : fc_1 PRD (20, [3], [60, 2, 2, 75, 31, 32, 33, 34]) ws (vs ++ [Value.int x]) := by
    refine ⟨nf_inA hl rfl, sgq_575 ?_⟩
    · show GOK (w_fi ws (n_v (vs ++ [Value.int x]) 3) 31) (w_fi ws (n_v (vs ++ [Value.int x]) 3) 32) (w_ei ws (w_ar ws (n_v (vs ++ [Value.int x]) 3) 33)) (w_ei ws (w_ar ws (n_v (vs ++ [Value.int x]) 3) 34))
      simp only [e_3, q3]
      exact vc_Mo_draws_19_2 (w_ei ws (w_ar ws (n_v vs 0) 33)) (w_ei ws (w_ar ws (n_v vs 0) 34)) (w_fi ws (n_v vs 0) 31) (w_fi ws (n_v vs 0) 32) (w_ei ws (w_ar ws (n_v vs 0) 35)) (w_ei ws (w_ar ws (n_v vs 0) 17)) (w_fi ws (n_v vs 0) 49) (w_ei ws (w_ar ws (n_v vs 0) 43)) (w_ei ws (w_ar ws (n_v vs 0) 42)) (w_ei ws (w_ar ws (n_v vs 0) 46)) (w_ei ws (w_ar ws (n_v vs 0) 40)) (w_ei ws (w_ar ws (n_v vs 0) 41)) (w_fi ws (n_v vs 0) 45) (w_fi w1 (n_v vs 0) 45) (w_ei w1 (w_ar ws (n_v vs 0) 33)) (w_ei w1 (w_ar ws (n_v vs 0) 34)) (w_fi w1 (n_v vs 0) 31) (w_fi w1 (n_v vs 0) 32) (w_ei w1 (w_ar ws (n_v vs 0) 35)) (w_ei w1 (w_ar ws (n_v vs 0) 17)) (w_fi w1 (n_v vs 0) 49) (w_ei w1 (w_ar ws (n_v vs 0) 43)) (w_ei w1 (w_ar ws (n_v vs 0) 42)) (w_ei w1 (w_ar ws (n_v vs 0) 46)) (w_ei w1 (w_ar ws (n_v vs 0) 40)) (w_ei w1 (w_ar ws (n_v vs 0) 41)) f10 fe_0_31_1 fe_0_32_1 fe_0_45_1 fe_0_49_1 hE_0_17_1 hE_0_33_1 hE_0_34_1 hE_0_35_1 hE_0_40_1 hE_0_41_1 hE_0_42_1 hE_0_43_1 hE_0_46_1 kz_0_31 kz_0_32 kz_0_45 kz_0_49
  have nf3 : fc_1 PRD (20, [3, 10], [60, 4, 9, 152, 31, 32, 39, 45, 33, 34, 35, 17, 43, 42, 40, 41, 46]) ws (vs ++ [Value.int x]) := by
    refine ⟨nf_inA hl rfl, sgq_1125 ?_⟩
    · show DWP (w_fi ws (n_v (vs ++ [Value.int x]) 3) 31) (w_fi ws (n_v (vs ++ [Value.int x]) 3) 32) (w_fi ws (n_v (vs ++ [Value.int x]) 3) 39) (w_fi ws (n_v (vs ++ [Value.int x]) 3) 45) (w_ei ws (w_ar ws (n_v (vs ++ [Value.int x]) 3) 33)) (w_ei ws (w_ar ws (n_v (vs ++ [Value.int x]) 3) 34)) (w_ei ws (w_ar ws (n_v (vs ++ [Value.int x]) 3) 35)) (w_ei ws (w_ar ws (n_v (vs ++ [Value.int x]) 3) 17)) (w_ei ws (w_ar ws (n_v (vs ++ [Value.int x]) 3) 43)) (w_ei ws (w_ar ws (n_v (vs ++ [Value.int x]) 3) 42)) (w_ei ws (w_ar ws (n_v (vs ++ [Value.int x]) 3) 40)) (w_ei ws (w_ar ws (n_v (vs ++ [Value.int x]) 3) 41)) (w_ei ws (w_ar ws (n_v (vs ++ [Value.int x]) 3) 46)) (v_iv (n_v (vs ++ [Value.int x]) 10))
      simp only [e_3, e_10, q3]
      exact vc_Mo_draws_19_3 (v_iv (n_v vs 1)) (v_iv (n_v vs 5)) (v_iv (n_v vs 7)) (v_iv (n_v vs 8)) (v_iv (n_v vs 9)) (w_ei ws (w_ar ws (n_v vs 0) 33)) (w_ei ws (w_ar ws (n_v vs 0) 34)) (w_fi ws (n_v vs 0) 31) (w_fi ws (n_v vs 0) 32) (w_ei ws (w_ar ws (n_v vs 0) 35)) (w_ei ws (w_ar ws (n_v vs 0) 17)) (w_fi ws (n_v vs 0) 49) (w_ei ws (w_ar ws (n_v vs 0) 43)) (w_ei ws (w_ar ws (n_v vs 0) 42)) (w_ei ws (w_ar ws (n_v vs 0) 46)) (w_ei ws (w_ar ws (n_v vs 0) 40)) (w_ei ws (w_ar ws (n_v vs 0) 41)) (w_fi ws (n_v vs 0) 45) (w_fi w1 (n_v vs 0) 45) (w_ei w1 (w_ar ws (n_v vs 0) 33)) (w_ei w1 (w_ar ws (n_v vs 0) 34)) (w_fi w1 (n_v vs 0) 31) (w_fi w1 (n_v vs 0) 32) (w_ei w1 (w_ar ws (n_v vs 0) 35)) (w_ei w1 (w_ar ws (n_v vs 0) 17)) (w_fi w1 (n_v vs 0) 49) (w_ei w1 (w_ar ws (n_v vs 0) 43)) (w_ei w1 (w_ar ws (n_v vs 0) 42)) (w_ei w1 (w_ar ws (n_v vs 0) 46)) (w_ei w1 (w_ar ws (n_v vs 0) 40)) (w_ei w1 (w_ar ws (n_v vs 0) 41)) (w_fi ws (n_v vs 0) 39) (v_iv (Value.int x)) k1 k5 k7 k8 k9 d0 g9 f14 fe_0_31_1 fe_0_32_1 fe_0_39_1 fe_0_45_1 fe_0_49_1 hE_0_17_1 hE_0_33_1 hE_0_34_1 hE_0_35_1 hE_0_40_1 hE_0_41_1 hE_0_42_1 hE_0_43_1 hE_0_46_1 kz_0_31 kz_0_32 kz_0_39 kz_0_45 kz_0_49 ex2
  exact ⟨(fun _ h => (by cases h)), [Value.int x], ag_one hx, List.forall_mem_cons.mpr ⟨⟨show (23 : Nat) < 100 from by decide, nf0⟩, List.forall_mem_cons.mpr ⟨⟨show (23 : Nat) < 100 from by decide, nf1⟩, List.forall_mem_cons.mpr ⟨⟨show (20 : Nat) < 100 from by decide, nf2⟩, List.forall_mem_cons.mpr ⟨⟨show (20 : Nat) < 100 from by decide, nf3⟩, (fun _ h => (by cases h))⟩⟩⟩⟩, (fun _ h => (by cases h))⟩
set_option maxHeartbeats 4000000 in
theorem vc_Mo_draws_20_0 (pt_0 : Int → Int) (ph_0 : Int → Int) (pn_0 : Int) (pm_0 : Int) (f3 : GOK (pn_0) (pm_0) (pt_0) (ph_0)) (kz_0_31 : 0 ≤ pn_0 ∧ pn_0 ≤ 25) (kz_0_32 : 0 ≤ pm_0 ∧ pm_0 ≤ 80) : GOK (pn_0) (pm_0) (pt_0) (ph_0) := by
  first | assumption
set_option maxHeartbeats 4000000 in
theorem vc_Mo_draws_20_1 (x2 : Int) (pt_0 : Int → Int) (ph_0 : Int → Int) (pm_0 : Int) (alive_0 : Int → Int) (blockOf_0 : Int → Int) (k2 : 0 ≤ x2 ∧ x2 ≤ 80) (f4 : BK (pm_0) (pt_0) (ph_0) (alive_0) (blockOf_0) (x2)) (kz_0_32 : 0 ≤ pm_0 ∧ pm_0 ≤ 80) : BK (pm_0) (pt_0) (ph_0) (alive_0) (blockOf_0) (x2) := by
  first | assumption
set_option maxHeartbeats 4000000 in
theorem vc_Mo_draws_20_2 (x1 : Int) (x2 : Int) (k1 : 0 ≤ x1 ∧ x1 ≤ 79) (k2 : 0 ≤ x2 ∧ x2 ≤ 80) (f15 : 1 * x1 + ((-1) * x2 + 0) ≤ (-1)) : 1 * x1 + ((-1) * x2 + 0) ≤ (-1) := by
  first | omega
set_option maxHeartbeats 4000000 in
theorem vc_Mo_draws_20_3 (onlyPiece_0 : Int) (f6 : onlyPiece_0 = (-1)) (kz_0_49 : (-1) ≤ onlyPiece_0 ∧ onlyPiece_0 ≤ 79) : onlyPiece_0 = (-1) := by
  first | omega
set_option maxHeartbeats 4000000 in
theorem vc_Mo_draws_20_4 (x1 : Int) (x4 : Int) (x10 : Int) (pt_0 : Int → Int) (ph_0 : Int → Int) (pm_0 : Int) (alive_0 : Int → Int) (blockOf_0 : Int → Int) (drawnEdge_0 : Int → Int) (drawnNode_0 : Int → Int) (faceMany_0 : Int → Int) (face_0 : Int → Int) (faces_0 : Int) (k1 : 0 ≤ x1 ∧ x1 ≤ 79) (k4 : 0 ≤ x4 ∧ x4 ≤ 79) (k10 : 0 ≤ x10 ∧ x10 ≤ 79) (d0 : x4 + (-4294967296) ≤ x1 ∧ x1 ≤ x4 + 0) (d1 : x1 + (-4294967296) ≤ x4 ∧ x4 ≤ x1 + 0) (f0 : 1 * x10 + ((-1) * x1 + 0) ≤ 0) (f1 : (-1) * x10 + (1 * x1 + 0) ≤ 0) (f9 : DWQ (pm_0) (faces_0) (pt_0) (ph_0) (alive_0) (blockOf_0) (drawnEdge_0) (drawnNode_0) (faceMany_0) (face_0) (x10)) (kz_0_32 : 0 ≤ pm_0 ∧ pm_0 ≤ 80) (kz_0_39 : 0 ≤ faces_0 ∧ faces_0 ≤ 120) : DSB (pm_0) (pt_0) (ph_0) (alive_0) (blockOf_0) (drawnEdge_0) (drawnNode_0) (x1) := by
  first
    | assumption
    | (have h := ‹DWQ _ _ _ _ _ _ _ _ _ _ _›
       have e : x10 = x1 := by omega
       rw [e] at h; exact h.1)
set_option maxHeartbeats 4000000 in
theorem vc_Mo_draws_20_5 (x1 : Int) (x4 : Int) (x10 : Int) (pt_0 : Int → Int) (ph_0 : Int → Int) (pm_0 : Int) (alive_0 : Int → Int) (blockOf_0 : Int → Int) (drawnEdge_0 : Int → Int) (drawnNode_0 : Int → Int) (faceMany_0 : Int → Int) (face_0 : Int → Int) (faces_0 : Int) (k1 : 0 ≤ x1 ∧ x1 ≤ 79) (k4 : 0 ≤ x4 ∧ x4 ≤ 79) (k10 : 0 ≤ x10 ∧ x10 ≤ 79) (d0 : x4 + (-4294967296) ≤ x1 ∧ x1 ≤ x4 + 0) (d1 : x1 + (-4294967296) ≤ x4 ∧ x4 ≤ x1 + 0) (f0 : 1 * x10 + ((-1) * x1 + 0) ≤ 0) (f1 : (-1) * x10 + (1 * x1 + 0) ≤ 0) (f9 : DWQ (pm_0) (faces_0) (pt_0) (ph_0) (alive_0) (blockOf_0) (drawnEdge_0) (drawnNode_0) (faceMany_0) (face_0) (x10)) (kz_0_32 : 0 ≤ pm_0 ∧ pm_0 ≤ 80) (kz_0_39 : 0 ≤ faces_0 ∧ faces_0 ≤ 120) : FI (pm_0) (faces_0) (pt_0) (ph_0) (alive_0) (blockOf_0) (drawnEdge_0) (faceMany_0) (face_0) (x1) := by
  first
    | assumption
    | (have h := ‹DWQ _ _ _ _ _ _ _ _ _ _ _›
       have e : x10 = x1 := by omega
       rw [e] at h; exact h.2.1)
set_option maxHeartbeats 4000000 in
theorem vc_Mo_draws_20_6 (x10 : Int) (pt_0 : Int → Int) (ph_0 : Int → Int) (pm_0 : Int) (alive_0 : Int → Int) (blockOf_0 : Int → Int) (drawnEdge_0 : Int → Int) (drawnNode_0 : Int → Int) (faceMany_0 : Int → Int) (face_0 : Int → Int) (faces_0 : Int) (k10 : 0 ≤ x10 ∧ x10 ≤ 79) (f9 : DWQ (pm_0) (faces_0) (pt_0) (ph_0) (alive_0) (blockOf_0) (drawnEdge_0) (drawnNode_0) (faceMany_0) (face_0) (x10)) (kz_0_32 : 0 ≤ pm_0 ∧ pm_0 ≤ 80) (kz_0_39 : 0 ≤ faces_0 ∧ faces_0 ≤ 120) : CZF (pm_0) (faces_0) (drawnEdge_0) := by
  first
    | assumption
    | (have h := ‹DWQ _ _ _ _ _ _ _ _ _ _ _›
       exact h.2.2)
set_option maxHeartbeats 4000000 in
theorem vc_Mo_draws_20_7 (faces_0 : Int) (gx : Int) (kz_0_39 : 0 ≤ faces_0 ∧ faces_0 ≤ 120) (ex2 : gx = 120) : (-1) * faces_0 + ((-1) * gx + 0) ≤ (-120) := by
  first | omega
def o_Mo_draws_20 : or_T := (296, 11, [(0, (2, 0, 0, [165])), (1, (0, 0, 79, [])), (2, (0, 0, 80, [])), (3, (2, 0, 0, [165])), (4, (0, 0, 79, [])), (9, (0, 2, 2, [])), (10, (0, 0, 79, []))], [(23, [10, 4], [0, 1, -1]), (23, [10, 4], [0, -1, 1]), (20, [3], [60, 2, 2, 75, 31, 32, 33, 34]), (20, [3], [60, 2, 2, 75, 31, 32, 33, 34]), (20, [3, 2], [60, 1, 4, 97, 32, 33, 34, 35, 17]), (23, [4, 2], [-1, 1, -1]), (20, [3], [50, 1, 0, 49, 1, 3, 2, 0, 49, 0, -1]), (24, [0, 3], []), (24, [1, 4], []), (20, [3, 10], [60, 2, 8, 154, 32, 39, 33, 34, 35, 17, 43, 42, 40, 41]), (102, [10], [1176956575385002643219210516851437453019191645837006471168]), (23, [10, 4], [0, 1, -1]), (23, [10, 4], [0, -1, 1]), (23, [4, 2], [-1, 1, -1]), (101, [3, 9], [39]), (23, [4, 2], [-1, 1, -1])], [], [(0, -2, 120, [])], [(20, [3], [60, 2, 2, 75, 31, 32, 33, 34]), (20, [3, 2], [60, 1, 4, 97, 32, 33, 34, 35, 17]), (23, [4, 2], [-1, 1, -1]), (20, [3], [50, 1, 0, 49, 1, 3, 2, 0, 49, 0, -1]), (20, [3, 4], [60, 1, 6, 166, 32, 33, 34, 35, 17, 43, 42]), (20, [3, 4], [60, 2, 7, 167, 32, 39, 33, 34, 35, 17, 43, 40, 41]), (20, [3], [60, 2, 1, 168, 32, 39, 43]), (20, [3, 11], [30, -120, -1, 1, 39, -1, 0, 0]), (24, [0, 3], []), (24, [1, 4], [])], [], [(1, 4, -4294967296, 0), (4, 1, -4294967296, 0)])
theorem oo_Mo_draws_20 {kA : Nat → ClassId} : or_ok PRD kA GG o_Mo_draws_20 := by
  refine or_mk fun A ta ws vs hD hth hl => ?_
  intro t0 r0 t1 k1 t2 k2 t3 r3 t4 k4 t9 k9 t10 k10 d0 d1 f0 f1 f2 f3 f4 f5 f6 f7 f8 f9 ta1 w1 le1 s1 f11 f12 f13 ta2 w2 le2 s2 f15
  replace f0 := shm_7 f0
  replace f1 := shm_22 f1
  replace f2 := shm_575 f2
  replace f3 := shm_575 f3
  replace f4 := shm_1544 f4
  replace f5 := shm_193 f5
  replace f6 := shm_1675 f6
  replace f7 := shm_5 f7
  replace f8 := shm_5 f8
  replace f9 := shm_1127 f9
  replace f11 := shm_7 f11
  replace f12 := shm_22 f12
  replace f13 := shm_193 f13
  have s2 : (∀ b j, w_el w1 b j = w_el w2 b j) ∧ ∀ b j, w_fd w1 b j = if b = v_ad (n_v vs 3) ∧ j = 39 then n_v vs 9 else w_fd w2 b j := s2.2
  replace f15 := shm_193 f15
  have q3 : n_v vs 3 = n_v vs 0 := f7.symm
  have q4 : n_v vs 4 = n_v vs 1 := f8.symm
  simp only [q4, q3] at f0 f1 f2 f3 f4 f5 f6 f9 f11 f12 f13
  rw [q3] at s2
  simp only [q4] at f15
  have cr_0_17 := fdq_189 hD hth r0
  have cr_0_33 := fdq_117 hD hth r0
  have cr_0_34 := fdq_118 hD hth r0
  have cr_0_35 := fdq_132 hD hth r0
  have cr_0_40 := fdq_133 hD hth r0
  have cr_0_41 := fdq_134 hD hth r0
  have cr_0_42 := fdq_136 hD hth r0
  have cr_0_43 := fdq_137 hD hth r0
  have hK_0_17 := elq_113 hD hth cr_0_17
  have hK_0_33 := elq_60 hD hth cr_0_33
  have hK_0_34 := elq_61 hD hth cr_0_34
  have hK_0_35 := elq_72 hD hth cr_0_35
  have hK_0_40 := elq_73 hD hth cr_0_40
  have hK_0_41 := elq_74 hD hth cr_0_41
  have hK_0_42 := elq_75 hD hth cr_0_42
  have hK_0_43 := elq_76 hD hth cr_0_43
  have kz_0_31 := fdq_145 hD hth r0
  have kz_0_32 := fdq_140 hD hth r0
  have kz_0_39 := fdq_135 hD hth r0
  have kz_0_49 := fdq_146 hD hth r0
  first | have hz := czf_bd ‹CZF _ _ _› (by omega) | skip
  obtain ⟨x, ex, hx⟩ := iv_ex (ta := ta) (lo := (-2)) (hi := 120) (z := 120) (by omega) (by omega) (by omega) (by omega)
  have ex2 : v_iv (Value.int x) = 120 := ex
  have ex3 : (-2) ≤ v_iv (Value.int x) ∧ v_iv (Value.int x) ≤ 120 := tv_rng hx
  have e_0 : n_v (vs ++ [Value.int x]) 0 = n_v vs 0 := n_v_old (by rw [hl]; decide)
  have e_1 : n_v (vs ++ [Value.int x]) 1 = n_v vs 1 := n_v_old (by rw [hl]; decide)
  have e_2 : n_v (vs ++ [Value.int x]) 2 = n_v vs 2 := n_v_old (by rw [hl]; decide)
  have e_3 : n_v (vs ++ [Value.int x]) 3 = n_v vs 3 := n_v_old (by rw [hl]; decide)
  have e_4 : n_v (vs ++ [Value.int x]) 4 = n_v vs 4 := n_v_old (by rw [hl]; decide)
  have e_11 : n_v (vs ++ [Value.int x]) 11 = Value.int x := n_v_new hl
  have nf0 : fc_1 PRD (20, [3], [60, 2, 2, 75, 31, 32, 33, 34]) ws (vs ++ [Value.int x]) := by
    refine ⟨nf_inA hl rfl, sgq_575 ?_⟩
    · show GOK (w_fi ws (n_v (vs ++ [Value.int x]) 3) 31) (w_fi ws (n_v (vs ++ [Value.int x]) 3) 32) (w_ei ws (w_ar ws (n_v (vs ++ [Value.int x]) 3) 33)) (w_ei ws (w_ar ws (n_v (vs ++ [Value.int x]) 3) 34))
      simp only [e_3, q3]
      exact vc_Mo_draws_20_0 (w_ei ws (w_ar ws (n_v vs 0) 33)) (w_ei ws (w_ar ws (n_v vs 0) 34)) (w_fi ws (n_v vs 0) 31) (w_fi ws (n_v vs 0) 32) f3 kz_0_31 kz_0_32
  have nf1 : fc_1 PRD (20, [3, 2], [60, 1, 4, 97, 32, 33, 34, 35, 17]) ws (vs ++ [Value.int x]) := by
    refine ⟨nf_inA hl rfl, sgq_1544 ?_⟩
    · show BK (w_fi ws (n_v (vs ++ [Value.int x]) 3) 32) (w_ei ws (w_ar ws (n_v (vs ++ [Value.int x]) 3) 33)) (w_ei ws (w_ar ws (n_v (vs ++ [Value.int x]) 3) 34)) (w_ei ws (w_ar ws (n_v (vs ++ [Value.int x]) 3) 35)) (w_ei ws (w_ar ws (n_v (vs ++ [Value.int x]) 3) 17)) (v_iv (n_v (vs ++ [Value.int x]) 2))
      simp only [e_2, e_3, q3]
      exact vc_Mo_draws_20_1 (v_iv (n_v vs 2)) (w_ei ws (w_ar ws (n_v vs 0) 33)) (w_ei ws (w_ar ws (n_v vs 0) 34)) (w_fi ws (n_v vs 0) 32) (w_ei ws (w_ar ws (n_v vs 0) 35)) (w_ei ws (w_ar ws (n_v vs 0) 17)) k2 f4 kz_0_32
  have nf2 : fc_1 PRD (23, [4, 2], [-1, 1, -1]) ws (vs ++ [Value.int x]) := by
    refine ⟨nf_inA hl rfl, sgq_193 ?_⟩
    · show 1 * v_iv (n_v (vs ++ [Value.int x]) 4) + ((-1) * v_iv (n_v (vs ++ [Value.int x]) 2) + 0) ≤ (-1)
      simp only [e_2, e_4, q4]
      exact vc_Mo_draws_20_2 (v_iv (n_v vs 1)) (v_iv (n_v vs 2)) k1 k2 f15
  have nf3 : fc_1 PRD (20, [3], [50, 1, 0, 49, 1, 3, 2, 0, 49, 0, -1]) ws (vs ++ [Value.int x]) := by
    refine ⟨nf_inA hl rfl, sgq_1675 ?_⟩
    · show w_fi ws (n_v (vs ++ [Value.int x]) 3) 49 = (-1)
      simp only [e_3, q3]
      exact vc_Mo_draws_20_3 (w_fi ws (n_v vs 0) 49) f6 kz_0_49
  have nf4 : fc_1 PRD (20, [3, 4], [60, 1, 6, 166, 32, 33, 34, 35, 17, 43, 42]) ws (vs ++ [Value.int x]) := by
    refine ⟨nf_inA hl rfl, sgq_1978 ?_⟩
    · show DSB (w_fi ws (n_v (vs ++ [Value.int x]) 3) 32) (w_ei ws (w_ar ws (n_v (vs ++ [Value.int x]) 3) 33)) (w_ei ws (w_ar ws (n_v (vs ++ [Value.int x]) 3) 34)) (w_ei ws (w_ar ws (n_v (vs ++ [Value.int x]) 3) 35)) (w_ei ws (w_ar ws (n_v (vs ++ [Value.int x]) 3) 17)) (w_ei ws (w_ar ws (n_v (vs ++ [Value.int x]) 3) 43)) (w_ei ws (w_ar ws (n_v (vs ++ [Value.int x]) 3) 42)) (v_iv (n_v (vs ++ [Value.int x]) 4))
      simp only [e_3, e_4, q3, q4]
      exact vc_Mo_draws_20_4 (v_iv (n_v vs 1)) (v_iv (n_v vs 4)) (v_iv (n_v vs 10)) (w_ei ws (w_ar ws (n_v vs 0) 33)) (w_ei ws (w_ar ws (n_v vs 0) 34)) (w_fi ws (n_v vs 0) 32) (w_ei ws (w_ar ws (n_v vs 0) 35)) (w_ei ws (w_ar ws (n_v vs 0) 17)) (w_ei ws (w_ar ws (n_v vs 0) 43)) (w_ei ws (w_ar ws (n_v vs 0) 42)) (w_ei ws (w_ar ws (n_v vs 0) 40)) (w_ei ws (w_ar ws (n_v vs 0) 41)) (w_fi ws (n_v vs 0) 39) k1 k4 k10 d0 d1 f0 f1 f9 kz_0_32 kz_0_39
  have nf5 : fc_1 PRD (20, [3, 4], [60, 2, 7, 167, 32, 39, 33, 34, 35, 17, 43, 40, 41]) ws (vs ++ [Value.int x]) := by
    refine ⟨nf_inA hl rfl, sgq_1979 ?_⟩
    · show FI (w_fi ws (n_v (vs ++ [Value.int x]) 3) 32) (w_fi ws (n_v (vs ++ [Value.int x]) 3) 39) (w_ei ws (w_ar ws (n_v (vs ++ [Value.int x]) 3) 33)) (w_ei ws (w_ar ws (n_v (vs ++ [Value.int x]) 3) 34)) (w_ei ws (w_ar ws (n_v (vs ++ [Value.int x]) 3) 35)) (w_ei ws (w_ar ws (n_v (vs ++ [Value.int x]) 3) 17)) (w_ei ws (w_ar ws (n_v (vs ++ [Value.int x]) 3) 43)) (w_ei ws (w_ar ws (n_v (vs ++ [Value.int x]) 3) 40)) (w_ei ws (w_ar ws (n_v (vs ++ [Value.int x]) 3) 41)) (v_iv (n_v (vs ++ [Value.int x]) 4))
      simp only [e_3, e_4, q3, q4]
      exact vc_Mo_draws_20_5 (v_iv (n_v vs 1)) (v_iv (n_v vs 4)) (v_iv (n_v vs 10)) (w_ei ws (w_ar ws (n_v vs 0) 33)) (w_ei ws (w_ar ws (n_v vs 0) 34)) (w_fi ws (n_v vs 0) 32) (w_ei ws (w_ar ws (n_v vs 0) 35)) (w_ei ws (w_ar ws (n_v vs 0) 17)) (w_ei ws (w_ar ws (n_v vs 0) 43)) (w_ei ws (w_ar ws (n_v vs 0) 42)) (w_ei ws (w_ar ws (n_v vs 0) 40)) (w_ei ws (w_ar ws (n_v vs 0) 41)) (w_fi ws (n_v vs 0) 39) k1 k4 k10 d0 d1 f0 f1 f9 kz_0_32 kz_0_39
  have nf6 : fc_1 PRD (20, [3], [60, 2, 1, 168, 32, 39, 43]) ws (vs ++ [Value.int x]) := by
    refine ⟨nf_inA hl rfl, sgq_1980 ?_⟩
    · show CZF (w_fi ws (n_v (vs ++ [Value.int x]) 3) 32) (w_fi ws (n_v (vs ++ [Value.int x]) 3) 39) (w_ei ws (w_ar ws (n_v (vs ++ [Value.int x]) 3) 43))
      simp only [e_3, q3]
      exact vc_Mo_draws_20_6 (v_iv (n_v vs 10)) (w_ei ws (w_ar ws (n_v vs 0) 33)) (w_ei ws (w_ar ws (n_v vs 0) 34)) (w_fi ws (n_v vs 0) 32) (w_ei ws (w_ar ws (n_v vs 0) 35)) (w_ei ws (w_ar ws (n_v vs 0) 17)) (w_ei ws (w_ar ws (n_v vs 0) 43)) (w_ei ws (w_ar ws (n_v vs 0) 42)) (w_ei ws (w_ar ws (n_v vs 0) 40)) (w_ei ws (w_ar ws (n_v vs 0) 41)) (w_fi ws (n_v vs 0) 39) k10 f9 kz_0_32 kz_0_39
  have nf7 : fc_1 PRD (20, [3, 11], [30, -120, -1, 1, 39, -1, 0, 0]) ws (vs ++ [Value.int x]) := by
    refine ⟨nf_inA hl rfl, sgq_735 ?_⟩
    · show (-1) * w_fi ws (n_v (vs ++ [Value.int x]) 3) 39 + ((-1) * v_iv (n_v (vs ++ [Value.int x]) 11) + 0) ≤ (-120)
      simp only [e_3, e_11, q3]
      exact vc_Mo_draws_20_7 (w_fi ws (n_v vs 0) 39) (v_iv (Value.int x)) kz_0_39 ex2
  have nf8 : fc_1 PRD (24, [0, 3], []) ws (vs ++ [Value.int x]) := by
    refine ⟨nf_inA hl rfl, sgq_5 ?_⟩
    · show n_v (vs ++ [Value.int x]) 0 = n_v (vs ++ [Value.int x]) 3
      first | rfl | simp only [e_0, e_3, q3, q4]
  have nf9 : fc_1 PRD (24, [1, 4], []) ws (vs ++ [Value.int x]) := by
    refine ⟨nf_inA hl rfl, sgq_5 ?_⟩
    · show n_v (vs ++ [Value.int x]) 1 = n_v (vs ++ [Value.int x]) 4
      first | rfl | simp only [e_1, e_4, q3, q4]
  exact ⟨(fun _ h => (by cases h)), [Value.int x], ag_one hx, List.forall_mem_cons.mpr ⟨⟨show (20 : Nat) < 100 from by decide, nf0⟩, List.forall_mem_cons.mpr ⟨⟨show (20 : Nat) < 100 from by decide, nf1⟩, List.forall_mem_cons.mpr ⟨⟨show (23 : Nat) < 100 from by decide, nf2⟩, List.forall_mem_cons.mpr ⟨⟨show (20 : Nat) < 100 from by decide, nf3⟩, List.forall_mem_cons.mpr ⟨⟨show (20 : Nat) < 100 from by decide, nf4⟩, List.forall_mem_cons.mpr ⟨⟨show (20 : Nat) < 100 from by decide, nf5⟩, List.forall_mem_cons.mpr ⟨⟨show (20 : Nat) < 100 from by decide, nf6⟩, List.forall_mem_cons.mpr ⟨⟨show (20 : Nat) < 100 from by decide, nf7⟩, List.forall_mem_cons.mpr ⟨⟨show (24 : Nat) < 100 from by decide, nf8⟩, List.forall_mem_cons.mpr ⟨⟨show (24 : Nat) < 100 from by decide, nf9⟩, (fun _ h => (by cases h))⟩⟩⟩⟩⟩⟩⟩⟩⟩⟩, (fun _ h => (by cases h))⟩

set_option maxHeartbeats 4000000 in
theorem vc_Mo_draws_21_0 (x1 : Int) (x5 : Int) (x7 : Int) (x8 : Int) (x11 : Int) (x12 : Int) (x13 : Int) (x14 : Int) (pt_0 : Int → Int) (ph_0 : Int → Int) (pn_0 : Int) (pm_0 : Int) (alive_0 : Int → Int) (blockOf_0 : Int → Int) (onlyPiece_0 : Int) (face_1 : Int → Int) (wayMany_1 : Int) (pt_1 : Int → Int) (ph_1 : Int → Int) (pn_1 : Int) (pm_1 : Int) (alive_1 : Int → Int) (blockOf_1 : Int → Int) (onlyPiece_1 : Int) (drawnEdge_1 : Int → Int) (drawnNode_1 : Int → Int) (way_1 : Int → Int) (faceMany_1 : Int → Int) (wayMany_0 : Int) (faceMany_0 : Int → Int) (face_0 : Int → Int) (drawnNode_0 : Int → Int) (drawnEdge_0 : Int → Int) (way_0 : Int → Int) (k1 : 0 ≤ x1 ∧ x1 ≤ 79) (k5 : 0 ≤ x5 ∧ x5 ≤ 79) (k7 : 1 ≤ x7 ∧ x7 ≤ 29) (k8 : 2 ≤ x8 ∧ x8 ≤ 30) (k11 : 61 ≤ x11 ∧ x11 ≤ 89) (k12 : 1 ≤ x12 ∧ x12 ≤ 29) (k13 : 0 ≤ x13 ∧ x13 ≤ 24) (k14 : 2 ≤ x14 ∧ x14 ≤ 30) (d0 : x7 + 1 ≤ x14 ∧ x14 ≤ x7 + 1) (d3 : x7 + 60 ≤ x11 ∧ x11 ≤ x7 + 60) (f0 : x14 = x7 + 1) (h8 : x13 = face_1 (x12)) (f9 : x12 = x8 - x7) (g10 : x8 = wayMany_1) (f18 : R2 (pn_1) (pm_1) (wayMany_1) (pt_1) (ph_1) (alive_1) (blockOf_1) (drawnEdge_1) (drawnNode_1) (way_1) (faceMany_1) (face_1) (x1) (x5) (x7)) (fe_0_31_1 : pn_0 = pn_1) (fe_0_32_1 : pm_0 = pm_1) (fe_0_45_1 : wayMany_0 = wayMany_1) (fe_0_49_1 : onlyPiece_0 = onlyPiece_1) (hE_0_17_1 : ∀ j : Int, blockOf_0 j = blockOf_1 j) (hE_0_33_1 : ∀ j : Int, pt_0 j = pt_1 j) (hE_0_34_1 : ∀ j : Int, ph_0 j = ph_1 j) (hE_0_35_1 : ∀ j : Int, alive_0 j = alive_1 j) (hE_0_40_1 : ∀ j : Int, faceMany_0 j = faceMany_1 j) (hE_0_41_1 : ∀ j : Int, 0 ≤ j → (j = x11 → face_0 j = x13) ∧ (j ≠ x11 → face_0 j = face_1 j)) (hE_0_42_1 : ∀ j : Int, drawnNode_0 j = drawnNode_1 j) (hE_0_43_1 : ∀ j : Int, drawnEdge_0 j = drawnEdge_1 j) (hE_0_46_1 : ∀ j : Int, way_0 j = way_1 j) (kz_0_31 : 0 ≤ pn_0 ∧ pn_0 ≤ 25) (kz_0_32 : 0 ≤ pm_0 ∧ pm_0 ≤ 80) (kz_0_45 : 0 ≤ wayMany_0 ∧ wayMany_0 ≤ 30) (kz_0_49 : (-1) ≤ onlyPiece_0 ∧ onlyPiece_0 ≤ 79) : R2 (pn_0) (pm_0) (wayMany_0) (pt_0) (ph_0) (alive_0) (blockOf_0) (drawnEdge_0) (drawnNode_0) (way_0) (faceMany_0) (face_0) (x1) (x5) (x14) := by
  subst fe_0_31_1
  subst fe_0_32_1
  subst fe_0_45_1
  subst fe_0_49_1
  have e_hE_0_17_1 := funext hE_0_17_1; subst e_hE_0_17_1
  have e_hE_0_33_1 := funext hE_0_33_1; subst e_hE_0_33_1
  have e_hE_0_34_1 := funext hE_0_34_1; subst e_hE_0_34_1
  have e_hE_0_35_1 := funext hE_0_35_1; subst e_hE_0_35_1
  have e_hE_0_40_1 := funext hE_0_40_1; subst e_hE_0_40_1
  have e_hE_0_42_1 := funext hE_0_42_1; subst e_hE_0_42_1
  have e_hE_0_43_1 := funext hE_0_43_1; subst e_hE_0_43_1
  have e_hE_0_46_1 := funext hE_0_46_1; subst e_hE_0_46_1
  first
    | exact r2_of (k := x7) ‹R1 _ _ _ _ _ _ _ _ _ _ _ _ _ _ _› (by omega) (by omega) hE_0_41_1 (by omega) (by omega) (by omega)
    | exact r2_next (k := x7) (q := x12) ‹R2 _ _ _ _ _ _ _ _ _ _ _ _ _ _ _› (by omega) hE_0_41_1 (by omega) (by omega) (by omega) (by omega) (by omega) (by omega)
def o_Mo_draws_21 : or_T := (250, 15, [(0, (2, 0, 0, [165])), (1, (0, 0, 79, [])), (5, (0, 0, 79, [])), (7, (0, 1, 29, [])), (8, (0, 2, 30, [])), (9, (2, 0, 0, [187])), (11, (0, 61, 89, [])), (12, (0, 1, 29, [])), (13, (0, 0, 24, [])), (14, (0, 2, 30, []))], [(6, [14, 7], [1]), (24, [0, 3], []), (24, [1, 4], []), (100, [9, 11, 13], []), (10, [13, 9, 12], []), (2, [12, 8, 7], []), (9, [8, 3], [45]), (9, [9, 3], [41]), (20, [3, 4, 5, 7], [60, 3, 9, 165, 31, 32, 45, 33, 34, 35, 17, 43, 42, 46, 40, 41])], [], [], [(20, [3, 4, 5, 14], [60, 3, 9, 165, 31, 32, 45, 33, 34, 35, 17, 43, 42, 46, 40, 41])], [], [(14, 7, 1, 1), (11, 7, 60, 60), (11, 8, -4294967296, 59)])
theorem oo_Mo_draws_21 {kA : Nat → ClassId} : or_ok PRD kA GG o_Mo_draws_21 := by
  refine or_mk fun A ta ws vs hD hth hl => ?_
  intro t0 r0 t1 k1 t5 k5 t7 k7 t8 k8 t9 r9 t11 k11 t12 k12 t13 k13 t14 k14 d0 d3 d4 f0 f5 f6 ta1 w1 le1 s1 f8 f9 f10 f11 f18
  replace f0 := shm_4 f0
  replace f5 := shm_5 f5
  replace f6 := shm_5 f6
  have s1 : (∀ b j, w_el ws b j = if b = v_ad (n_v vs 9) ∧ j = (v_iv (n_v vs 11)).toNat then v_iv (n_v vs 13) else w_el w1 b j) ∧ ∀ b k, w_fd ws b k = w_fd w1 b k := s1.2
  replace f8 := shm_107 f8
  replace f9 := shm_14 f9
  replace f10 := shm_741 f10
  replace f11 := shm_522 f11
  replace f18 := shm_1977 f18
  have q3 : n_v vs 3 = n_v vs 0 := f5.symm
  have q4 : n_v vs 4 = n_v vs 1 := f6.symm
  simp only [q3, q4] at f10 f11 f18
  have ar_0_17_1 : w_ar w1 (n_v vs 0) 17 = w_ar ws (n_v vs 0) 17 := congrArg v_ad (s1.2 _ _).symm
  have cr_0_17 := fdq_189 hD hth r0
  have ar_0_33_1 : w_ar w1 (n_v vs 0) 33 = w_ar ws (n_v vs 0) 33 := congrArg v_ad (s1.2 _ _).symm
  have cr_0_33 := fdq_117 hD hth r0
  have ar_0_34_1 : w_ar w1 (n_v vs 0) 34 = w_ar ws (n_v vs 0) 34 := congrArg v_ad (s1.2 _ _).symm
  have cr_0_34 := fdq_118 hD hth r0
  have ar_0_35_1 : w_ar w1 (n_v vs 0) 35 = w_ar ws (n_v vs 0) 35 := congrArg v_ad (s1.2 _ _).symm
  have cr_0_35 := fdq_132 hD hth r0
  have ar_0_40_1 : w_ar w1 (n_v vs 0) 40 = w_ar ws (n_v vs 0) 40 := congrArg v_ad (s1.2 _ _).symm
  have cr_0_40 := fdq_133 hD hth r0
  have ar_0_41_1 : w_ar w1 (n_v vs 0) 41 = w_ar ws (n_v vs 0) 41 := congrArg v_ad (s1.2 _ _).symm
  have ar_0_42_1 : w_ar w1 (n_v vs 0) 42 = w_ar ws (n_v vs 0) 42 := congrArg v_ad (s1.2 _ _).symm
  have cr_0_42 := fdq_136 hD hth r0
  have ar_0_43_1 : w_ar w1 (n_v vs 0) 43 = w_ar ws (n_v vs 0) 43 := congrArg v_ad (s1.2 _ _).symm
  have cr_0_43 := fdq_137 hD hth r0
  have ar_0_46_1 : w_ar w1 (n_v vs 0) 46 = w_ar ws (n_v vs 0) 46 := congrArg v_ad (s1.2 _ _).symm
  have cr_0_46 := fdq_190 hD hth r0
  have ad_9 : v_ad (n_v vs 9) = w_ar ws (n_v vs 0) 41 := (congrArg v_ad f11).trans ar_0_41_1
  simp only [ad_9] at f8
  have h8 : v_iv (n_v vs 13) = w_ei w1 (w_ar ws (n_v vs 0) 41) (v_iv (n_v vs 12)) := f8
  have g10 : v_iv (n_v vs 8) = w_fi w1 (n_v vs 0) 45 := congrArg v_iv f10
  simp only [ar_0_33_1, ar_0_34_1, ar_0_17_1, ar_0_35_1, ar_0_40_1, ar_0_41_1, ar_0_42_1, ar_0_43_1, ar_0_46_1] at f18
  have fe_0_31_1 : w_fi ws (n_v vs 0) 31 = w_fi w1 (n_v vs 0) 31 := congrArg v_iv (s1.2 _ _)
  have fe_0_32_1 : w_fi ws (n_v vs 0) 32 = w_fi w1 (n_v vs 0) 32 := congrArg v_iv (s1.2 _ _)
  have fe_0_45_1 : w_fi ws (n_v vs 0) 45 = w_fi w1 (n_v vs 0) 45 := congrArg v_iv (s1.2 _ _)
  have fe_0_49_1 : w_fi ws (n_v vs 0) 49 = w_fi w1 (n_v vs 0) 49 := congrArg v_iv (s1.2 _ _)
  have hE_0_17_1 : ∀ j : Int, w_ei ws (w_ar ws (n_v vs 0) 17) j = w_ei w1 (w_ar ws (n_v vs 0) 17) j := el_kp s1.1 r9 cr_0_17 (by decide)
  have hE_0_33_1 : ∀ j : Int, w_ei ws (w_ar ws (n_v vs 0) 33) j = w_ei w1 (w_ar ws (n_v vs 0) 33) j := el_kp s1.1 r9 cr_0_33 (by decide)
  have hE_0_34_1 : ∀ j : Int, w_ei ws (w_ar ws (n_v vs 0) 34) j = w_ei w1 (w_ar ws (n_v vs 0) 34) j := el_kp s1.1 r9 cr_0_34 (by decide)
  have hE_0_35_1 : ∀ j : Int, w_ei ws (w_ar ws (n_v vs 0) 35) j = w_ei w1 (w_ar ws (n_v vs 0) 35) j := el_kp s1.1 r9 cr_0_35 (by decide)
  have hE_0_40_1 : ∀ j : Int, w_ei ws (w_ar ws (n_v vs 0) 40) j = w_ei w1 (w_ar ws (n_v vs 0) 40) j := el_kp s1.1 r9 cr_0_40 (by decide)
  have hE_0_41_1 : ∀ j : Int, 0 ≤ j → (j = v_iv (n_v vs 11) → w_ei ws (w_ar ws (n_v vs 0) 41) j = v_iv (n_v vs 13)) ∧ (j ≠ v_iv (n_v vs 11) → w_ei ws (w_ar ws (n_v vs 0) 41) j = w_ei w1 (w_ar ws (n_v vs 0) 41) j) := fun j hj => ⟨fun h => by unfold w_ei; rw [s1.1, if_pos ⟨ad_9.symm, by rw [h]⟩], fun h => by unfold w_ei; rw [s1.1, if_neg (fun e => h (by have := e.2; omega))]⟩
  have hE_0_42_1 : ∀ j : Int, w_ei ws (w_ar ws (n_v vs 0) 42) j = w_ei w1 (w_ar ws (n_v vs 0) 42) j := el_kp s1.1 r9 cr_0_42 (by decide)
  have hE_0_43_1 : ∀ j : Int, w_ei ws (w_ar ws (n_v vs 0) 43) j = w_ei w1 (w_ar ws (n_v vs 0) 43) j := el_kp s1.1 r9 cr_0_43 (by decide)
  have hE_0_46_1 : ∀ j : Int, w_ei ws (w_ar ws (n_v vs 0) 46) j = w_ei w1 (w_ar ws (n_v vs 0) 46) j := el_kp s1.1 r9 cr_0_46 (by decide)
  have kz_0_31 := fdq_145 hD hth r0
  have kz_0_32 := fdq_140 hD hth r0
  have kz_0_45 := fdq_191 hD hth r0
  have kz_0_49 := fdq_146 hD hth r0
  have nf0 : fc_1 PRD (20, [3, 4, 5, 14], [60, 3, 9, 165, 31, 32, 45, 33, 34, 35, 17, 43, 42, 46, 40, 41]) ws (vs) := by
    refine ⟨nf_in hl rfl, sgq_1977 ?_⟩
    · show R2 (w_fi ws (n_v vs 3) 31) (w_fi ws (n_v vs 3) 32) (w_fi ws (n_v vs 3) 45) (w_ei ws (w_ar ws (n_v vs 3) 33)) (w_ei ws (w_ar ws (n_v vs 3) 34)) (w_ei ws (w_ar ws (n_v vs 3) 35)) (w_ei ws (w_ar ws (n_v vs 3) 17)) (w_ei ws (w_ar ws (n_v vs 3) 43)) (w_ei ws (w_ar ws (n_v vs 3) 42)) (w_ei ws (w_ar ws (n_v vs 3) 46)) (w_ei ws (w_ar ws (n_v vs 3) 40)) (w_ei ws (w_ar ws (n_v vs 3) 41)) (v_iv (n_v vs 4)) (v_iv (n_v vs 5)) (v_iv (n_v vs 14))
      simp only [q3, q4]
      exact vc_Mo_draws_21_0 (v_iv (n_v vs 1)) (v_iv (n_v vs 5)) (v_iv (n_v vs 7)) (v_iv (n_v vs 8)) (v_iv (n_v vs 11)) (v_iv (n_v vs 12)) (v_iv (n_v vs 13)) (v_iv (n_v vs 14)) (w_ei ws (w_ar ws (n_v vs 0) 33)) (w_ei ws (w_ar ws (n_v vs 0) 34)) (w_fi ws (n_v vs 0) 31) (w_fi ws (n_v vs 0) 32) (w_ei ws (w_ar ws (n_v vs 0) 35)) (w_ei ws (w_ar ws (n_v vs 0) 17)) (w_fi ws (n_v vs 0) 49) (w_ei w1 (w_ar ws (n_v vs 0) 41)) (w_fi w1 (n_v vs 0) 45) (w_ei w1 (w_ar ws (n_v vs 0) 33)) (w_ei w1 (w_ar ws (n_v vs 0) 34)) (w_fi w1 (n_v vs 0) 31) (w_fi w1 (n_v vs 0) 32) (w_ei w1 (w_ar ws (n_v vs 0) 35)) (w_ei w1 (w_ar ws (n_v vs 0) 17)) (w_fi w1 (n_v vs 0) 49) (w_ei w1 (w_ar ws (n_v vs 0) 43)) (w_ei w1 (w_ar ws (n_v vs 0) 42)) (w_ei w1 (w_ar ws (n_v vs 0) 46)) (w_ei w1 (w_ar ws (n_v vs 0) 40)) (w_fi ws (n_v vs 0) 45) (w_ei ws (w_ar ws (n_v vs 0) 40)) (w_ei ws (w_ar ws (n_v vs 0) 41)) (w_ei ws (w_ar ws (n_v vs 0) 42)) (w_ei ws (w_ar ws (n_v vs 0) 43)) (w_ei ws (w_ar ws (n_v vs 0) 46)) k1 k5 k7 k8 k11 k12 k13 k14 d0 d3 f0 h8 f9 g10 f18 fe_0_31_1 fe_0_32_1 fe_0_45_1 fe_0_49_1 hE_0_17_1 hE_0_33_1 hE_0_34_1 hE_0_35_1 hE_0_40_1 hE_0_41_1 hE_0_42_1 hE_0_43_1 hE_0_46_1 kz_0_31 kz_0_32 kz_0_45 kz_0_49
  refine ⟨(fun _ h => (by cases h)), [], trivial, ?_, (fun _ h => (by cases h))⟩
  rw [List.append_nil]
  exact List.forall_mem_cons.mpr ⟨⟨show (20 : Nat) < 100 from by decide, nf0⟩, (fun _ h => (by cases h))⟩
set_option maxHeartbeats 4000000 in
theorem vc_Mo_draws_22_0 (x1 : Int) (x9 : Int) (x10 : Int) (drawnEdge_0 : Int → Int) (pm_0 : Int) (pt_0 : Int → Int) (ph_0 : Int → Int) (alive_0 : Int → Int) (blockOf_0 : Int → Int) (faceMany_0 : Int → Int) (face_0 : Int → Int) (faces_0 : Int) (k1 : 0 ≤ x1 ∧ x1 ≤ 79) (k9 : 0 ≤ x9 ∧ x9 ≤ 0) (k10 : 1 ≤ x10 ∧ x10 ≤ 1) (f0 : x9 = 0) (f1 : MIS (pm_0) (drawnEdge_0) (x9)) (f7 : FI (pm_0) (faces_0) (pt_0) (ph_0) (alive_0) (blockOf_0) (drawnEdge_0) (faceMany_0) (face_0) (x1)) (f8 : CZF (pm_0) (faces_0) (drawnEdge_0)) (kz_0_32 : 0 ≤ pm_0 ∧ pm_0 ≤ 80) (kz_0_39 : 0 ≤ faces_0 ∧ faces_0 ≤ 120) : DRQ (pm_0) (faces_0) (pt_0) (ph_0) (alive_0) (blockOf_0) (faceMany_0) (face_0) (x1) (x10) := by
  exact drq_end ‹FI _ _ _ _ _ _ _ _ _ _› ‹CZF _ _ _› ‹MIS _ _ _› (by omega)
set_option maxHeartbeats 4000000 in
theorem vc_Mo_draws_22_1 (onlyPiece_0 : Int) (f5 : onlyPiece_0 = (-1)) (kz_0_49 : (-1) ≤ onlyPiece_0 ∧ onlyPiece_0 ≤ 79) : onlyPiece_0 = (-1) := by
  first | omega
def o_Mo_draws_22 : or_T := (352, 11, [(0, (2, 0, 0, [165])), (1, (0, 0, 79, [])), (9, (0, 0, 0, [])), (10, (0, 1, 1, []))], [(8, [9], [0]), (20, [3, 9], [60, 1, 1, 155, 32, 43]), (20, [3], [50, 1, 0, 49, 1, 3, 2, 0, 49, 0, -1]), (20, [3, 4], [60, 2, 7, 167, 32, 39, 33, 34, 35, 17, 43, 40, 41]), (20, [3], [60, 2, 1, 168, 32, 39, 43]), (24, [0, 3], []), (24, [1, 4], [])], [], [], [(20, [0, 1, 10], [60, 2, 6, 169, 32, 39, 33, 34, 35, 17, 40, 41]), (20, [0], [50, 1, 0, 49, 1, 3, 2, 0, 49, 0, -1])], [], [])
theorem oo_Mo_draws_22 {kA : Nat → ClassId} : or_ok PRD kA GG o_Mo_draws_22 := by
  refine or_mk fun A ta ws vs hD hth hl => ?_
  intro t0 r0 t1 k1 t9 k9 t10 k10 f0 f1 f5 f7 f8 f10 f11
  replace f1 := shm_641 f1
  replace f5 := shm_1675 f5
  replace f7 := shm_1979 f7
  replace f8 := shm_1980 f8
  replace f10 := shm_5 f10
  replace f11 := shm_5 f11
  have q3 : n_v vs 3 = n_v vs 0 := f10.symm
  have q4 : n_v vs 4 = n_v vs 1 := f11.symm
  simp only [q3, q4] at f1 f5 f7 f8
  have kz_0_32 := fdq_140 hD hth r0
  have kz_0_39 := fdq_135 hD hth r0
  have kz_0_49 := fdq_146 hD hth r0
  have nf0 : fc_1 PRD (20, [0, 1, 10], [60, 2, 6, 169, 32, 39, 33, 34, 35, 17, 40, 41]) ws (vs) := ⟨nf_in hl rfl, sgq_1976 (vc_Mo_draws_22_0 (v_iv (n_v vs 1)) (v_iv (n_v vs 9)) (v_iv (n_v vs 10)) (w_ei ws (w_ar ws (n_v vs 0) 43)) (w_fi ws (n_v vs 0) 32) (w_ei ws (w_ar ws (n_v vs 0) 33)) (w_ei ws (w_ar ws (n_v vs 0) 34)) (w_ei ws (w_ar ws (n_v vs 0) 35)) (w_ei ws (w_ar ws (n_v vs 0) 17)) (w_ei ws (w_ar ws (n_v vs 0) 40)) (w_ei ws (w_ar ws (n_v vs 0) 41)) (w_fi ws (n_v vs 0) 39) k1 k9 k10 (shm_192 f0) f1 f7 f8 kz_0_32 kz_0_39)⟩
  have nf1 : fc_1 PRD (20, [0], [50, 1, 0, 49, 1, 3, 2, 0, 49, 0, -1]) ws (vs) := ⟨nf_in hl rfl, sgq_1675 (vc_Mo_draws_22_1 (w_fi ws (n_v vs 0) 49) f5 kz_0_49)⟩
  refine ⟨(fun _ h => (by cases h)), [], trivial, ?_, (fun _ h => (by cases h))⟩
  rw [List.append_nil]
  exact List.forall_mem_cons.mpr ⟨⟨show (20 : Nat) < 100 from by decide, nf0⟩, List.forall_mem_cons.mpr ⟨⟨show (20 : Nat) < 100 from by decide, nf1⟩, (fun _ h => (by cases h))⟩⟩
set_option maxHeartbeats 4000000 in
theorem vc_Mo_draws_23_0 (x1 : Int) (pm_0 : Int) (drawnEdge_0 : Int → Int) (pt_0 : Int → Int) (ph_0 : Int → Int) (alive_0 : Int → Int) (blockOf_0 : Int → Int) (drawnNode_0 : Int → Int) (k1 : 0 ≤ x1 ∧ x1 ≤ 79) (f8 : DSB (pm_0) (pt_0) (ph_0) (alive_0) (blockOf_0) (drawnEdge_0) (drawnNode_0) (x1)) (kz_0_32 : 0 ≤ pm_0 ∧ pm_0 ≤ 80) : UA (pm_0) (alive_0) (drawnEdge_0) := by
  have h := ‹DSB _ _ _ _ _ _ _ _›
  exact fun e a b c => (h.1 e a b c).1
set_option maxHeartbeats 4000000 in
theorem vc_Mo_draws_23_1 (x1 : Int) (x2 : Int) (x10 : Int) (ends_0 : Int → Int) (faceNodes_0 : Int → Int) (faces_0 : Int) (pieceOf_0 : Int → Int) (pm_0 : Int) (drawnEdge_0 : Int → Int) (pt_0 : Int → Int) (ph_0 : Int → Int) (pn_0 : Int) (alive_0 : Int → Int) (blockOf_0 : Int → Int) (drawnNode_0 : Int → Int) (k1 : 0 ≤ x1 ∧ x1 ≤ 79) (k2 : 0 ≤ x2 ∧ x2 ≤ 80) (k10 : 0 ≤ x10 ∧ x10 ≤ 79) (f1 : 0 ≤ x10) (f2 : CH1 (pm_0) (faces_0) (pieceOf_0) (ends_0) (faceNodes_0) (x10)) (f4 : GOK (pn_0) (pm_0) (pt_0) (ph_0)) (f5 : BK (pm_0) (pt_0) (ph_0) (alive_0) (blockOf_0) (x2)) (f8 : DSB (pm_0) (pt_0) (ph_0) (alive_0) (blockOf_0) (drawnEdge_0) (drawnNode_0) (x1)) (f14 : PCS (pm_0) (pt_0) (ph_0) (drawnEdge_0) (drawnNode_0) (pieceOf_0)) (f15 : END (pm_0) (pt_0) (ph_0) (drawnEdge_0) (drawnNode_0) (pieceOf_0) (ends_0)) (kz_0_31 : 0 ≤ pn_0 ∧ pn_0 ≤ 25) (kz_0_32 : 0 ≤ pm_0 ∧ pm_0 ≤ 80) (kz_0_39 : 0 ≤ faces_0 ∧ faces_0 ≤ 120) : WPR (pn_0) (pm_0) (pt_0) (ph_0) (drawnEdge_0) (pieceOf_0) (drawnNode_0) (ends_0) (x10) := by
  exact wpr_ch ‹GOK _ _ _ _› (by omega) ‹BK _ _ _ _ _ _› ‹DSB _ _ _ _ _ _ _ _› ‹PCS _ _ _ _ _ _› ‹END _ _ _ _ _ _ _› ‹CH1 _ _ _ _ _ _› (by omega)
def o_Mo_draws_23 : or_T := (335, 12, [(0, (2, 0, 0, [165])), (1, (0, 0, 79, [])), (2, (0, 0, 80, [])), (10, (0, 0, 79, []))], [(8, [10], [3]), (20, [3, 10], [60, 2, 3, 118, 32, 39, 44, 50, 51]), (20, [3], [60, 2, 2, 75, 31, 32, 33, 34]), (20, [3, 2], [60, 1, 4, 97, 32, 33, 34, 35, 17]), (20, [3, 4], [60, 1, 6, 166, 32, 33, 34, 35, 17, 43, 42]), (24, [0, 3], []), (24, [1, 4], []), (20, [3], [60, 1, 5, 106, 32, 33, 34, 43, 42, 44]), (20, [3], [60, 1, 6, 109, 32, 33, 34, 43, 42, 44, 50])], [], [], [(20, [3], [60, 1, 2, 122, 32, 35, 43]), (20, [3, 10], [60, 2, 6, 135, 31, 32, 33, 34, 43, 44, 42, 50])], [], [])
theorem oo_Mo_draws_23 {kA : Nat → ClassId} : or_ok PRD kA GG o_Mo_draws_23 := by
  refine or_mk fun A ta ws vs hD hth hl => ?_
  intro t0 r0 t1 k1 t2 k2 t10 k10 f1 f2 f4 f5 f8 f12 f13 f14 f15
  replace f1 := shm_32 f1
  replace f2 := shm_973 f2
  replace f4 := shm_575 f4
  replace f5 := shm_1544 f5
  replace f8 := shm_1978 f8
  replace f12 := shm_5 f12
  replace f13 := shm_5 f13
  replace f14 := shm_523 f14
  replace f15 := shm_529 f15
  have q3 : n_v vs 3 = n_v vs 0 := f12.symm
  have q4 : n_v vs 4 = n_v vs 1 := f13.symm
  simp only [q3, q4] at f2 f4 f5 f8 f14 f15
  have kz_0_31 := fdq_145 hD hth r0
  have kz_0_32 := fdq_140 hD hth r0
  have kz_0_39 := fdq_135 hD hth r0
  have nf0 : fc_1 PRD (20, [3], [60, 1, 2, 122, 32, 35, 43]) ws (vs) := by
    refine ⟨nf_in hl rfl, sgq_1455 ?_⟩
    · show UA (w_fi ws (n_v vs 3) 32) (w_ei ws (w_ar ws (n_v vs 3) 35)) (w_ei ws (w_ar ws (n_v vs 3) 43))
      rw [q3]
      exact vc_Mo_draws_23_0 (v_iv (n_v vs 1)) (w_fi ws (n_v vs 0) 32) (w_ei ws (w_ar ws (n_v vs 0) 43)) (w_ei ws (w_ar ws (n_v vs 0) 33)) (w_ei ws (w_ar ws (n_v vs 0) 34)) (w_ei ws (w_ar ws (n_v vs 0) 35)) (w_ei ws (w_ar ws (n_v vs 0) 17)) (w_ei ws (w_ar ws (n_v vs 0) 42)) k1 f8 kz_0_32
  have nf1 : fc_1 PRD (20, [3, 10], [60, 2, 6, 135, 31, 32, 33, 34, 43, 44, 42, 50]) ws (vs) := by
    refine ⟨nf_in hl rfl, sgq_1669 ?_⟩
    · show WPR (w_fi ws (n_v vs 3) 31) (w_fi ws (n_v vs 3) 32) (w_ei ws (w_ar ws (n_v vs 3) 33)) (w_ei ws (w_ar ws (n_v vs 3) 34)) (w_ei ws (w_ar ws (n_v vs 3) 43)) (w_ei ws (w_ar ws (n_v vs 3) 44)) (w_ei ws (w_ar ws (n_v vs 3) 42)) (w_ei ws (w_ar ws (n_v vs 3) 50)) (v_iv (n_v vs 10))
      rw [q3]
      exact vc_Mo_draws_23_1 (v_iv (n_v vs 1)) (v_iv (n_v vs 2)) (v_iv (n_v vs 10)) (w_ei ws (w_ar ws (n_v vs 0) 50)) (w_ei ws (w_ar ws (n_v vs 0) 51)) (w_fi ws (n_v vs 0) 39) (w_ei ws (w_ar ws (n_v vs 0) 44)) (w_fi ws (n_v vs 0) 32) (w_ei ws (w_ar ws (n_v vs 0) 43)) (w_ei ws (w_ar ws (n_v vs 0) 33)) (w_ei ws (w_ar ws (n_v vs 0) 34)) (w_fi ws (n_v vs 0) 31) (w_ei ws (w_ar ws (n_v vs 0) 35)) (w_ei ws (w_ar ws (n_v vs 0) 17)) (w_ei ws (w_ar ws (n_v vs 0) 42)) k1 k2 k10 f1 f2 f4 f5 f8 f14 f15 kz_0_31 kz_0_32 kz_0_39
  refine ⟨(fun _ h => (by cases h)), [], trivial, ?_, (fun _ h => (by cases h))⟩
  rw [List.append_nil]
  exact List.forall_mem_cons.mpr ⟨⟨show (20 : Nat) < 100 from by decide, nf0⟩, List.forall_mem_cons.mpr ⟨⟨show (20 : Nat) < 100 from by decide, nf1⟩, (fun _ h => (by cases h))⟩⟩
set_option maxHeartbeats 4000000 in
theorem vc_Mo_draws_24_r0 (x10 : Int) (x11 : Int) (drawnEdge_0 : Int → Int) (pm_0 : Int) (pieceOf_0 : Int → Int) (ends_0 : Int → Int) (faceNodes_0 : Int → Int) (faces_0 : Int) (k10 : 0 ≤ x10 ∧ x10 ≤ 79) (k11 : (-1) ≤ x11 ∧ x11 ≤ 119) (f2 : FFT (faces_0) (ends_0) (faceNodes_0) (x10) (x11)) (f3 : CH1 (pm_0) (faces_0) (pieceOf_0) (ends_0) (faceNodes_0) (x10)) (f10 : CZF (pm_0) (faces_0) (drawnEdge_0)) (f20 : 0 ≤ x10) (kz_0_32 : 0 ≤ pm_0 ∧ pm_0 ≤ 80) (kz_0_39 : 0 ≤ faces_0 ∧ faces_0 ≤ 120) : 0 ≤ x11 ∧ x11 ≤ 119 := by
  first
    | (have h := ch1_fft ‹CH1 _ _ _ _ _ _› (by omega) ‹FFT _ _ _ _ _›
       have h2 := czf_bd ‹CZF _ _ _› (by omega)
       omega)
    | (have h2 := czf_bd ‹CZF _ _ _› (by omega)
       omega)
    | omega
set_option maxHeartbeats 4000000 in
theorem vc_Mo_draws_24_0 (x1 : Int) (x4 : Int) (x10 : Int) (x11 : Int) (drawnEdge_0 : Int → Int) (pm_0 : Int) (pieceOf_0 : Int → Int) (ends_0 : Int → Int) (faceNodes_0 : Int → Int) (faces_0 : Int) (gx : Int) (k1 : 0 ≤ x1 ∧ x1 ≤ 79) (k4 : 0 ≤ x4 ∧ x4 ≤ 79) (k10 : 0 ≤ x10 ∧ x10 ≤ 79) (k11 : (-1) ≤ x11 ∧ x11 ≤ 119) (d0 : x4 + (-4294967296) ≤ x1 ∧ x1 ≤ x4 + 0) (d1 : x1 + (-4294967296) ≤ x4 ∧ x4 ≤ x1 + 0) (f2 : FFT (faces_0) (ends_0) (faceNodes_0) (x10) (x11)) (f3 : CH1 (pm_0) (faces_0) (pieceOf_0) (ends_0) (faceNodes_0) (x10)) (f10 : CZF (pm_0) (faces_0) (drawnEdge_0)) (f20 : 0 ≤ x10) (kz_0_32 : 0 ≤ pm_0 ∧ pm_0 ≤ 80) (kz_0_39 : 0 ≤ faces_0 ∧ faces_0 ≤ 120) (ex2 : gx = x1) : 1 * gx + ((-1) * x1 + 0) ≤ 0 := by
  first
    | (have h := ch1_fft ‹CH1 _ _ _ _ _ _› (by omega) ‹FFT _ _ _ _ _›
       have h2 := czf_bd ‹CZF _ _ _› (by omega)
       omega)
    | (have h2 := czf_bd ‹CZF _ _ _› (by omega)
       omega)
    | omega
set_option maxHeartbeats 4000000 in
theorem vc_Mo_draws_24_1 (x1 : Int) (x4 : Int) (x10 : Int) (x11 : Int) (drawnEdge_0 : Int → Int) (pm_0 : Int) (pieceOf_0 : Int → Int) (ends_0 : Int → Int) (faceNodes_0 : Int → Int) (faces_0 : Int) (gx : Int) (k1 : 0 ≤ x1 ∧ x1 ≤ 79) (k4 : 0 ≤ x4 ∧ x4 ≤ 79) (k10 : 0 ≤ x10 ∧ x10 ≤ 79) (k11 : (-1) ≤ x11 ∧ x11 ≤ 119) (d0 : x4 + (-4294967296) ≤ x1 ∧ x1 ≤ x4 + 0) (d1 : x1 + (-4294967296) ≤ x4 ∧ x4 ≤ x1 + 0) (f2 : FFT (faces_0) (ends_0) (faceNodes_0) (x10) (x11)) (f3 : CH1 (pm_0) (faces_0) (pieceOf_0) (ends_0) (faceNodes_0) (x10)) (f10 : CZF (pm_0) (faces_0) (drawnEdge_0)) (f20 : 0 ≤ x10) (kz_0_32 : 0 ≤ pm_0 ∧ pm_0 ≤ 80) (kz_0_39 : 0 ≤ faces_0 ∧ faces_0 ≤ 120) (ex2 : gx = x1) : (-1) * gx + (1 * x1 + 0) ≤ 0 := by
  first
    | (have h := ch1_fft ‹CH1 _ _ _ _ _ _› (by omega) ‹FFT _ _ _ _ _›
       have h2 := czf_bd ‹CZF _ _ _› (by omega)
       omega)
    | (have h2 := czf_bd ‹CZF _ _ _› (by omega)
       omega)
    | omega
set_option maxHeartbeats 4000000 in
theorem vc_Mo_draws_24_2 (x8 : Int) (x10 : Int) (x11 : Int) (drawnEdge_0 : Int → Int) (pm_0 : Int) (pieceOf_0 : Int → Int) (ends_0 : Int → Int) (faceNodes_0 : Int → Int) (faces_0 : Int) (gy : Int) (k8 : (-2) ≤ x8 ∧ x8 ≤ 120) (k10 : 0 ≤ x10 ∧ x10 ≤ 79) (k11 : (-1) ≤ x11 ∧ x11 ≤ 119) (f2 : FFT (faces_0) (ends_0) (faceNodes_0) (x10) (x11)) (f3 : CH1 (pm_0) (faces_0) (pieceOf_0) (ends_0) (faceNodes_0) (x10)) (f10 : CZF (pm_0) (faces_0) (drawnEdge_0)) (f20 : 0 ≤ x10) (kz_0_32 : 0 ≤ pm_0 ∧ pm_0 ≤ 80) (kz_0_39 : 0 ≤ faces_0 ∧ faces_0 ≤ 120) (ey2 : gy = x8) : 1 * gy + ((-1) * x8 + 0) ≤ 0 := by
  first
    | (have h := ch1_fft ‹CH1 _ _ _ _ _ _› (by omega) ‹FFT _ _ _ _ _›
       have h2 := czf_bd ‹CZF _ _ _› (by omega)
       omega)
    | (have h2 := czf_bd ‹CZF _ _ _› (by omega)
       omega)
    | omega
set_option maxHeartbeats 4000000 in
theorem vc_Mo_draws_24_3 (x8 : Int) (x10 : Int) (x11 : Int) (drawnEdge_0 : Int → Int) (pm_0 : Int) (pieceOf_0 : Int → Int) (ends_0 : Int → Int) (faceNodes_0 : Int → Int) (faces_0 : Int) (gy : Int) (k8 : (-2) ≤ x8 ∧ x8 ≤ 120) (k10 : 0 ≤ x10 ∧ x10 ≤ 79) (k11 : (-1) ≤ x11 ∧ x11 ≤ 119) (f2 : FFT (faces_0) (ends_0) (faceNodes_0) (x10) (x11)) (f3 : CH1 (pm_0) (faces_0) (pieceOf_0) (ends_0) (faceNodes_0) (x10)) (f10 : CZF (pm_0) (faces_0) (drawnEdge_0)) (f20 : 0 ≤ x10) (kz_0_32 : 0 ≤ pm_0 ∧ pm_0 ≤ 80) (kz_0_39 : 0 ≤ faces_0 ∧ faces_0 ≤ 120) (ey2 : gy = x8) : (-1) * gy + (1 * x8 + 0) ≤ 0 := by
  first
    | (have h := ch1_fft ‹CH1 _ _ _ _ _ _› (by omega) ‹FFT _ _ _ _ _›
       have h2 := czf_bd ‹CZF _ _ _› (by omega)
       omega)
    | (have h2 := czf_bd ‹CZF _ _ _› (by omega)
       omega)
    | omega
set_option maxHeartbeats 4000000 in
theorem vc_Mo_draws_24_4 (x1 : Int) (x10 : Int) (x11 : Int) (alive_0 : Int → Int) (drawnEdge_0 : Int → Int) (pm_0 : Int) (pt_0 : Int → Int) (ph_0 : Int → Int) (pieceOf_0 : Int → Int) (drawnNode_0 : Int → Int) (ends_0 : Int → Int) (pn_0 : Int) (faceNodes_0 : Int → Int) (faces_0 : Int) (blockOf_0 : Int → Int) (faceMany_0 : Int → Int) (face_0 : Int → Int) (way_0 : Int → Int) (wayMany_0 : Int) (gx : Int) (k1 : 0 ≤ x1 ∧ x1 ≤ 79) (k10 : 0 ≤ x10 ∧ x10 ≤ 79) (k11 : (-1) ≤ x11 ∧ x11 ≤ 119) (f2 : FFT (faces_0) (ends_0) (faceNodes_0) (x10) (x11)) (f3 : CH1 (pm_0) (faces_0) (pieceOf_0) (ends_0) (faceNodes_0) (x10)) (f5 : GOK (pn_0) (pm_0) (pt_0) (ph_0)) (f8 : DSB (pm_0) (pt_0) (ph_0) (alive_0) (blockOf_0) (drawnEdge_0) (drawnNode_0) (x1)) (f9 : FI (pm_0) (faces_0) (pt_0) (ph_0) (alive_0) (blockOf_0) (drawnEdge_0) (faceMany_0) (face_0) (x1)) (f10 : CZF (pm_0) (faces_0) (drawnEdge_0)) (f16 : FCF (faces_0) (faceMany_0) (face_0) (faceNodes_0)) (f17 : WOP (pn_0) (pm_0) (wayMany_0) (pt_0) (ph_0) (alive_0) (drawnEdge_0) (pieceOf_0) (drawnNode_0) (ends_0) (way_0) (x10)) (f20 : 0 ≤ x10) (kz_0_31 : 0 ≤ pn_0 ∧ pn_0 ≤ 25) (kz_0_32 : 0 ≤ pm_0 ∧ pm_0 ≤ 80) (kz_0_39 : 0 ≤ faces_0 ∧ faces_0 ≤ 120) (kz_0_45 : 0 ≤ wayMany_0 ∧ wayMany_0 ≤ 30) (ex2 : gx = x1) : SPR (pn_0) (pm_0) (faces_0) (wayMany_0) (pt_0) (ph_0) (alive_0) (blockOf_0) (drawnEdge_0) (faceMany_0) (face_0) (way_0) (gx) (x11) := by
  rw [ex2]
  exact spr_of ‹GOK _ _ _ _› (by omega) ‹FI _ _ _ _ _ _ _ _ _ _› ‹DSB _ _ _ _ _ _ _ _› ‹CZF _ _ _› ‹WOP _ _ _ _ _ _ _ _ _ _ _ _› ‹FFT _ _ _ _ _› ‹FCF _ _ _ _› (by first | omega | (have h := ch1_fft ‹CH1 _ _ _ _ _ _› (by omega) ‹FFT _ _ _ _ _›; omega))
set_option maxHeartbeats 4000000 in
theorem vc_Mo_draws_24_5 (x10 : Int) (x11 : Int) (drawnEdge_0 : Int → Int) (pm_0 : Int) (pieceOf_0 : Int → Int) (ends_0 : Int → Int) (faceNodes_0 : Int → Int) (faces_0 : Int) (k10 : 0 ≤ x10 ∧ x10 ≤ 79) (k11 : (-1) ≤ x11 ∧ x11 ≤ 119) (f2 : FFT (faces_0) (ends_0) (faceNodes_0) (x10) (x11)) (f3 : CH1 (pm_0) (faces_0) (pieceOf_0) (ends_0) (faceNodes_0) (x10)) (f10 : CZF (pm_0) (faces_0) (drawnEdge_0)) (f20 : 0 ≤ x10) (kz_0_32 : 0 ≤ pm_0 ∧ pm_0 ≤ 80) (kz_0_39 : 0 ≤ faces_0 ∧ faces_0 ≤ 120) : faces_0 ≤ 118 := by
  first
    | (have h := ch1_fft ‹CH1 _ _ _ _ _ _› (by omega) ‹FFT _ _ _ _ _›
       have h2 := czf_bd ‹CZF _ _ _› (by omega)
       omega)
    | (have h2 := czf_bd ‹CZF _ _ _› (by omega)
       omega)
    | omega
set_option maxHeartbeats 4000000 in
theorem vc_Mo_draws_24_6 (x8 : Int) (x10 : Int) (x11 : Int) (drawnEdge_0 : Int → Int) (pm_0 : Int) (pieceOf_0 : Int → Int) (ends_0 : Int → Int) (faceNodes_0 : Int → Int) (faces_0 : Int) (gy : Int) (k8 : (-2) ≤ x8 ∧ x8 ≤ 120) (k10 : 0 ≤ x10 ∧ x10 ≤ 79) (k11 : (-1) ≤ x11 ∧ x11 ≤ 119) (f2 : FFT (faces_0) (ends_0) (faceNodes_0) (x10) (x11)) (f3 : CH1 (pm_0) (faces_0) (pieceOf_0) (ends_0) (faceNodes_0) (x10)) (f10 : CZF (pm_0) (faces_0) (drawnEdge_0)) (f11 : (-1) * faces_0 + ((-1) * x8 + 0) ≤ (-120)) (f20 : 0 ≤ x10) (kz_0_32 : 0 ≤ pm_0 ∧ pm_0 ≤ 80) (kz_0_39 : 0 ≤ faces_0 ∧ faces_0 ≤ 120) (ey2 : gy = x8) : (-1) * faces_0 + ((-1) * gy + 0) ≤ (-120) := by
  first
    | (have h := ch1_fft ‹CH1 _ _ _ _ _ _› (by omega) ‹FFT _ _ _ _ _›
       have h2 := czf_bd ‹CZF _ _ _› (by omega)
       omega)
    | (have h2 := czf_bd ‹CZF _ _ _› (by omega)
       omega)
    | omega
def o_Mo_draws_24 : or_T := (341, 12, [(0, (2, 0, 0, [165])), (1, (0, 0, 79, [])), (2, (0, 0, 80, [])), (3, (2, 0, 0, [165])), (4, (0, 0, 79, [])), (8, (0, -2, 120, [])), (9, (0, 1, 1, [])), (10, (0, 0, 79, [])), (11, (0, -1, 119, []))], [(20, [3], [60, 1, 2, 122, 32, 35, 43]), (20, [3, 10], [60, 2, 6, 135, 31, 32, 33, 34, 43, 44, 42, 50]), (20, [3, 10, 11], [60, 1, 2, 117, 39, 50, 51]), (20, [3, 10], [60, 2, 3, 118, 32, 39, 44, 50, 51]), (20, [3, 9], [60, 1, 1, 155, 32, 43]), (20, [3], [60, 2, 2, 75, 31, 32, 33, 34]), (20, [3, 2], [60, 1, 4, 97, 32, 33, 34, 35, 17]), (23, [4, 2], [-1, 1, -1]), (20, [3, 4], [60, 1, 6, 166, 32, 33, 34, 35, 17, 43, 42]), (20, [3, 4], [60, 2, 7, 167, 32, 39, 33, 34, 35, 17, 43, 40, 41]), (20, [3], [60, 2, 1, 168, 32, 39, 43]), (20, [3, 8], [30, -120, -1, 1, 39, -1, 0, 0]), (24, [0, 3], []), (24, [1, 4], []), (20, [3], [60, 1, 5, 106, 32, 33, 34, 43, 42, 44]), (20, [3], [60, 1, 6, 109, 32, 33, 34, 43, 42, 44, 50]), (20, [3], [60, 1, 3, 113, 39, 40, 41, 51]), (20, [3, 10], [60, 3, 8, 142, 31, 32, 45, 33, 34, 35, 43, 44, 42, 50, 46]), (20, [3], [50, 1, 0, 49, 1, 3, 2, 0, 49, 0, -1]), (102, [11], [59632466486173467256439999520472830952972376722408327872512, 165045, 165049]), (8, [10], [3]), (23, [4, 2], [-1, 1, -1]), (102, [9], [37662610412320084583014736539245998496614132666784207077376]), (23, [4, 2], [-1, 1, -1]), (102, [9], [1569275433846670190958947355801916604025588861116008628224]), (8, [9], [1]), (23, [4, 2], [-1, 1, -1])], [(11, (0, 0, 119, []))], [(0, 0, 79, []), (0, -2, 120, [])], [(23, [12, 4], [0, 1, -1]), (23, [12, 4], [0, -1, 1]), (23, [13, 8], [0, 1, -1]), (23, [13, 8], [0, -1, 1]), (20, [3, 12, 11], [60, 4, 8, 143, 31, 32, 39, 45, 33, 34, 35, 17, 43, 40, 41, 46]), (20, [3], [50, 1, 0, 39, 0, 3, 2, 0, 39, 0, 118]), (20, [3, 13], [30, -120, -1, 1, 39, -1, 0, 0])], [], [(1, 4, -4294967296, 0), (4, 1, -4294967296, 0)])
theorem oo_Mo_draws_24 {kA : Nat → ClassId} : or_ok PRD kA GG o_Mo_draws_24 := by
  refine or_mk fun A ta ws vs hD hth hl => ?_
  intro t0 r0 t1 k1 t2 k2 t3 r3 t4 k4 t8 k8 t9 k9 t10 k10 t11 k11 d0 d1 f0 f1 f2 f3 f4 f5 f6 f7 f8 f9 f10 f11 f12 f13 f14 f15 f16 f17 f18 ta1 w1 le1 s1 f20 f21 ta2 w2 le2 s2 f23 ta3 w3 le3 s3 f25 f26
  replace f2 := shm_992 f2
  replace f3 := shm_973 f3
  replace f5 := shm_575 f5
  replace f8 := shm_1978 f8
  replace f9 := shm_1979 f9
  replace f10 := shm_1980 f10
  replace f11 := shm_735 f11
  replace f12 := shm_5 f12
  replace f13 := shm_5 f13
  replace f16 := shm_534 f16
  replace f17 := shm_1679 f17
  replace f20 := shm_32 f20
  have q3 : n_v vs 3 = n_v vs 0 := f12.symm
  have q4 : n_v vs 4 = n_v vs 1 := f13.symm
  simp only [q3, q4] at f2 f3 f5 f8 f9 f10 f11 f16 f17
  have kz_0_31 := fdq_145 hD hth r0
  have kz_0_32 := fdq_140 hD hth r0
  have kz_0_39 := fdq_135 hD hth r0
  have kz_0_45 := fdq_191 hD hth r0
  obtain ⟨x, ex, hx⟩ := iv_ex (ta := ta) (lo := 0) (hi := 79) (z := v_iv (n_v vs 1)) (by omega) (by omega) (by omega) (by omega)
  have ex2 : v_iv (Value.int x) = v_iv (n_v vs 1) := ex
  have ex3 : 0 ≤ v_iv (Value.int x) ∧ v_iv (Value.int x) ≤ 79 := tv_rng hx
  obtain ⟨y, ey, hy⟩ := iv_ex (ta := ta) (lo := (-2)) (hi := 120) (z := v_iv (n_v vs 8)) (by omega) (by omega) (by omega) (by omega)
  have ey2 : v_iv (Value.int y) = v_iv (n_v vs 8) := ey
  have ey3 : (-2) ≤ v_iv (Value.int y) ∧ v_iv (Value.int y) ≤ 120 := tv_rng hy
  have hrf0 : 0 ≤ v_iv (n_v vs 11) ∧ v_iv (n_v vs 11) ≤ 119 := vc_Mo_draws_24_r0 (v_iv (n_v vs 10)) (v_iv (n_v vs 11)) (w_ei ws (w_ar ws (n_v vs 0) 43)) (w_fi ws (n_v vs 0) 32) (w_ei ws (w_ar ws (n_v vs 0) 44)) (w_ei ws (w_ar ws (n_v vs 0) 50)) (w_ei ws (w_ar ws (n_v vs 0) 51)) (w_fi ws (n_v vs 0) 39) k10 k11 f2 f3 f10 f20 kz_0_32 kz_0_39
  have e_3 : n_v (vs ++ [Value.int x, Value.int y]) 3 = n_v vs 3 := n_v_old (by rw [hl]; decide)
  have e_4 : n_v (vs ++ [Value.int x, Value.int y]) 4 = n_v vs 4 := n_v_old (by rw [hl]; decide)
  have e_8 : n_v (vs ++ [Value.int x, Value.int y]) 8 = n_v vs 8 := n_v_old (by rw [hl]; decide)
  have e_11 : n_v (vs ++ [Value.int x, Value.int y]) 11 = n_v vs 11 := n_v_old (by rw [hl]; decide)
  have e_12 : n_v (vs ++ [Value.int x, Value.int y]) 12 = Value.int x := n_v_new0 hl
  have e_13 : n_v (vs ++ [Value.int x, Value.int y]) 13 = Value.int y := n_v_new1 hl
  have nf0 : fc_1 PRD (23, [12, 4], [0, 1, -1]) ws (vs ++ [Value.int x, Value.int y]) := by
    refine ⟨nf_inA hl rfl, sgq_7 ?_⟩
    · show 1 * v_iv (n_v (vs ++ [Value.int x, Value.int y]) 12) + ((-1) * v_iv (n_v (vs ++ [Value.int x, Value.int y]) 4) + 0) ≤ 0
      simp only [e_4, e_12, q4]
      exact vc_Mo_draws_24_0 (v_iv (n_v vs 1)) (v_iv (n_v vs 4)) (v_iv (n_v vs 10)) (v_iv (n_v vs 11)) (w_ei ws (w_ar ws (n_v vs 0) 43)) (w_fi ws (n_v vs 0) 32) (w_ei ws (w_ar ws (n_v vs 0) 44)) (w_ei ws (w_ar ws (n_v vs 0) 50)) (w_ei ws (w_ar ws (n_v vs 0) 51)) (w_fi ws (n_v vs 0) 39) (v_iv (Value.int x)) k1 k4 k10 k11 d0 d1 f2 f3 f10 f20 kz_0_32 kz_0_39 ex2
  have nf1 : fc_1 PRD (23, [12, 4], [0, -1, 1]) ws (vs ++ [Value.int x, Value.int y]) := by
    refine ⟨nf_inA hl rfl, sgq_22 ?_⟩
    · show (-1) * v_iv (n_v (vs ++ [Value.int x, Value.int y]) 12) + (1 * v_iv (n_v (vs ++ [Value.int x, Value.int y]) 4) + 0) ≤ 0
      simp only [e_4, e_12, q4]
      exact vc_Mo_draws_24_1 (v_iv (n_v vs 1)) (v_iv (n_v vs 4)) (v_iv (n_v vs 10)) (v_iv (n_v vs 11)) (w_ei ws (w_ar ws (n_v vs 0) 43)) (w_fi ws (n_v vs 0) 32) (w_ei ws (w_ar ws (n_v vs 0) 44)) (w_ei ws (w_ar ws (n_v vs 0) 50)) (w_ei ws (w_ar ws (n_v vs 0) 51)) (w_fi ws (n_v vs 0) 39) (v_iv (Value.int x)) k1 k4 k10 k11 d0 d1 f2 f3 f10 f20 kz_0_32 kz_0_39 ex2
  have nf2 : fc_1 PRD (23, [13, 8], [0, 1, -1]) ws (vs ++ [Value.int x, Value.int y]) := by
    refine ⟨nf_inA hl rfl, sgq_7 ?_⟩
    · show 1 * v_iv (n_v (vs ++ [Value.int x, Value.int y]) 13) + ((-1) * v_iv (n_v (vs ++ [Value.int x, Value.int y]) 8) + 0) ≤ 0
      simp only [e_8, e_13]
      exact vc_Mo_draws_24_2 (v_iv (n_v vs 8)) (v_iv (n_v vs 10)) (v_iv (n_v vs 11)) (w_ei ws (w_ar ws (n_v vs 0) 43)) (w_fi ws (n_v vs 0) 32) (w_ei ws (w_ar ws (n_v vs 0) 44)) (w_ei ws (w_ar ws (n_v vs 0) 50)) (w_ei ws (w_ar ws (n_v vs 0) 51)) (w_fi ws (n_v vs 0) 39) (v_iv (Value.int y)) k8 k10 k11 f2 f3 f10 f20 kz_0_32 kz_0_39 ey2
  have nf3 : fc_1 PRD (23, [13, 8], [0, -1, 1]) ws (vs ++ [Value.int x, Value.int y]) := by
    refine ⟨nf_inA hl rfl, sgq_22 ?_⟩
    · show (-1) * v_iv (n_v (vs ++ [Value.int x, Value.int y]) 13) + (1 * v_iv (n_v (vs ++ [Value.int x, Value.int y]) 8) + 0) ≤ 0
      simp only [e_8, e_13]
      exact vc_Mo_draws_24_3 (v_iv (n_v vs 8)) (v_iv (n_v vs 10)) (v_iv (n_v vs 11)) (w_ei ws (w_ar ws (n_v vs 0) 43)) (w_fi ws (n_v vs 0) 32) (w_ei ws (w_ar ws (n_v vs 0) 44)) (w_ei ws (w_ar ws (n_v vs 0) 50)) (w_ei ws (w_ar ws (n_v vs 0) 51)) (w_fi ws (n_v vs 0) 39) (v_iv (Value.int y)) k8 k10 k11 f2 f3 f10 f20 kz_0_32 kz_0_39 ey2
  have nf4 : fc_1 PRD (20, [3, 12, 11], [60, 4, 8, 143, 31, 32, 39, 45, 33, 34, 35, 17, 43, 40, 41, 46]) ws (vs ++ [Value.int x, Value.int y]) := by
    refine ⟨nf_inA hl rfl, sgq_733 ?_⟩
    · show SPR (w_fi ws (n_v (vs ++ [Value.int x, Value.int y]) 3) 31) (w_fi ws (n_v (vs ++ [Value.int x, Value.int y]) 3) 32) (w_fi ws (n_v (vs ++ [Value.int x, Value.int y]) 3) 39) (w_fi ws (n_v (vs ++ [Value.int x, Value.int y]) 3) 45) (w_ei ws (w_ar ws (n_v (vs ++ [Value.int x, Value.int y]) 3) 33)) (w_ei ws (w_ar ws (n_v (vs ++ [Value.int x, Value.int y]) 3) 34)) (w_ei ws (w_ar ws (n_v (vs ++ [Value.int x, Value.int y]) 3) 35)) (w_ei ws (w_ar ws (n_v (vs ++ [Value.int x, Value.int y]) 3) 17)) (w_ei ws (w_ar ws (n_v (vs ++ [Value.int x, Value.int y]) 3) 43)) (w_ei ws (w_ar ws (n_v (vs ++ [Value.int x, Value.int y]) 3) 40)) (w_ei ws (w_ar ws (n_v (vs ++ [Value.int x, Value.int y]) 3) 41)) (w_ei ws (w_ar ws (n_v (vs ++ [Value.int x, Value.int y]) 3) 46)) (v_iv (n_v (vs ++ [Value.int x, Value.int y]) 12)) (v_iv (n_v (vs ++ [Value.int x, Value.int y]) 11))
      simp only [e_3, e_11, e_12, q3]
      exact vc_Mo_draws_24_4 (v_iv (n_v vs 1)) (v_iv (n_v vs 10)) (v_iv (n_v vs 11)) (w_ei ws (w_ar ws (n_v vs 0) 35)) (w_ei ws (w_ar ws (n_v vs 0) 43)) (w_fi ws (n_v vs 0) 32) (w_ei ws (w_ar ws (n_v vs 0) 33)) (w_ei ws (w_ar ws (n_v vs 0) 34)) (w_ei ws (w_ar ws (n_v vs 0) 44)) (w_ei ws (w_ar ws (n_v vs 0) 42)) (w_ei ws (w_ar ws (n_v vs 0) 50)) (w_fi ws (n_v vs 0) 31) (w_ei ws (w_ar ws (n_v vs 0) 51)) (w_fi ws (n_v vs 0) 39) (w_ei ws (w_ar ws (n_v vs 0) 17)) (w_ei ws (w_ar ws (n_v vs 0) 40)) (w_ei ws (w_ar ws (n_v vs 0) 41)) (w_ei ws (w_ar ws (n_v vs 0) 46)) (w_fi ws (n_v vs 0) 45) (v_iv (Value.int x)) k1 k10 k11 f2 f3 f5 f8 f9 f10 f16 f17 f20 kz_0_31 kz_0_32 kz_0_39 kz_0_45 ex2
  have nf5 : fc_1 PRD (20, [3], [50, 1, 0, 39, 0, 3, 2, 0, 39, 0, 118]) ws (vs ++ [Value.int x, Value.int y]) := by
    refine ⟨nf_inA hl rfl, sgq_734 ?_⟩
    · show w_fi ws (n_v (vs ++ [Value.int x, Value.int y]) 3) 39 ≤ 118
      simp only [e_3, q3]
      exact vc_Mo_draws_24_5 (v_iv (n_v vs 10)) (v_iv (n_v vs 11)) (w_ei ws (w_ar ws (n_v vs 0) 43)) (w_fi ws (n_v vs 0) 32) (w_ei ws (w_ar ws (n_v vs 0) 44)) (w_ei ws (w_ar ws (n_v vs 0) 50)) (w_ei ws (w_ar ws (n_v vs 0) 51)) (w_fi ws (n_v vs 0) 39) k10 k11 f2 f3 f10 f20 kz_0_32 kz_0_39
  have nf6 : fc_1 PRD (20, [3, 13], [30, -120, -1, 1, 39, -1, 0, 0]) ws (vs ++ [Value.int x, Value.int y]) := by
    refine ⟨nf_inA hl rfl, sgq_735 ?_⟩
    · show (-1) * w_fi ws (n_v (vs ++ [Value.int x, Value.int y]) 3) 39 + ((-1) * v_iv (n_v (vs ++ [Value.int x, Value.int y]) 13) + 0) ≤ (-120)
      simp only [e_3, e_13, q3]
      exact vc_Mo_draws_24_6 (v_iv (n_v vs 8)) (v_iv (n_v vs 10)) (v_iv (n_v vs 11)) (w_ei ws (w_ar ws (n_v vs 0) 43)) (w_fi ws (n_v vs 0) 32) (w_ei ws (w_ar ws (n_v vs 0) 44)) (w_ei ws (w_ar ws (n_v vs 0) 50)) (w_ei ws (w_ar ws (n_v vs 0) 51)) (w_fi ws (n_v vs 0) 39) (v_iv (Value.int y)) k8 k10 k11 f2 f3 f10 f11 f20 kz_0_32 kz_0_39 ey2
  have rf11 : tv_ok ta (0, 0, 119, []) (n_v vs 11) := tv_in t11 (by first | omega | grind) (by first | omega | grind)
  exact ⟨List.forall_mem_cons.mpr ⟨rf11, (fun _ h => (by cases h))⟩, [Value.int x, Value.int y], ag_two hx hy, List.forall_mem_cons.mpr ⟨⟨show (23 : Nat) < 100 from by decide, nf0⟩, List.forall_mem_cons.mpr ⟨⟨show (23 : Nat) < 100 from by decide, nf1⟩, List.forall_mem_cons.mpr ⟨⟨show (23 : Nat) < 100 from by decide, nf2⟩, List.forall_mem_cons.mpr ⟨⟨show (23 : Nat) < 100 from by decide, nf3⟩, List.forall_mem_cons.mpr ⟨⟨show (20 : Nat) < 100 from by decide, nf4⟩, List.forall_mem_cons.mpr ⟨⟨show (20 : Nat) < 100 from by decide, nf5⟩, List.forall_mem_cons.mpr ⟨⟨show (20 : Nat) < 100 from by decide, nf6⟩, (fun _ h => (by cases h))⟩⟩⟩⟩⟩⟩⟩, (fun _ h => (by cases h))⟩
set_option maxHeartbeats 4000000 in
theorem vc_Mo_draws_25_0 (x1 : Int) (x4 : Int) (x12 : Int) (gx : Int) (k1 : 0 ≤ x1 ∧ x1 ≤ 79) (k4 : 0 ≤ x4 ∧ x4 ≤ 79) (k12 : 0 ≤ x12 ∧ x12 ≤ 79) (d0 : x4 + (-4294967296) ≤ x1 ∧ x1 ≤ x4 + 0) (d1 : x1 + (-4294967296) ≤ x4 ∧ x4 ≤ x1 + 0) (f0 : 1 * x12 + ((-1) * x1 + 0) ≤ 0) (f1 : (-1) * x12 + (1 * x1 + 0) ≤ 0) (ex2 : gx = x1) : 1 * gx + ((-1) * x1 + 0) ≤ 0 := by
  first | omega
set_option maxHeartbeats 4000000 in
theorem vc_Mo_draws_25_1 (x1 : Int) (x4 : Int) (x12 : Int) (gx : Int) (k1 : 0 ≤ x1 ∧ x1 ≤ 79) (k4 : 0 ≤ x4 ∧ x4 ≤ 79) (k12 : 0 ≤ x12 ∧ x12 ≤ 79) (d0 : x4 + (-4294967296) ≤ x1 ∧ x1 ≤ x4 + 0) (d1 : x1 + (-4294967296) ≤ x4 ∧ x4 ≤ x1 + 0) (f0 : 1 * x12 + ((-1) * x1 + 0) ≤ 0) (f1 : (-1) * x12 + (1 * x1 + 0) ≤ 0) (ex2 : gx = x1) : (-1) * gx + (1 * x1 + 0) ≤ 0 := by
  first | omega
set_option maxHeartbeats 4000000 in
theorem vc_Mo_draws_25_2 (pm_0 : Int) (pt_0 : Int → Int) (ph_0 : Int → Int) (pn_0 : Int) (f7 : GOK (pn_0) (pm_0) (pt_0) (ph_0)) (kz_0_31 : 0 ≤ pn_0 ∧ pn_0 ≤ 25) (kz_0_32 : 0 ≤ pm_0 ∧ pm_0 ≤ 80) : GOK (pn_0) (pm_0) (pt_0) (ph_0) := by
  first | assumption
set_option maxHeartbeats 4000000 in
theorem vc_Mo_draws_25_3 (x1 : Int) (x4 : Int) (x10 : Int) (x12 : Int) (alive_0 : Int → Int) (drawnEdge_0 : Int → Int) (pm_0 : Int) (pt_0 : Int → Int) (ph_0 : Int → Int) (pieceOf_0 : Int → Int) (drawnNode_0 : Int → Int) (ends_0 : Int → Int) (pn_0 : Int) (blockOf_0 : Int → Int) (way_0 : Int → Int) (wayMany_0 : Int) (faceMany_0 : Int → Int) (face_0 : Int → Int) (faces_0 : Int) (gx : Int) (k1 : 0 ≤ x1 ∧ x1 ≤ 79) (k4 : 0 ≤ x4 ∧ x4 ≤ 79) (k10 : 0 ≤ x10 ∧ x10 ≤ 79) (k12 : 0 ≤ x12 ∧ x12 ≤ 79) (d0 : x4 + (-4294967296) ≤ x1 ∧ x1 ≤ x4 + 0) (d1 : x1 + (-4294967296) ≤ x4 ∧ x4 ≤ x1 + 0) (f0 : 1 * x12 + ((-1) * x1 + 0) ≤ 0) (f1 : (-1) * x12 + (1 * x1 + 0) ≤ 0) (f7 : GOK (pn_0) (pm_0) (pt_0) (ph_0)) (f10 : DSB (pm_0) (pt_0) (ph_0) (alive_0) (blockOf_0) (drawnEdge_0) (drawnNode_0) (x1)) (f15 : WOP (pn_0) (pm_0) (wayMany_0) (pt_0) (ph_0) (alive_0) (drawnEdge_0) (pieceOf_0) (drawnNode_0) (ends_0) (way_0) (x10)) (f17 : SPQ (pm_0) (faces_0) (wayMany_0) (pt_0) (ph_0) (alive_0) (blockOf_0) (drawnEdge_0) (faceMany_0) (face_0) (way_0) (x12)) (kz_0_31 : 0 ≤ pn_0 ∧ pn_0 ≤ 25) (kz_0_32 : 0 ≤ pm_0 ∧ pm_0 ≤ 80) (kz_0_39 : 0 ≤ faces_0 ∧ faces_0 ≤ 120) (kz_0_45 : 0 ≤ wayMany_0 ∧ wayMany_0 ≤ 30) (ex2 : gx = x1) : DWP (pn_0) (pm_0) (faces_0) (wayMany_0) (pt_0) (ph_0) (alive_0) (blockOf_0) (drawnEdge_0) (drawnNode_0) (faceMany_0) (face_0) (way_0) (gx) := by
  have q := ‹SPQ _ _ _ _ _ _ _ _ _ _ _ _›
  rw [show x12 = x1 by omega] at q
  rw [ex2]
  exact dwp_of ‹GOK _ _ _ _› ‹DSB _ _ _ _ _ _ _ _› ‹WOP _ _ _ _ _ _ _ _ _ _ _ _› q
def o_Mo_draws_25 : or_T := (345, 14, [(0, (2, 0, 0, [165])), (1, (0, 0, 79, [])), (4, (0, 0, 79, [])), (10, (0, 0, 79, [])), (12, (0, 0, 79, []))], [(23, [12, 4], [0, 1, -1]), (23, [12, 4], [0, -1, 1]), (20, [3], [60, 2, 2, 75, 31, 32, 33, 34]), (20, [3, 4], [60, 1, 6, 166, 32, 33, 34, 35, 17, 43, 42]), (24, [0, 3], []), (24, [1, 4], []), (20, [3, 10], [60, 3, 8, 142, 31, 32, 45, 33, 34, 35, 43, 44, 42, 50, 46]), (20, [3, 12], [60, 3, 8, 151, 32, 39, 45, 33, 34, 35, 17, 43, 40, 41, 46])], [], [(0, 0, 79, [])], [(23, [14, 4], [0, 1, -1]), (23, [14, 4], [0, -1, 1]), (20, [3], [60, 2, 2, 75, 31, 32, 33, 34]), (20, [3, 14], [60, 4, 9, 152, 31, 32, 39, 45, 33, 34, 35, 17, 43, 42, 40, 41, 46])], [], [(1, 4, -4294967296, 0), (4, 1, -4294967296, 0)])
theorem oo_Mo_draws_25 {kA : Nat → ClassId} : or_ok PRD kA GG o_Mo_draws_25 := by
  refine or_mk fun A ta ws vs hD hth hl => ?_
  intro t0 r0 t1 k1 t4 k4 t10 k10 t12 k12 d0 d1 f0 f1 f7 f10 f11 f12 f15 f17
  replace f0 := shm_7 f0
  replace f1 := shm_22 f1
  replace f7 := shm_575 f7
  replace f10 := shm_1978 f10
  replace f11 := shm_5 f11
  replace f12 := shm_5 f12
  replace f15 := shm_1679 f15
  replace f17 := shm_747 f17
  have q3 : n_v vs 3 = n_v vs 0 := f11.symm
  have q4 : n_v vs 4 = n_v vs 1 := f12.symm
  simp only [q4, q3] at f0 f1 f7 f10 f15 f17
  have kz_0_31 := fdq_145 hD hth r0
  have kz_0_32 := fdq_140 hD hth r0
  have kz_0_39 := fdq_135 hD hth r0
  have kz_0_45 := fdq_191 hD hth r0
  obtain ⟨x, ex, hx⟩ := iv_ex (ta := ta) (lo := 0) (hi := 79) (z := v_iv (n_v vs 1)) (by omega) (by omega) (by omega) (by omega)
  have ex2 : v_iv (Value.int x) = v_iv (n_v vs 1) := ex
  have ex3 : 0 ≤ v_iv (Value.int x) ∧ v_iv (Value.int x) ≤ 79 := tv_rng hx
  have e_3 : n_v (vs ++ [Value.int x]) 3 = n_v vs 3 := n_v_old (by rw [hl]; decide)
  have e_4 : n_v (vs ++ [Value.int x]) 4 = n_v vs 4 := n_v_old (by rw [hl]; decide)
  have e_14 : n_v (vs ++ [Value.int x]) 14 = Value.int x := n_v_new hl
  have nf0 : fc_1 PRD (23, [14, 4], [0, 1, -1]) ws (vs ++ [Value.int x]) := by
    refine ⟨nf_inA hl rfl, sgq_7 ?_⟩
    · show 1 * v_iv (n_v (vs ++ [Value.int x]) 14) + ((-1) * v_iv (n_v (vs ++ [Value.int x]) 4) + 0) ≤ 0
      simp only [e_4, e_14, q4]
      exact vc_Mo_draws_25_0 (v_iv (n_v vs 1)) (v_iv (n_v vs 4)) (v_iv (n_v vs 12)) (v_iv (Value.int x)) k1 k4 k12 d0 d1 f0 f1 ex2
  have nf1 : fc_1 PRD (23, [14, 4], [0, -1, 1]) ws (vs ++ [Value.int x]) := by
    refine ⟨nf_inA hl rfl, sgq_22 ?_⟩
    · show (-1) * v_iv (n_v (vs ++ [Value.int x]) 14) + (1 * v_iv (n_v (vs ++ [Value.int x]) 4) + 0) ≤ 0
      simp only [e_4, e_14, q4]
      exact vc_Mo_draws_25_1 (v_iv (n_v vs 1)) (v_iv (n_v vs 4)) (v_iv (n_v vs 12)) (v_iv (Value.int x)) k1 k4 k12 d0 d1 f0 f1 ex2
  have nf2 : fc_1 PRD (20, [3], [60, 2, 2, 75, 31, 32, 33, 34]) ws (vs ++ [Value.int x]) := by
    refine ⟨nf_inA hl rfl, sgq_575 ?_⟩
    · show GOK (w_fi ws (n_v (vs ++ [Value.int x]) 3) 31) (w_fi ws (n_v (vs ++ [Value.int x]) 3) 32) (w_ei ws (w_ar ws (n_v (vs ++ [Value.int x]) 3) 33)) (w_ei ws (w_ar ws (n_v (vs ++ [Value.int x]) 3) 34))
      simp only [e_3, q3]
      exact vc_Mo_draws_25_2 (w_fi ws (n_v vs 0) 32) (w_ei ws (w_ar ws (n_v vs 0) 33)) (w_ei ws (w_ar ws (n_v vs 0) 34)) (w_fi ws (n_v vs 0) 31) f7 kz_0_31 kz_0_32
  have nf3 : fc_1 PRD (20, [3, 14], [60, 4, 9, 152, 31, 32, 39, 45, 33, 34, 35, 17, 43, 42, 40, 41, 46]) ws (vs ++ [Value.int x]) := by
    refine ⟨nf_inA hl rfl, sgq_1125 ?_⟩
    · show DWP (w_fi ws (n_v (vs ++ [Value.int x]) 3) 31) (w_fi ws (n_v (vs ++ [Value.int x]) 3) 32) (w_fi ws (n_v (vs ++ [Value.int x]) 3) 39) (w_fi ws (n_v (vs ++ [Value.int x]) 3) 45) (w_ei ws (w_ar ws (n_v (vs ++ [Value.int x]) 3) 33)) (w_ei ws (w_ar ws (n_v (vs ++ [Value.int x]) 3) 34)) (w_ei ws (w_ar ws (n_v (vs ++ [Value.int x]) 3) 35)) (w_ei ws (w_ar ws (n_v (vs ++ [Value.int x]) 3) 17)) (w_ei ws (w_ar ws (n_v (vs ++ [Value.int x]) 3) 43)) (w_ei ws (w_ar ws (n_v (vs ++ [Value.int x]) 3) 42)) (w_ei ws (w_ar ws (n_v (vs ++ [Value.int x]) 3) 40)) (w_ei ws (w_ar ws (n_v (vs ++ [Value.int x]) 3) 41)) (w_ei ws (w_ar ws (n_v (vs ++ [Value.int x]) 3) 46)) (v_iv (n_v (vs ++ [Value.int x]) 14))
      simp only [e_3, e_14, q3]
      exact vc_Mo_draws_25_3 (v_iv (n_v vs 1)) (v_iv (n_v vs 4)) (v_iv (n_v vs 10)) (v_iv (n_v vs 12)) (w_ei ws (w_ar ws (n_v vs 0) 35)) (w_ei ws (w_ar ws (n_v vs 0) 43)) (w_fi ws (n_v vs 0) 32) (w_ei ws (w_ar ws (n_v vs 0) 33)) (w_ei ws (w_ar ws (n_v vs 0) 34)) (w_ei ws (w_ar ws (n_v vs 0) 44)) (w_ei ws (w_ar ws (n_v vs 0) 42)) (w_ei ws (w_ar ws (n_v vs 0) 50)) (w_fi ws (n_v vs 0) 31) (w_ei ws (w_ar ws (n_v vs 0) 17)) (w_ei ws (w_ar ws (n_v vs 0) 46)) (w_fi ws (n_v vs 0) 45) (w_ei ws (w_ar ws (n_v vs 0) 40)) (w_ei ws (w_ar ws (n_v vs 0) 41)) (w_fi ws (n_v vs 0) 39) (v_iv (Value.int x)) k1 k4 k10 k12 d0 d1 f0 f1 f7 f10 f15 f17 kz_0_31 kz_0_32 kz_0_39 kz_0_45 ex2
  exact ⟨(fun _ h => (by cases h)), [Value.int x], ag_one hx, List.forall_mem_cons.mpr ⟨⟨show (23 : Nat) < 100 from by decide, nf0⟩, List.forall_mem_cons.mpr ⟨⟨show (23 : Nat) < 100 from by decide, nf1⟩, List.forall_mem_cons.mpr ⟨⟨show (20 : Nat) < 100 from by decide, nf2⟩, List.forall_mem_cons.mpr ⟨⟨show (20 : Nat) < 100 from by decide, nf3⟩, (fun _ h => (by cases h))⟩⟩⟩⟩, (fun _ h => (by cases h))⟩
set_option maxHeartbeats 4000000 in
theorem vc_Mo_draws_26_0 (pt_0 : Int → Int) (ph_0 : Int → Int) (pn_0 : Int) (pm_0 : Int) (f7 : GOK (pn_0) (pm_0) (pt_0) (ph_0)) (kz_0_31 : 0 ≤ pn_0 ∧ pn_0 ≤ 25) (kz_0_32 : 0 ≤ pm_0 ∧ pm_0 ≤ 80) : GOK (pn_0) (pm_0) (pt_0) (ph_0) := by
  first | assumption
set_option maxHeartbeats 4000000 in
theorem vc_Mo_draws_26_1 (x2 : Int) (pt_0 : Int → Int) (ph_0 : Int → Int) (pm_0 : Int) (alive_0 : Int → Int) (blockOf_0 : Int → Int) (k2 : 0 ≤ x2 ∧ x2 ≤ 80) (f8 : BK (pm_0) (pt_0) (ph_0) (alive_0) (blockOf_0) (x2)) (kz_0_32 : 0 ≤ pm_0 ∧ pm_0 ≤ 80) : BK (pm_0) (pt_0) (ph_0) (alive_0) (blockOf_0) (x2) := by
  first | assumption
set_option maxHeartbeats 4000000 in
theorem vc_Mo_draws_26_2 (x1 : Int) (x2 : Int) (k1 : 0 ≤ x1 ∧ x1 ≤ 79) (k2 : 0 ≤ x2 ∧ x2 ≤ 80) (f34 : 1 * x1 + ((-1) * x2 + 0) ≤ (-1)) : 1 * x1 + ((-1) * x2 + 0) ≤ (-1) := by
  first | omega
set_option maxHeartbeats 4000000 in
theorem vc_Mo_draws_26_3 (onlyPiece_0 : Int) (f12 : onlyPiece_0 = (-1)) (kz_0_49 : (-1) ≤ onlyPiece_0 ∧ onlyPiece_0 ≤ 79) : onlyPiece_0 = (-1) := by
  first | omega
set_option maxHeartbeats 4000000 in
theorem vc_Mo_draws_26_4 (x1 : Int) (x4 : Int) (x14 : Int) (pt_0 : Int → Int) (ph_0 : Int → Int) (pm_0 : Int) (alive_0 : Int → Int) (blockOf_0 : Int → Int) (faces_0 : Int) (drawnEdge_0 : Int → Int) (drawnNode_0 : Int → Int) (faceMany_0 : Int → Int) (face_0 : Int → Int) (k1 : 0 ≤ x1 ∧ x1 ≤ 79) (k4 : 0 ≤ x4 ∧ x4 ≤ 79) (k14 : 0 ≤ x14 ∧ x14 ≤ 79) (d0 : x4 + (-4294967296) ≤ x1 ∧ x1 ≤ x4 + 0) (d1 : x1 + (-4294967296) ≤ x4 ∧ x4 ≤ x1 + 0) (f0 : 1 * x14 + ((-1) * x1 + 0) ≤ 0) (f1 : (-1) * x14 + (1 * x1 + 0) ≤ 0) (f14 : DWQ (pm_0) (faces_0) (pt_0) (ph_0) (alive_0) (blockOf_0) (drawnEdge_0) (drawnNode_0) (faceMany_0) (face_0) (x14)) (kz_0_32 : 0 ≤ pm_0 ∧ pm_0 ≤ 80) (kz_0_39 : 0 ≤ faces_0 ∧ faces_0 ≤ 120) : DSB (pm_0) (pt_0) (ph_0) (alive_0) (blockOf_0) (drawnEdge_0) (drawnNode_0) (x1) := by
  have h := ‹DWQ _ _ _ _ _ _ _ _ _ _ _›
  have e : x14 = x1 := by omega
  rw [e] at h; exact h.1
set_option maxHeartbeats 4000000 in
theorem vc_Mo_draws_26_5 (x1 : Int) (x4 : Int) (x14 : Int) (pt_0 : Int → Int) (ph_0 : Int → Int) (pm_0 : Int) (alive_0 : Int → Int) (blockOf_0 : Int → Int) (faces_0 : Int) (drawnEdge_0 : Int → Int) (drawnNode_0 : Int → Int) (faceMany_0 : Int → Int) (face_0 : Int → Int) (k1 : 0 ≤ x1 ∧ x1 ≤ 79) (k4 : 0 ≤ x4 ∧ x4 ≤ 79) (k14 : 0 ≤ x14 ∧ x14 ≤ 79) (d0 : x4 + (-4294967296) ≤ x1 ∧ x1 ≤ x4 + 0) (d1 : x1 + (-4294967296) ≤ x4 ∧ x4 ≤ x1 + 0) (f0 : 1 * x14 + ((-1) * x1 + 0) ≤ 0) (f1 : (-1) * x14 + (1 * x1 + 0) ≤ 0) (f14 : DWQ (pm_0) (faces_0) (pt_0) (ph_0) (alive_0) (blockOf_0) (drawnEdge_0) (drawnNode_0) (faceMany_0) (face_0) (x14)) (kz_0_32 : 0 ≤ pm_0 ∧ pm_0 ≤ 80) (kz_0_39 : 0 ≤ faces_0 ∧ faces_0 ≤ 120) : FI (pm_0) (faces_0) (pt_0) (ph_0) (alive_0) (blockOf_0) (drawnEdge_0) (faceMany_0) (face_0) (x1) := by
  have h := ‹DWQ _ _ _ _ _ _ _ _ _ _ _›
  have e : x14 = x1 := by omega
  rw [e] at h; exact h.2.1
set_option maxHeartbeats 4000000 in
theorem vc_Mo_draws_26_6 (x14 : Int) (pt_0 : Int → Int) (ph_0 : Int → Int) (pm_0 : Int) (alive_0 : Int → Int) (blockOf_0 : Int → Int) (faces_0 : Int) (drawnEdge_0 : Int → Int) (drawnNode_0 : Int → Int) (faceMany_0 : Int → Int) (face_0 : Int → Int) (k14 : 0 ≤ x14 ∧ x14 ≤ 79) (f14 : DWQ (pm_0) (faces_0) (pt_0) (ph_0) (alive_0) (blockOf_0) (drawnEdge_0) (drawnNode_0) (faceMany_0) (face_0) (x14)) (kz_0_32 : 0 ≤ pm_0 ∧ pm_0 ≤ 80) (kz_0_39 : 0 ≤ faces_0 ∧ faces_0 ≤ 120) : CZF (pm_0) (faces_0) (drawnEdge_0) := by
  have h := ‹DWQ _ _ _ _ _ _ _ _ _ _ _›
  exact h.2.2
set_option maxHeartbeats 4000000 in
theorem vc_Mo_draws_26_7 (x8 : Int) (x13 : Int) (faces_0 : Int) (gx : Int) (k8 : (-2) ≤ x8 ∧ x8 ≤ 120) (k13 : (-2) ≤ x13 ∧ x13 ≤ 120) (f5 : 1 * x13 + ((-1) * x8 + 0) ≤ 0) (f6 : (-1) * x13 + (1 * x8 + 0) ≤ 0) (f13 : (-1) * faces_0 + ((-1) * x13 + 0) ≤ (-121)) (kz_0_39 : 0 ≤ faces_0 ∧ faces_0 ≤ 120) (ex2 : gx = 0 + (1 * x8 + 0)) : (-1) * faces_0 + ((-1) * gx + 0) ≤ (-121) := by
  first | omega
def o_Mo_draws_26 : or_T := (348, 15, [(0, (2, 0, 0, [165])), (1, (0, 0, 79, [])), (2, (0, 0, 80, [])), (3, (2, 0, 0, [165])), (4, (0, 0, 79, [])), (8, (0, -2, 120, [])), (12, (0, 0, 79, [])), (13, (0, -2, 120, [])), (14, (0, 0, 79, []))], [(23, [14, 4], [0, 1, -1]), (23, [14, 4], [0, -1, 1]), (20, [3], [60, 2, 2, 75, 31, 32, 33, 34]), (23, [12, 4], [0, 1, -1]), (23, [12, 4], [0, -1, 1]), (23, [13, 8], [0, 1, -1]), (23, [13, 8], [0, -1, 1]), (20, [3], [60, 2, 2, 75, 31, 32, 33, 34]), (20, [3, 2], [60, 1, 4, 97, 32, 33, 34, 35, 17]), (23, [4, 2], [-1, 1, -1]), (24, [0, 3], []), (24, [1, 4], []), (20, [3], [50, 1, 0, 49, 1, 3, 2, 0, 49, 0, -1]), (20, [3, 13], [30, -121, -1, 1, 39, -1, 0, 0]), (20, [3, 14], [60, 2, 8, 154, 32, 39, 33, 34, 35, 17, 43, 42, 40, 41]), (102, [14], [1176956575385002643219210516851437453019191645837006471168]), (23, [14, 4], [0, 1, -1]), (23, [14, 4], [0, -1, 1]), (23, [12, 4], [0, 1, -1]), (23, [12, 4], [0, -1, 1]), (23, [13, 8], [0, 1, -1]), (23, [13, 8], [0, -1, 1]), (23, [4, 2], [-1, 1, -1]), (102, [13], [294287034331902719831626327557457810416785997056819855360, 165039]), (23, [12, 4], [0, 1, -1]), (23, [12, 4], [0, -1, 1]), (23, [13, 8], [0, 1, -1]), (23, [13, 8], [0, -1, 1]), (23, [4, 2], [-1, 1, -1]), (102, [11], [59632466486173467256439999520472830952972376722408327872512, 165045, 165049]), (23, [4, 2], [-1, 1, -1]), (102, [9], [37662610412320084583014736539245998496614132666784207077376]), (23, [4, 2], [-1, 1, -1]), (102, [9], [1569275433846670190958947355801916604025588861116008628224]), (23, [4, 2], [-1, 1, -1])], [], [(0, -2, 120, [])], [(20, [3], [60, 2, 2, 75, 31, 32, 33, 34]), (20, [3, 2], [60, 1, 4, 97, 32, 33, 34, 35, 17]), (23, [4, 2], [-1, 1, -1]), (20, [3], [50, 1, 0, 49, 1, 3, 2, 0, 49, 0, -1]), (20, [3, 4], [60, 1, 6, 166, 32, 33, 34, 35, 17, 43, 42]), (20, [3, 4], [60, 2, 7, 167, 32, 39, 33, 34, 35, 17, 43, 40, 41]), (20, [3], [60, 2, 1, 168, 32, 39, 43]), (20, [3, 15], [30, -121, -1, 1, 39, -1, 0, 0]), (24, [0, 3], []), (24, [1, 4], [])], [(15, 8, 0, 0)], [(1, 4, -4294967296, 0), (4, 1, -4294967296, 0)])
theorem oo_Mo_draws_26 {kA : Nat → ClassId} : or_ok PRD kA GG o_Mo_draws_26 := by
  refine or_mk fun A ta ws vs hD hth hl => ?_
  intro t0 r0 t1 k1 t2 k2 t3 r3 t4 k4 t8 k8 t12 k12 t13 k13 t14 k14 d0 d1 f0 f1 f2 f3 f4 f5 f6 f7 f8 f9 f10 f11 f12 f13 f14 ta1 w1 le1 s1 f16 f17 f18 f19 f20 f21 f22 ta2 w2 le2 s2 f24 f25 f26 f27 f28 ta3 w3 le3 s3 f30 ta4 w4 le4 s4 f32 ta5 w5 le5 s5 f34
  replace f0 := shm_7 f0
  replace f1 := shm_22 f1
  replace f2 := shm_575 f2
  replace f3 := shm_7 f3
  replace f4 := shm_22 f4
  replace f5 := shm_7 f5
  replace f6 := shm_22 f6
  replace f7 := shm_575 f7
  replace f8 := shm_1544 f8
  replace f9 := shm_193 f9
  replace f10 := shm_5 f10
  replace f11 := shm_5 f11
  replace f12 := shm_1675 f12
  replace f13 := shm_748 f13
  replace f14 := shm_1127 f14
  replace f16 := shm_7 f16
  replace f17 := shm_22 f17
  replace f18 := shm_7 f18
  replace f19 := shm_22 f19
  replace f20 := shm_7 f20
  replace f21 := shm_22 f21
  replace f22 := shm_193 f22
  replace f24 := shm_7 f24
  replace f25 := shm_22 f25
  replace f26 := shm_7 f26
  replace f27 := shm_22 f27
  replace f28 := shm_193 f28
  replace f30 := shm_193 f30
  replace f32 := shm_193 f32
  replace f34 := shm_193 f34
  have q3 : n_v vs 3 = n_v vs 0 := f10.symm
  have q4 : n_v vs 4 = n_v vs 1 := f11.symm
  simp only [q4, q3] at f0 f1 f2 f3 f4 f7 f8 f9 f12 f13 f14 f16 f17 f18 f19 f22 f24 f25 f28 f30 f32 f34
  have cr_0_17 := fdq_189 hD hth r0
  have cr_0_33 := fdq_117 hD hth r0
  have cr_0_34 := fdq_118 hD hth r0
  have cr_0_35 := fdq_132 hD hth r0
  have cr_0_40 := fdq_133 hD hth r0
  have cr_0_41 := fdq_134 hD hth r0
  have cr_0_42 := fdq_136 hD hth r0
  have cr_0_43 := fdq_137 hD hth r0
  have hK_0_17 := elq_113 hD hth cr_0_17
  have hK_0_33 := elq_60 hD hth cr_0_33
  have hK_0_34 := elq_61 hD hth cr_0_34
  have hK_0_35 := elq_72 hD hth cr_0_35
  have hK_0_40 := elq_73 hD hth cr_0_40
  have hK_0_41 := elq_74 hD hth cr_0_41
  have hK_0_42 := elq_75 hD hth cr_0_42
  have hK_0_43 := elq_76 hD hth cr_0_43
  have kz_0_31 := fdq_145 hD hth r0
  have kz_0_32 := fdq_140 hD hth r0
  have kz_0_39 := fdq_135 hD hth r0
  have kz_0_49 := fdq_146 hD hth r0
  obtain ⟨x, ex, hx⟩ := iv_ex (ta := ta) (lo := (-2)) (hi := 120) (z := 0 + (1 * v_iv (n_v vs 8) + 0)) (by omega) (by omega) (by omega) (by omega)
  have ex2 : v_iv (Value.int x) = 0 + (1 * v_iv (n_v vs 8) + 0) := ex
  have ex3 : (-2) ≤ v_iv (Value.int x) ∧ v_iv (Value.int x) ≤ 120 := tv_rng hx
  have e_0 : n_v (vs ++ [Value.int x]) 0 = n_v vs 0 := n_v_old (by rw [hl]; decide)
  have e_1 : n_v (vs ++ [Value.int x]) 1 = n_v vs 1 := n_v_old (by rw [hl]; decide)
  have e_2 : n_v (vs ++ [Value.int x]) 2 = n_v vs 2 := n_v_old (by rw [hl]; decide)
  have e_3 : n_v (vs ++ [Value.int x]) 3 = n_v vs 3 := n_v_old (by rw [hl]; decide)
  have e_4 : n_v (vs ++ [Value.int x]) 4 = n_v vs 4 := n_v_old (by rw [hl]; decide)
  have e_15 : n_v (vs ++ [Value.int x]) 15 = Value.int x := n_v_new hl
  have nf0 : fc_1 PRD (20, [3], [60, 2, 2, 75, 31, 32, 33, 34]) ws (vs ++ [Value.int x]) := by
    refine ⟨nf_inA hl rfl, sgq_575 ?_⟩
    · show GOK (w_fi ws (n_v (vs ++ [Value.int x]) 3) 31) (w_fi ws (n_v (vs ++ [Value.int x]) 3) 32) (w_ei ws (w_ar ws (n_v (vs ++ [Value.int x]) 3) 33)) (w_ei ws (w_ar ws (n_v (vs ++ [Value.int x]) 3) 34))
      simp only [e_3, q3]
      exact vc_Mo_draws_26_0 (w_ei ws (w_ar ws (n_v vs 0) 33)) (w_ei ws (w_ar ws (n_v vs 0) 34)) (w_fi ws (n_v vs 0) 31) (w_fi ws (n_v vs 0) 32) f7 kz_0_31 kz_0_32
  have nf1 : fc_1 PRD (20, [3, 2], [60, 1, 4, 97, 32, 33, 34, 35, 17]) ws (vs ++ [Value.int x]) := by
    refine ⟨nf_inA hl rfl, sgq_1544 ?_⟩
    · show BK (w_fi ws (n_v (vs ++ [Value.int x]) 3) 32) (w_ei ws (w_ar ws (n_v (vs ++ [Value.int x]) 3) 33)) (w_ei ws (w_ar ws (n_v (vs ++ [Value.int x]) 3) 34)) (w_ei ws (w_ar ws (n_v (vs ++ [Value.int x]) 3) 35)) (w_ei ws (w_ar ws (n_v (vs ++ [Value.int x]) 3) 17)) (v_iv (n_v (vs ++ [Value.int x]) 2))
      simp only [e_2, e_3, q3]
      exact vc_Mo_draws_26_1 (v_iv (n_v vs 2)) (w_ei ws (w_ar ws (n_v vs 0) 33)) (w_ei ws (w_ar ws (n_v vs 0) 34)) (w_fi ws (n_v vs 0) 32) (w_ei ws (w_ar ws (n_v vs 0) 35)) (w_ei ws (w_ar ws (n_v vs 0) 17)) k2 f8 kz_0_32
  have nf2 : fc_1 PRD (23, [4, 2], [-1, 1, -1]) ws (vs ++ [Value.int x]) := by
    refine ⟨nf_inA hl rfl, sgq_193 ?_⟩
    · show 1 * v_iv (n_v (vs ++ [Value.int x]) 4) + ((-1) * v_iv (n_v (vs ++ [Value.int x]) 2) + 0) ≤ (-1)
      simp only [e_2, e_4, q4]
      exact vc_Mo_draws_26_2 (v_iv (n_v vs 1)) (v_iv (n_v vs 2)) k1 k2 f34
  have nf3 : fc_1 PRD (20, [3], [50, 1, 0, 49, 1, 3, 2, 0, 49, 0, -1]) ws (vs ++ [Value.int x]) := by
    refine ⟨nf_inA hl rfl, sgq_1675 ?_⟩
    · show w_fi ws (n_v (vs ++ [Value.int x]) 3) 49 = (-1)
      simp only [e_3, q3]
      exact vc_Mo_draws_26_3 (w_fi ws (n_v vs 0) 49) f12 kz_0_49
  have nf4 : fc_1 PRD (20, [3, 4], [60, 1, 6, 166, 32, 33, 34, 35, 17, 43, 42]) ws (vs ++ [Value.int x]) := by
    refine ⟨nf_inA hl rfl, sgq_1978 ?_⟩
    · show DSB (w_fi ws (n_v (vs ++ [Value.int x]) 3) 32) (w_ei ws (w_ar ws (n_v (vs ++ [Value.int x]) 3) 33)) (w_ei ws (w_ar ws (n_v (vs ++ [Value.int x]) 3) 34)) (w_ei ws (w_ar ws (n_v (vs ++ [Value.int x]) 3) 35)) (w_ei ws (w_ar ws (n_v (vs ++ [Value.int x]) 3) 17)) (w_ei ws (w_ar ws (n_v (vs ++ [Value.int x]) 3) 43)) (w_ei ws (w_ar ws (n_v (vs ++ [Value.int x]) 3) 42)) (v_iv (n_v (vs ++ [Value.int x]) 4))
      simp only [e_3, e_4, q3, q4]
      exact vc_Mo_draws_26_4 (v_iv (n_v vs 1)) (v_iv (n_v vs 4)) (v_iv (n_v vs 14)) (w_ei ws (w_ar ws (n_v vs 0) 33)) (w_ei ws (w_ar ws (n_v vs 0) 34)) (w_fi ws (n_v vs 0) 32) (w_ei ws (w_ar ws (n_v vs 0) 35)) (w_ei ws (w_ar ws (n_v vs 0) 17)) (w_fi ws (n_v vs 0) 39) (w_ei ws (w_ar ws (n_v vs 0) 43)) (w_ei ws (w_ar ws (n_v vs 0) 42)) (w_ei ws (w_ar ws (n_v vs 0) 40)) (w_ei ws (w_ar ws (n_v vs 0) 41)) k1 k4 k14 d0 d1 f0 f1 f14 kz_0_32 kz_0_39
  have nf5 : fc_1 PRD (20, [3, 4], [60, 2, 7, 167, 32, 39, 33, 34, 35, 17, 43, 40, 41]) ws (vs ++ [Value.int x]) := by
    refine ⟨nf_inA hl rfl, sgq_1979 ?_⟩
    · show FI (w_fi ws (n_v (vs ++ [Value.int x]) 3) 32) (w_fi ws (n_v (vs ++ [Value.int x]) 3) 39) (w_ei ws (w_ar ws (n_v (vs ++ [Value.int x]) 3) 33)) (w_ei ws (w_ar ws (n_v (vs ++ [Value.int x]) 3) 34)) (w_ei ws (w_ar ws (n_v (vs ++ [Value.int x]) 3) 35)) (w_ei ws (w_ar ws (n_v (vs ++ [Value.int x]) 3) 17)) (w_ei ws (w_ar ws (n_v (vs ++ [Value.int x]) 3) 43)) (w_ei ws (w_ar ws (n_v (vs ++ [Value.int x]) 3) 40)) (w_ei ws (w_ar ws (n_v (vs ++ [Value.int x]) 3) 41)) (v_iv (n_v (vs ++ [Value.int x]) 4))
      simp only [e_3, e_4, q3, q4]
      exact vc_Mo_draws_26_5 (v_iv (n_v vs 1)) (v_iv (n_v vs 4)) (v_iv (n_v vs 14)) (w_ei ws (w_ar ws (n_v vs 0) 33)) (w_ei ws (w_ar ws (n_v vs 0) 34)) (w_fi ws (n_v vs 0) 32) (w_ei ws (w_ar ws (n_v vs 0) 35)) (w_ei ws (w_ar ws (n_v vs 0) 17)) (w_fi ws (n_v vs 0) 39) (w_ei ws (w_ar ws (n_v vs 0) 43)) (w_ei ws (w_ar ws (n_v vs 0) 42)) (w_ei ws (w_ar ws (n_v vs 0) 40)) (w_ei ws (w_ar ws (n_v vs 0) 41)) k1 k4 k14 d0 d1 f0 f1 f14 kz_0_32 kz_0_39
  have nf6 : fc_1 PRD (20, [3], [60, 2, 1, 168, 32, 39, 43]) ws (vs ++ [Value.int x]) := by
    refine ⟨nf_inA hl rfl, sgq_1980 ?_⟩
    · show CZF (w_fi ws (n_v (vs ++ [Value.int x]) 3) 32) (w_fi ws (n_v (vs ++ [Value.int x]) 3) 39) (w_ei ws (w_ar ws (n_v (vs ++ [Value.int x]) 3) 43))
      simp only [e_3, q3]
      exact vc_Mo_draws_26_6 (v_iv (n_v vs 14)) (w_ei ws (w_ar ws (n_v vs 0) 33)) (w_ei ws (w_ar ws (n_v vs 0) 34)) (w_fi ws (n_v vs 0) 32) (w_ei ws (w_ar ws (n_v vs 0) 35)) (w_ei ws (w_ar ws (n_v vs 0) 17)) (w_fi ws (n_v vs 0) 39) (w_ei ws (w_ar ws (n_v vs 0) 43)) (w_ei ws (w_ar ws (n_v vs 0) 42)) (w_ei ws (w_ar ws (n_v vs 0) 40)) (w_ei ws (w_ar ws (n_v vs 0) 41)) k14 f14 kz_0_32 kz_0_39
  have nf7 : fc_1 PRD (20, [3, 15], [30, -121, -1, 1, 39, -1, 0, 0]) ws (vs ++ [Value.int x]) := by
    refine ⟨nf_inA hl rfl, sgq_748 ?_⟩
    · show (-1) * w_fi ws (n_v (vs ++ [Value.int x]) 3) 39 + ((-1) * v_iv (n_v (vs ++ [Value.int x]) 15) + 0) ≤ (-121)
      simp only [e_3, e_15, q3]
      exact vc_Mo_draws_26_7 (v_iv (n_v vs 8)) (v_iv (n_v vs 13)) (w_fi ws (n_v vs 0) 39) (v_iv (Value.int x)) k8 k13 f5 f6 f13 kz_0_39 ex2
  have nf8 : fc_1 PRD (24, [0, 3], []) ws (vs ++ [Value.int x]) := by
    refine ⟨nf_inA hl rfl, sgq_5 ?_⟩
    · show n_v (vs ++ [Value.int x]) 0 = n_v (vs ++ [Value.int x]) 3
      first | rfl | simp only [e_0, e_3, q3, q4]
  have nf9 : fc_1 PRD (24, [1, 4], []) ws (vs ++ [Value.int x]) := by
    refine ⟨nf_inA hl rfl, sgq_5 ?_⟩
    · show n_v (vs ++ [Value.int x]) 1 = n_v (vs ++ [Value.int x]) 4
      first | rfl | simp only [e_1, e_4, q3, q4]
  obtain ⟨x0, e0, _, _⟩ := tv_int t8 rfl
  have e1 : v_iv (n_v vs 8) = x0.toInt := by rw [e0]; rfl
  have ho : sy_ofs (vs ++ [Value.int x]) (15, 8, 0, 0) := by
    refine ⟨x, x0, by rw [List.getElem?_append_right (by rw [hl]; decide), hl]; rfl, ?_, ?_, ?_⟩
    · rw [List.getElem?_append_left (by rw [hl]; decide)]; exact n_v_some (by rw [hl]; decide) e0
    · show x0.toInt + 0 ≤ x.toInt; omega
    · show x.toInt ≤ x0.toInt + 0; omega
  exact ⟨(fun _ h => (by cases h)), [Value.int x], ag_one hx, List.forall_mem_cons.mpr ⟨⟨show (20 : Nat) < 100 from by decide, nf0⟩, List.forall_mem_cons.mpr ⟨⟨show (20 : Nat) < 100 from by decide, nf1⟩, List.forall_mem_cons.mpr ⟨⟨show (23 : Nat) < 100 from by decide, nf2⟩, List.forall_mem_cons.mpr ⟨⟨show (20 : Nat) < 100 from by decide, nf3⟩, List.forall_mem_cons.mpr ⟨⟨show (20 : Nat) < 100 from by decide, nf4⟩, List.forall_mem_cons.mpr ⟨⟨show (20 : Nat) < 100 from by decide, nf5⟩, List.forall_mem_cons.mpr ⟨⟨show (20 : Nat) < 100 from by decide, nf6⟩, List.forall_mem_cons.mpr ⟨⟨show (20 : Nat) < 100 from by decide, nf7⟩, List.forall_mem_cons.mpr ⟨⟨show (24 : Nat) < 100 from by decide, nf8⟩, List.forall_mem_cons.mpr ⟨⟨show (24 : Nat) < 100 from by decide, nf9⟩, (fun _ h => (by cases h))⟩⟩⟩⟩⟩⟩⟩⟩⟩⟩, List.forall_mem_cons.mpr ⟨ho, (fun _ h => (by cases h))⟩⟩
set_option maxHeartbeats 4000000 in
theorem vc_Mo_draws_27_0 (x1 : Int) (x11 : Int) (pm_0 : Int) (faces_0 : Int) (pt_0 : Int → Int) (ph_0 : Int → Int) (alive_0 : Int → Int) (blockOf_0 : Int → Int) (faceMany_0 : Int → Int) (face_0 : Int → Int) (k1 : 0 ≤ x1 ∧ x1 ≤ 79) (k11 : 0 ≤ x11 ∧ x11 ≤ 0) (kz_0_32 : 0 ≤ pm_0 ∧ pm_0 ≤ 80) (kz_0_39 : 0 ≤ faces_0 ∧ faces_0 ≤ 120) : DRQ (pm_0) (faces_0) (pt_0) (ph_0) (alive_0) (blockOf_0) (faceMany_0) (face_0) (x1) (x11) := by
  intro z
  exfalso; omega
set_option maxHeartbeats 4000000 in
theorem vc_Mo_draws_27_1 (onlyPiece_0 : Int) (f6 : onlyPiece_0 = (-1)) (kz_0_49 : (-1) ≤ onlyPiece_0 ∧ onlyPiece_0 ≤ 79) : onlyPiece_0 = (-1) := by
  first | omega
def o_Mo_draws_27 : or_T := (323, 12, [(0, (2, 0, 0, [165])), (1, (0, 0, 79, [])), (11, (0, 0, 0, []))], [(20, [3], [50, 1, 0, 49, 1, 3, 2, 0, 49, 0, -1]), (24, [0, 3], [])], [], [], [(20, [0, 1, 11], [60, 2, 6, 169, 32, 39, 33, 34, 35, 17, 40, 41]), (20, [0], [50, 1, 0, 49, 1, 3, 2, 0, 49, 0, -1])], [], [])
theorem oo_Mo_draws_27 {kA : Nat → ClassId} : or_ok PRD kA GG o_Mo_draws_27 := by
  refine or_mk fun A ta ws vs hD hth hl => ?_
  intro t0 r0 t1 k1 t11 k11 f6 f11
  replace f6 := shm_1675 f6
  replace f11 := shm_5 f11
  have q3 : n_v vs 3 = n_v vs 0 := f11.symm
  simp only [q3] at f6
  have kz_0_32 := fdq_140 hD hth r0
  have kz_0_39 := fdq_135 hD hth r0
  have kz_0_49 := fdq_146 hD hth r0
  have nf0 : fc_1 PRD (20, [0, 1, 11], [60, 2, 6, 169, 32, 39, 33, 34, 35, 17, 40, 41]) ws (vs) := ⟨nf_in hl rfl, sgq_1976 (vc_Mo_draws_27_0 (v_iv (n_v vs 1)) (v_iv (n_v vs 11)) (w_fi ws (n_v vs 0) 32) (w_fi ws (n_v vs 0) 39) (w_ei ws (w_ar ws (n_v vs 0) 33)) (w_ei ws (w_ar ws (n_v vs 0) 34)) (w_ei ws (w_ar ws (n_v vs 0) 35)) (w_ei ws (w_ar ws (n_v vs 0) 17)) (w_ei ws (w_ar ws (n_v vs 0) 40)) (w_ei ws (w_ar ws (n_v vs 0) 41)) k1 k11 kz_0_32 kz_0_39)⟩
  have nf1 : fc_1 PRD (20, [0], [50, 1, 0, 49, 1, 3, 2, 0, 49, 0, -1]) ws (vs) := ⟨nf_in hl rfl, sgq_1675 (vc_Mo_draws_27_1 (w_fi ws (n_v vs 0) 49) f6 kz_0_49)⟩
  refine ⟨(fun _ h => (by cases h)), [], trivial, ?_, (fun _ h => (by cases h))⟩
  rw [List.append_nil]
  exact List.forall_mem_cons.mpr ⟨⟨show (20 : Nat) < 100 from by decide, nf0⟩, List.forall_mem_cons.mpr ⟨⟨show (20 : Nat) < 100 from by decide, nf1⟩, (fun _ h => (by cases h))⟩⟩
set_option maxHeartbeats 4000000 in
theorem vc_Mo_draws_28_0 (pt_0 : Int → Int) (ph_0 : Int → Int) (pn_0 : Int) (pm_0 : Int) (f0 : GOK (pn_0) (pm_0) (pt_0) (ph_0)) (kz_0_31 : 0 ≤ pn_0 ∧ pn_0 ≤ 25) (kz_0_32 : 0 ≤ pm_0 ∧ pm_0 ≤ 80) : GOK (pn_0) (pm_0) (pt_0) (ph_0) := by
  first | assumption
set_option maxHeartbeats 4000000 in
theorem vc_Mo_draws_28_1 (x2 : Int) (pt_0 : Int → Int) (ph_0 : Int → Int) (pm_0 : Int) (alive_0 : Int → Int) (blockOf_0 : Int → Int) (k2 : 0 ≤ x2 ∧ x2 ≤ 80) (f1 : BK (pm_0) (pt_0) (ph_0) (alive_0) (blockOf_0) (x2)) (kz_0_32 : 0 ≤ pm_0 ∧ pm_0 ≤ 80) : BK (pm_0) (pt_0) (ph_0) (alive_0) (blockOf_0) (x2) := by
  first | assumption
set_option maxHeartbeats 4000000 in
theorem vc_Mo_draws_28_2 (x1 : Int) (x2 : Int) (k1 : 0 ≤ x1 ∧ x1 ≤ 79) (k2 : 0 ≤ x2 ∧ x2 ≤ 80) (f2 : 1 * x1 + ((-1) * x2 + 0) ≤ (-1)) : 1 * x1 + ((-1) * x2 + 0) ≤ (-1) := by
  first | omega
set_option maxHeartbeats 4000000 in
theorem vc_Mo_draws_28_3 (onlyPiece_0 : Int) (f3 : onlyPiece_0 = (-1)) (kz_0_49 : (-1) ≤ onlyPiece_0 ∧ onlyPiece_0 ≤ 79) : onlyPiece_0 = (-1) := by
  first | omega
set_option maxHeartbeats 4000000 in
theorem vc_Mo_draws_28_4 (x1 : Int) (pt_0 : Int → Int) (ph_0 : Int → Int) (pm_0 : Int) (alive_0 : Int → Int) (blockOf_0 : Int → Int) (drawnEdge_0 : Int → Int) (drawnNode_0 : Int → Int) (k1 : 0 ≤ x1 ∧ x1 ≤ 79) (f4 : DSB (pm_0) (pt_0) (ph_0) (alive_0) (blockOf_0) (drawnEdge_0) (drawnNode_0) (x1)) (kz_0_32 : 0 ≤ pm_0 ∧ pm_0 ≤ 80) : DSB (pm_0) (pt_0) (ph_0) (alive_0) (blockOf_0) (drawnEdge_0) (drawnNode_0) (x1) := by
  first
    | assumption
    | (have h := ‹DWQ _ _ _ _ _ _ _ _ _ _ _›
       have e : x10 = x1 := by omega
       rw [e] at h; exact h.1)
set_option maxHeartbeats 4000000 in
theorem vc_Mo_draws_28_5 (x1 : Int) (pt_0 : Int → Int) (ph_0 : Int → Int) (pm_0 : Int) (alive_0 : Int → Int) (blockOf_0 : Int → Int) (drawnEdge_0 : Int → Int) (faceMany_0 : Int → Int) (face_0 : Int → Int) (faces_0 : Int) (k1 : 0 ≤ x1 ∧ x1 ≤ 79) (f5 : FI (pm_0) (faces_0) (pt_0) (ph_0) (alive_0) (blockOf_0) (drawnEdge_0) (faceMany_0) (face_0) (x1)) (kz_0_32 : 0 ≤ pm_0 ∧ pm_0 ≤ 80) (kz_0_39 : 0 ≤ faces_0 ∧ faces_0 ≤ 120) : FI (pm_0) (faces_0) (pt_0) (ph_0) (alive_0) (blockOf_0) (drawnEdge_0) (faceMany_0) (face_0) (x1) := by
  first
    | assumption
    | (have h := ‹DWQ _ _ _ _ _ _ _ _ _ _ _›
       have e : x10 = x1 := by omega
       rw [e] at h; exact h.2.1)
set_option maxHeartbeats 4000000 in
theorem vc_Mo_draws_28_6 (pm_0 : Int) (drawnEdge_0 : Int → Int) (faces_0 : Int) (f6 : CZF (pm_0) (faces_0) (drawnEdge_0)) (kz_0_32 : 0 ≤ pm_0 ∧ pm_0 ≤ 80) (kz_0_39 : 0 ≤ faces_0 ∧ faces_0 ≤ 120) : CZF (pm_0) (faces_0) (drawnEdge_0) := by
  first
    | assumption
    | (have h := ‹DWQ _ _ _ _ _ _ _ _ _ _ _›
       exact h.2.2)
set_option maxHeartbeats 4000000 in
theorem vc_Mo_draws_28_7 (x9 : Int) (faces_0 : Int) (gx : Int) (k9 : (-2) ≤ x9 ∧ x9 ≤ 120) (f7 : (-1) * faces_0 + ((-1) * x9 + 0) ≤ (-121)) (kz_0_39 : 0 ≤ faces_0 ∧ faces_0 ≤ 120) (ex2 : gx = (-1) + (1 * x9 + 0)) : (-1) * faces_0 + ((-1) * gx + 0) ≤ (-120) := by
  first | omega
def o_Mo_draws_28 : or_T := (296, 10, [(0, (2, 0, 0, [165])), (1, (0, 0, 79, [])), (2, (0, 0, 80, [])), (3, (2, 0, 0, [165])), (4, (0, 0, 79, [])), (9, (0, -2, 120, []))], [(20, [3], [60, 2, 2, 75, 31, 32, 33, 34]), (20, [3, 2], [60, 1, 4, 97, 32, 33, 34, 35, 17]), (23, [4, 2], [-1, 1, -1]), (20, [3], [50, 1, 0, 49, 1, 3, 2, 0, 49, 0, -1]), (20, [3, 4], [60, 1, 6, 166, 32, 33, 34, 35, 17, 43, 42]), (20, [3, 4], [60, 2, 7, 167, 32, 39, 33, 34, 35, 17, 43, 40, 41]), (20, [3], [60, 2, 1, 168, 32, 39, 43]), (20, [3, 9], [30, -121, -1, 1, 39, -1, 0, 0]), (24, [0, 3], []), (24, [1, 4], [])], [], [(0, -2, 120, [])], [(20, [3], [60, 2, 2, 75, 31, 32, 33, 34]), (20, [3, 2], [60, 1, 4, 97, 32, 33, 34, 35, 17]), (23, [4, 2], [-1, 1, -1]), (20, [3], [50, 1, 0, 49, 1, 3, 2, 0, 49, 0, -1]), (20, [3, 4], [60, 1, 6, 166, 32, 33, 34, 35, 17, 43, 42]), (20, [3, 4], [60, 2, 7, 167, 32, 39, 33, 34, 35, 17, 43, 40, 41]), (20, [3], [60, 2, 1, 168, 32, 39, 43]), (20, [3, 10], [30, -120, -1, 1, 39, -1, 0, 0]), (24, [0, 3], []), (24, [1, 4], [])], [(10, 9, -1000000000000, -1)], [(1, 4, -4294967296, 0), (4, 1, -4294967296, 0)])
theorem oo_Mo_draws_28 {kA : Nat → ClassId} : or_ok PRD kA GG o_Mo_draws_28 := by
  refine or_mk fun A ta ws vs hD hth hl => ?_
  intro t0 r0 t1 k1 t2 k2 t3 r3 t4 k4 t9 k9 d0 d1 f0 f1 f2 f3 f4 f5 f6 f7 f8 f9
  replace f0 := shm_575 f0
  replace f1 := shm_1544 f1
  replace f2 := shm_193 f2
  replace f3 := shm_1675 f3
  replace f4 := shm_1978 f4
  replace f5 := shm_1979 f5
  replace f6 := shm_1980 f6
  replace f7 := shm_748 f7
  replace f8 := shm_5 f8
  replace f9 := shm_5 f9
  have q3 : n_v vs 3 = n_v vs 0 := f8.symm
  have q4 : n_v vs 4 = n_v vs 1 := f9.symm
  simp only [q3, q4] at f0 f1 f2 f3 f4 f5 f6 f7
  have cr_0_17 := fdq_189 hD hth r0
  have cr_0_33 := fdq_117 hD hth r0
  have cr_0_34 := fdq_118 hD hth r0
  have cr_0_35 := fdq_132 hD hth r0
  have cr_0_40 := fdq_133 hD hth r0
  have cr_0_41 := fdq_134 hD hth r0
  have cr_0_42 := fdq_136 hD hth r0
  have cr_0_43 := fdq_137 hD hth r0
  have hK_0_17 := elq_113 hD hth cr_0_17
  have hK_0_33 := elq_60 hD hth cr_0_33
  have hK_0_34 := elq_61 hD hth cr_0_34
  have hK_0_35 := elq_72 hD hth cr_0_35
  have hK_0_40 := elq_73 hD hth cr_0_40
  have hK_0_41 := elq_74 hD hth cr_0_41
  have hK_0_42 := elq_75 hD hth cr_0_42
  have hK_0_43 := elq_76 hD hth cr_0_43
  have kz_0_31 := fdq_145 hD hth r0
  have kz_0_32 := fdq_140 hD hth r0
  have kz_0_39 := fdq_135 hD hth r0
  have kz_0_49 := fdq_146 hD hth r0
  first | have hz := czf_bd ‹CZF _ _ _› (by omega) | skip
  obtain ⟨x, ex, hx⟩ := iv_ex (ta := ta) (lo := (-2)) (hi := 120) (z := (-1) + (1 * v_iv (n_v vs 9) + 0)) (by omega) (by omega) (by omega) (by omega)
  have ex2 : v_iv (Value.int x) = (-1) + (1 * v_iv (n_v vs 9) + 0) := ex
  have ex3 : (-2) ≤ v_iv (Value.int x) ∧ v_iv (Value.int x) ≤ 120 := tv_rng hx
  have e_0 : n_v (vs ++ [Value.int x]) 0 = n_v vs 0 := n_v_old (by rw [hl]; decide)
  have e_1 : n_v (vs ++ [Value.int x]) 1 = n_v vs 1 := n_v_old (by rw [hl]; decide)
  have e_2 : n_v (vs ++ [Value.int x]) 2 = n_v vs 2 := n_v_old (by rw [hl]; decide)
  have e_3 : n_v (vs ++ [Value.int x]) 3 = n_v vs 3 := n_v_old (by rw [hl]; decide)
  have e_4 : n_v (vs ++ [Value.int x]) 4 = n_v vs 4 := n_v_old (by rw [hl]; decide)
  have e_10 : n_v (vs ++ [Value.int x]) 10 = Value.int x := n_v_new hl
  have nf0 : fc_1 PRD (20, [3], [60, 2, 2, 75, 31, 32, 33, 34]) ws (vs ++ [Value.int x]) := by
    refine ⟨nf_inA hl rfl, sgq_575 ?_⟩
    · show GOK (w_fi ws (n_v (vs ++ [Value.int x]) 3) 31) (w_fi ws (n_v (vs ++ [Value.int x]) 3) 32) (w_ei ws (w_ar ws (n_v (vs ++ [Value.int x]) 3) 33)) (w_ei ws (w_ar ws (n_v (vs ++ [Value.int x]) 3) 34))
      simp only [e_3, q3]
      exact vc_Mo_draws_28_0 (w_ei ws (w_ar ws (n_v vs 0) 33)) (w_ei ws (w_ar ws (n_v vs 0) 34)) (w_fi ws (n_v vs 0) 31) (w_fi ws (n_v vs 0) 32) f0 kz_0_31 kz_0_32
  have nf1 : fc_1 PRD (20, [3, 2], [60, 1, 4, 97, 32, 33, 34, 35, 17]) ws (vs ++ [Value.int x]) := by
    refine ⟨nf_inA hl rfl, sgq_1544 ?_⟩
    · show BK (w_fi ws (n_v (vs ++ [Value.int x]) 3) 32) (w_ei ws (w_ar ws (n_v (vs ++ [Value.int x]) 3) 33)) (w_ei ws (w_ar ws (n_v (vs ++ [Value.int x]) 3) 34)) (w_ei ws (w_ar ws (n_v (vs ++ [Value.int x]) 3) 35)) (w_ei ws (w_ar ws (n_v (vs ++ [Value.int x]) 3) 17)) (v_iv (n_v (vs ++ [Value.int x]) 2))
      simp only [e_2, e_3, q3]
      exact vc_Mo_draws_28_1 (v_iv (n_v vs 2)) (w_ei ws (w_ar ws (n_v vs 0) 33)) (w_ei ws (w_ar ws (n_v vs 0) 34)) (w_fi ws (n_v vs 0) 32) (w_ei ws (w_ar ws (n_v vs 0) 35)) (w_ei ws (w_ar ws (n_v vs 0) 17)) k2 f1 kz_0_32
  have nf2 : fc_1 PRD (23, [4, 2], [-1, 1, -1]) ws (vs ++ [Value.int x]) := by
    refine ⟨nf_inA hl rfl, sgq_193 ?_⟩
    · show 1 * v_iv (n_v (vs ++ [Value.int x]) 4) + ((-1) * v_iv (n_v (vs ++ [Value.int x]) 2) + 0) ≤ (-1)
      simp only [e_2, e_4, q4]
      exact vc_Mo_draws_28_2 (v_iv (n_v vs 1)) (v_iv (n_v vs 2)) k1 k2 f2
  have nf3 : fc_1 PRD (20, [3], [50, 1, 0, 49, 1, 3, 2, 0, 49, 0, -1]) ws (vs ++ [Value.int x]) := by
    refine ⟨nf_inA hl rfl, sgq_1675 ?_⟩
    · show w_fi ws (n_v (vs ++ [Value.int x]) 3) 49 = (-1)
      simp only [e_3, q3]
      exact vc_Mo_draws_28_3 (w_fi ws (n_v vs 0) 49) f3 kz_0_49
  have nf4 : fc_1 PRD (20, [3, 4], [60, 1, 6, 166, 32, 33, 34, 35, 17, 43, 42]) ws (vs ++ [Value.int x]) := by
    refine ⟨nf_inA hl rfl, sgq_1978 ?_⟩
    · show DSB (w_fi ws (n_v (vs ++ [Value.int x]) 3) 32) (w_ei ws (w_ar ws (n_v (vs ++ [Value.int x]) 3) 33)) (w_ei ws (w_ar ws (n_v (vs ++ [Value.int x]) 3) 34)) (w_ei ws (w_ar ws (n_v (vs ++ [Value.int x]) 3) 35)) (w_ei ws (w_ar ws (n_v (vs ++ [Value.int x]) 3) 17)) (w_ei ws (w_ar ws (n_v (vs ++ [Value.int x]) 3) 43)) (w_ei ws (w_ar ws (n_v (vs ++ [Value.int x]) 3) 42)) (v_iv (n_v (vs ++ [Value.int x]) 4))
      simp only [e_3, e_4, q3, q4]
      exact vc_Mo_draws_28_4 (v_iv (n_v vs 1)) (w_ei ws (w_ar ws (n_v vs 0) 33)) (w_ei ws (w_ar ws (n_v vs 0) 34)) (w_fi ws (n_v vs 0) 32) (w_ei ws (w_ar ws (n_v vs 0) 35)) (w_ei ws (w_ar ws (n_v vs 0) 17)) (w_ei ws (w_ar ws (n_v vs 0) 43)) (w_ei ws (w_ar ws (n_v vs 0) 42)) k1 f4 kz_0_32
  have nf5 : fc_1 PRD (20, [3, 4], [60, 2, 7, 167, 32, 39, 33, 34, 35, 17, 43, 40, 41]) ws (vs ++ [Value.int x]) := by
    refine ⟨nf_inA hl rfl, sgq_1979 ?_⟩
    · show FI (w_fi ws (n_v (vs ++ [Value.int x]) 3) 32) (w_fi ws (n_v (vs ++ [Value.int x]) 3) 39) (w_ei ws (w_ar ws (n_v (vs ++ [Value.int x]) 3) 33)) (w_ei ws (w_ar ws (n_v (vs ++ [Value.int x]) 3) 34)) (w_ei ws (w_ar ws (n_v (vs ++ [Value.int x]) 3) 35)) (w_ei ws (w_ar ws (n_v (vs ++ [Value.int x]) 3) 17)) (w_ei ws (w_ar ws (n_v (vs ++ [Value.int x]) 3) 43)) (w_ei ws (w_ar ws (n_v (vs ++ [Value.int x]) 3) 40)) (w_ei ws (w_ar ws (n_v (vs ++ [Value.int x]) 3) 41)) (v_iv (n_v (vs ++ [Value.int x]) 4))
      simp only [e_3, e_4, q3, q4]
      exact vc_Mo_draws_28_5 (v_iv (n_v vs 1)) (w_ei ws (w_ar ws (n_v vs 0) 33)) (w_ei ws (w_ar ws (n_v vs 0) 34)) (w_fi ws (n_v vs 0) 32) (w_ei ws (w_ar ws (n_v vs 0) 35)) (w_ei ws (w_ar ws (n_v vs 0) 17)) (w_ei ws (w_ar ws (n_v vs 0) 43)) (w_ei ws (w_ar ws (n_v vs 0) 40)) (w_ei ws (w_ar ws (n_v vs 0) 41)) (w_fi ws (n_v vs 0) 39) k1 f5 kz_0_32 kz_0_39
  have nf6 : fc_1 PRD (20, [3], [60, 2, 1, 168, 32, 39, 43]) ws (vs ++ [Value.int x]) := by
    refine ⟨nf_inA hl rfl, sgq_1980 ?_⟩
    · show CZF (w_fi ws (n_v (vs ++ [Value.int x]) 3) 32) (w_fi ws (n_v (vs ++ [Value.int x]) 3) 39) (w_ei ws (w_ar ws (n_v (vs ++ [Value.int x]) 3) 43))
      simp only [e_3, q3]
      exact vc_Mo_draws_28_6 (w_fi ws (n_v vs 0) 32) (w_ei ws (w_ar ws (n_v vs 0) 43)) (w_fi ws (n_v vs 0) 39) f6 kz_0_32 kz_0_39
  have nf7 : fc_1 PRD (20, [3, 10], [30, -120, -1, 1, 39, -1, 0, 0]) ws (vs ++ [Value.int x]) := by
    refine ⟨nf_inA hl rfl, sgq_735 ?_⟩
    · show (-1) * w_fi ws (n_v (vs ++ [Value.int x]) 3) 39 + ((-1) * v_iv (n_v (vs ++ [Value.int x]) 10) + 0) ≤ (-120)
      simp only [e_3, e_10, q3]
      exact vc_Mo_draws_28_7 (v_iv (n_v vs 9)) (w_fi ws (n_v vs 0) 39) (v_iv (Value.int x)) k9 f7 kz_0_39 ex2
  have nf8 : fc_1 PRD (24, [0, 3], []) ws (vs ++ [Value.int x]) := by
    refine ⟨nf_inA hl rfl, sgq_5 ?_⟩
    · show n_v (vs ++ [Value.int x]) 0 = n_v (vs ++ [Value.int x]) 3
      first | rfl | simp only [e_0, e_3, q3, q4]
  have nf9 : fc_1 PRD (24, [1, 4], []) ws (vs ++ [Value.int x]) := by
    refine ⟨nf_inA hl rfl, sgq_5 ?_⟩
    · show n_v (vs ++ [Value.int x]) 1 = n_v (vs ++ [Value.int x]) 4
      first | rfl | simp only [e_1, e_4, q3, q4]
  obtain ⟨x0, e0, _, _⟩ := tv_int t9 rfl
  have e1 : v_iv (n_v vs 9) = x0.toInt := by rw [e0]; rfl
  have ho : sy_ofs (vs ++ [Value.int x]) (10, 9, -1000000000000, -1) := by
    refine ⟨x, x0, by rw [List.getElem?_append_right (by rw [hl]; decide), hl]; rfl, ?_, ?_, ?_⟩
    · rw [List.getElem?_append_left (by rw [hl]; decide)]; exact n_v_some (by rw [hl]; decide) e0
    · show x0.toInt + (-1000000000000) ≤ x.toInt; omega
    · show x.toInt ≤ x0.toInt + (-1); omega
  exact ⟨(fun _ h => (by cases h)), [Value.int x], ag_one hx, List.forall_mem_cons.mpr ⟨⟨show (20 : Nat) < 100 from by decide, nf0⟩, List.forall_mem_cons.mpr ⟨⟨show (20 : Nat) < 100 from by decide, nf1⟩, List.forall_mem_cons.mpr ⟨⟨show (23 : Nat) < 100 from by decide, nf2⟩, List.forall_mem_cons.mpr ⟨⟨show (20 : Nat) < 100 from by decide, nf3⟩, List.forall_mem_cons.mpr ⟨⟨show (20 : Nat) < 100 from by decide, nf4⟩, List.forall_mem_cons.mpr ⟨⟨show (20 : Nat) < 100 from by decide, nf5⟩, List.forall_mem_cons.mpr ⟨⟨show (20 : Nat) < 100 from by decide, nf6⟩, List.forall_mem_cons.mpr ⟨⟨show (20 : Nat) < 100 from by decide, nf7⟩, List.forall_mem_cons.mpr ⟨⟨show (24 : Nat) < 100 from by decide, nf8⟩, List.forall_mem_cons.mpr ⟨⟨show (24 : Nat) < 100 from by decide, nf9⟩, (fun _ h => (by cases h))⟩⟩⟩⟩⟩⟩⟩⟩⟩⟩, List.forall_mem_cons.mpr ⟨ho, (fun _ h => (by cases h))⟩⟩
def n_Mo_draws_an : List an_T := [(12, [(0, (2, 0, 0, [165])), (1, (0, 0, 79, [])), (2, (0, (Int.negSucc 0), 79, [])), (3, (0, 0, 81, [])), (4, (0, (Int.negSucc 0), 79, []))], [], (0, 0), [(0, 0, 99988), (2, 7, (Int.negSucc 0)), (0, 0, 100000)], [(1, 4, (Int.negSucc 999999999999), 0), (4, 1, (Int.negSucc 999999999999), 0), (5, 6, (Int.negSucc 999999999999), 78)], [], [(2, 0, 0, [165]), (0, 0, 79, []), (0, 0, 80, [])], 0, [], [(20, [3], [60, 2, 2, 75, 31, 32, 33, 34]), (20, [3, 2], [60, 1, 4, 97, 32, 33, 34, 35, 17]), (23, [4, 2], [(Int.negSucc 0), 1, (Int.negSucc 0)]), (20, [3], [50, 1, 0, 49, 1, 3, 2, 0, 49, 0, (Int.negSucc 0)]), (20, [3, 4, 5, 6, 7], [60, 1, 2, 157, 32, 35, 17]), (24, [0, 3], []), (24, [1, 4], [])]), (61, [(0, (2, 0, 0, [165])), (1, (0, 0, 79, [])), (2, (0, (Int.negSucc 0), 79, [])), (3, (0, 0, 81, [])), (4, (0, 0, 25, []))], [], (0, 0), [(0, 0, 99939), (1, 7, 25), (0, 0, 100000)], [(1, 4, (Int.negSucc 999999999999), 0), (4, 1, (Int.negSucc 999999999999), 0)], [], [(2, 0, 0, [165]), (0, 0, 79, []), (0, 0, 80, [])], 0, [], [(20, [3], [60, 2, 2, 75, 31, 32, 33, 34]), (20, [3, 2], [60, 1, 4, 97, 32, 33, 34, 35, 17]), (23, [4, 2], [(Int.negSucc 0), 1, (Int.negSucc 0)]), (20, [3], [50, 1, 0, 49, 1, 3, 2, 0, 49, 0, (Int.negSucc 0)]), (20, [3], [50, 1, 0, 39, 1, 3, 2, 0, 39, 0, 0]), (20, [3, 4, 5, 6], [60, 1, 2, 158, 32, 35, 17]), (20, [3, 7], [60, 0, 1, 159, 42]), (24, [0, 3], []), (24, [1, 4], [])]), (87, [(0, (2, 0, 0, [165])), (1, (0, 0, 79, [])), (2, (0, (Int.negSucc 0), 79, [])), (3, (0, 0, 81, [])), (4, (0, 0, 80, []))], [], (0, 0), [(0, 0, 99913), (1, 7, 80), (0, 0, 100000)], [(1, 4, (Int.negSucc 999999999999), 0), (4, 1, (Int.negSucc 999999999999), 0)], [], [(2, 0, 0, [165]), (0, 0, 79, []), (0, 0, 80, [])], 0, [], [(20, [3], [60, 2, 2, 75, 31, 32, 33, 34]), (20, [3, 2], [60, 1, 4, 97, 32, 33, 34, 35, 17]), (23, [4, 2], [(Int.negSucc 0), 1, (Int.negSucc 0)]), (20, [3], [50, 1, 0, 49, 1, 3, 2, 0, 49, 0, (Int.negSucc 0)]), (20, [3], [50, 1, 0, 39, 1, 3, 2, 0, 39, 0, 0]), (20, [3, 4, 5, 6], [60, 1, 2, 158, 32, 35, 17]), (20, [3], [60, 1, 1, 160, 31, 42]), (20, [3, 4, 7], [60, 0, 3, 161, 35, 17, 43]), (24, [0, 3], []), (24, [1, 4], [])]), (201, [(0, (2, 0, 0, [165])), (1, (0, 0, 79, [])), (2, (0, 0, 79, [])), (3, (0, 0, 81, [])), (4, (0, 0, 29, []))], [], (0, 0), [(0, 0, 99799), (1, 7, 29), (0, 0, 100000)], [(1, 4, (Int.negSucc 999999999999), 0), (4, 1, (Int.negSucc 999999999999), 0)], [], [(2, 0, 0, [165]), (0, 0, 79, []), (0, 0, 80, [])], 0, [], [(20, [3], [60, 2, 2, 75, 31, 32, 33, 34]), (20, [3, 2], [60, 1, 4, 97, 32, 33, 34, 35, 17]), (23, [4, 2], [(Int.negSucc 0), 1, (Int.negSucc 0)]), (20, [3], [50, 1, 0, 49, 1, 3, 2, 0, 49, 0, (Int.negSucc 0)]), (20, [3, 4, 5, 7], [60, 3, 9, 164, 31, 32, 45, 33, 34, 35, 17, 43, 42, 46, 40, 41]), (24, [0, 3], []), (24, [1, 4], [])]), (250, [(0, (2, 0, 0, [165])), (1, (0, 0, 79, [])), (2, (0, 0, 79, [])), (3, (0, 0, 127, [])), (4, (0, 1, 30, []))], [], (0, 0), [(0, 0, 99750), (1, 7, 30), (0, 0, 100000)], [(1, 4, (Int.negSucc 999999999999), 0), (4, 1, (Int.negSucc 999999999999), 0)], [], [(2, 0, 0, [165]), (0, 0, 79, []), (0, 0, 80, [])], 0, [], [(20, [3], [60, 2, 2, 75, 31, 32, 33, 34]), (20, [3, 2], [60, 1, 4, 97, 32, 33, 34, 35, 17]), (23, [4, 2], [(Int.negSucc 0), 1, (Int.negSucc 0)]), (20, [3], [50, 1, 0, 49, 1, 3, 2, 0, 49, 0, (Int.negSucc 0)]), (20, [3, 4, 5, 7], [60, 3, 9, 165, 31, 32, 45, 33, 34, 35, 17, 43, 42, 46, 40, 41]), (24, [0, 3], []), (24, [1, 4], [])]), (296, [(0, (2, 0, 0, [165])), (1, (0, 0, 79, [])), (2, (0, 0, 79, [])), (3, (0, 0, 127, [])), (4, (0, 0, 79, []))], [], (0, 0), [(0, 0, 99704), (2, 8, (Int.negSucc 1)), (0, 0, 100000)], [(1, 4, (Int.negSucc 999999999999), 0), (4, 1, (Int.negSucc 999999999999), 0)], [], [(2, 0, 0, [165]), (0, 0, 79, []), (0, 0, 80, [])], 0, [(0, (Int.negSucc 1), 120, [])], [(20, [3], [60, 2, 2, 75, 31, 32, 33, 34]), (20, [3, 2], [60, 1, 4, 97, 32, 33, 34, 35, 17]), (23, [4, 2], [(Int.negSucc 0), 1, (Int.negSucc 0)]), (20, [3], [50, 1, 0, 49, 1, 3, 2, 0, 49, 0, (Int.negSucc 0)]), (20, [3, 4], [60, 1, 6, 166, 32, 33, 34, 35, 17, 43, 42]), (20, [3, 4], [60, 2, 7, 167, 32, 39, 33, 34, 35, 17, 43, 40, 41]), (20, [3], [60, 2, 1, 168, 32, 39, 43]), (20, [3, 8], [30, (Int.negSucc 119), (Int.negSucc 0), 1, 39, (Int.negSucc 0), 0, 0]), (24, [0, 3], []), (24, [1, 4], [])]), (348, [(0, (2, 0, 0, [165])), (1, (0, 0, 79, [])), (2, (0, 0, 79, [])), (3, (0, 0, 127, [])), (4, (0, 0, 79, [])), (5, (0, 0, 119, []))], [], (0, 0), [(0, 0, 99704), (2, 9, (Int.negSucc 1)), (0, 0, 99652)], [(1, 4, (Int.negSucc 999999999999), 0), (4, 1, (Int.negSucc 999999999999), 0)], [], [(2, 0, 0, [165]), (0, 0, 79, []), (0, 0, 80, [])], 0, [(0, (Int.negSucc 1), 120, [])], [(20, [3], [60, 2, 2, 75, 31, 32, 33, 34]), (20, [3, 2], [60, 1, 4, 97, 32, 33, 34, 35, 17]), (23, [4, 2], [(Int.negSucc 0), 1, (Int.negSucc 0)]), (20, [3], [50, 1, 0, 49, 1, 3, 2, 0, 49, 0, (Int.negSucc 0)]), (20, [3, 4], [60, 1, 6, 166, 32, 33, 34, 35, 17, 43, 42]), (20, [3, 4], [60, 2, 7, 167, 32, 39, 33, 34, 35, 17, 43, 40, 41]), (20, [3], [60, 2, 1, 168, 32, 39, 43]), (20, [3, 9], [30, (Int.negSucc 120), (Int.negSucc 0), 1, 39, (Int.negSucc 0), 0, 0]), (24, [0, 3], []), (24, [1, 4], [])])]
def t_Mo_draws_ct : ct_L := [(1, 615, e_Mo_shortest), (1, 622, e_Mo_drawWay), (1, 625, e_Mo_missing), (1, 628, e_Mo_pieces), (1, 631, e_Mo_bits), (1, 634, e_Mo_choose), (1, 637, e_Mo_firstFit), (1, 640, e_Mo_wayOf), (1, 643, e_Mo_split)]
set_option maxRecDepth 100000 in
theorem c_Mo_draws {l : Launch} {D : va_G} {kA : Nat → ClassId} (h_Mo_bits : ct_ok PRD l D kA GG y_Mo_bits z_Mo_bits e_Mo_bits) (h_Mo_choose : ct_ok PRD l D kA GG y_Mo_choose z_Mo_choose e_Mo_choose) (h_Mo_drawWay : ct_ok PRD l D kA GG y_Mo_drawWay z_Mo_drawWay e_Mo_drawWay) (h_Mo_firstFit : ct_ok PRD l D kA GG y_Mo_firstFit z_Mo_firstFit e_Mo_firstFit) (h_Mo_missing : ct_ok PRD l D kA GG y_Mo_missing z_Mo_missing e_Mo_missing) (h_Mo_pieces : ct_ok PRD l D kA GG y_Mo_pieces z_Mo_pieces e_Mo_pieces) (h_Mo_shortest : ct_ok PRD l D kA GG y_Mo_shortest z_Mo_shortest e_Mo_shortest) (h_Mo_split : ct_ok PRD l D kA GG y_Mo_split z_Mo_split e_Mo_split) (h_Mo_wayOf : ct_ok PRD l D kA GG y_Mo_wayOf z_Mo_wayOf e_Mo_wayOf) : ct_ok PRD l D kA GG y_Mo_draws z_Mo_draws e_Mo_draws := chk_all_ok (FT := [(32, 13, 17), (57, 13, 33), (60, 13, 34), (63, 13, 35), (75, 13, 40), (78, 13, 41), (81, 13, 42), (84, 13, 43), (90, 13, 46), (594, 13, 31), (597, 13, 32), (619, 13, 45)]) (PT := [(612, 13, 39, .int)]) (CT := t_Mo_draws_ct) (KT := []) (NT := []) (AN := n_Mo_draws_an) (OT := [o_Mo_draws_0, o_Mo_draws_1, o_Mo_draws_2, o_Mo_draws_3, o_Mo_draws_4, o_Mo_draws_5, o_Mo_draws_6, o_Mo_draws_7, o_Mo_draws_8, o_Mo_draws_9, o_Mo_draws_10, o_Mo_draws_11, o_Mo_draws_12, o_Mo_draws_13, o_Mo_draws_14, o_Mo_draws_15, o_Mo_draws_16, o_Mo_draws_17, o_Mo_draws_18, o_Mo_draws_19, o_Mo_draws_20, o_Mo_draws_21, o_Mo_draws_22, o_Mo_draws_23, o_Mo_draws_24, o_Mo_draws_25, o_Mo_draws_26, o_Mo_draws_27, o_Mo_draws_28]) 3 824 (List.forall_mem_cons.mpr ⟨oo_Mo_draws_0, List.forall_mem_cons.mpr ⟨oo_Mo_draws_1, List.forall_mem_cons.mpr ⟨oo_Mo_draws_2, List.forall_mem_cons.mpr ⟨oo_Mo_draws_3, List.forall_mem_cons.mpr ⟨oo_Mo_draws_4, List.forall_mem_cons.mpr ⟨oo_Mo_draws_5, List.forall_mem_cons.mpr ⟨oo_Mo_draws_6, List.forall_mem_cons.mpr ⟨oo_Mo_draws_7, List.forall_mem_cons.mpr ⟨oo_Mo_draws_8, List.forall_mem_cons.mpr ⟨oo_Mo_draws_9, List.forall_mem_cons.mpr ⟨oo_Mo_draws_10, List.forall_mem_cons.mpr ⟨oo_Mo_draws_11, List.forall_mem_cons.mpr ⟨oo_Mo_draws_12, List.forall_mem_cons.mpr ⟨oo_Mo_draws_13, List.forall_mem_cons.mpr ⟨oo_Mo_draws_14, List.forall_mem_cons.mpr ⟨oo_Mo_draws_15, List.forall_mem_cons.mpr ⟨oo_Mo_draws_16, List.forall_mem_cons.mpr ⟨oo_Mo_draws_17, List.forall_mem_cons.mpr ⟨oo_Mo_draws_18, List.forall_mem_cons.mpr ⟨oo_Mo_draws_19, List.forall_mem_cons.mpr ⟨oo_Mo_draws_20, List.forall_mem_cons.mpr ⟨oo_Mo_draws_21, List.forall_mem_cons.mpr ⟨oo_Mo_draws_22, List.forall_mem_cons.mpr ⟨oo_Mo_draws_23, List.forall_mem_cons.mpr ⟨oo_Mo_draws_24, List.forall_mem_cons.mpr ⟨oo_Mo_draws_25, List.forall_mem_cons.mpr ⟨oo_Mo_draws_26, List.forall_mem_cons.mpr ⟨oo_Mo_draws_27, List.forall_mem_cons.mpr ⟨oo_Mo_draws_28, List.forall_mem_nil _⟩⟩⟩⟩⟩⟩⟩⟩⟩⟩⟩⟩⟩⟩⟩⟩⟩⟩⟩⟩⟩⟩⟩⟩⟩⟩⟩⟩⟩) (by decide +kernel) ⟨List.forall_mem_cons.mpr ⟨gf_Mo_32, List.forall_mem_cons.mpr ⟨gf_Mo_57, List.forall_mem_cons.mpr ⟨gf_Mo_60, List.forall_mem_cons.mpr ⟨gf_Mo_63, List.forall_mem_cons.mpr ⟨gf_Mo_75, List.forall_mem_cons.mpr ⟨gf_Mo_78, List.forall_mem_cons.mpr ⟨gf_Mo_81, List.forall_mem_cons.mpr ⟨gf_Mo_84, List.forall_mem_cons.mpr ⟨gf_Mo_90, List.forall_mem_cons.mpr ⟨gf_Mo_594, List.forall_mem_cons.mpr ⟨gf_Mo_597, List.forall_mem_cons.mpr ⟨gf_Mo_619, List.forall_mem_nil _⟩⟩⟩⟩⟩⟩⟩⟩⟩⟩⟩⟩, List.forall_mem_cons.mpr ⟨pf_Mo_612, List.forall_mem_nil _⟩, List.forall_mem_cons.mpr ⟨cl_virtual (y := y_Mo_shortest) (ci := 13) rfl rfl ⟨_, _, rfl⟩ (by decide +kernel) h_Mo_shortest wm_3182 wm_9 wm_3179 wm_3181 wv_15_4 ⟨by decide, by decide, by decide +kernel⟩ (by decide), List.forall_mem_cons.mpr ⟨cl_virtual (y := y_Mo_drawWay) (ci := 13) rfl rfl ⟨_, _, rfl⟩ (by decide +kernel) h_Mo_drawWay wm_3199 wm_9 wm_3196 wm_3198 wv_15_8 ⟨by decide, by decide, by decide +kernel⟩ (by decide), List.forall_mem_cons.mpr ⟨cl_virtual (y := y_Mo_missing) (ci := 13) rfl rfl ⟨_, _, rfl⟩ (by decide +kernel) h_Mo_missing wm_3203 wm_9 wm_3200 wm_3202 wv_15_9 ⟨by decide, by decide, by decide +kernel⟩ (by decide), List.forall_mem_cons.mpr ⟨cl_virtual (y := y_Mo_pieces) (ci := 13) rfl rfl ⟨_, _, rfl⟩ (by decide +kernel) h_Mo_pieces wm_3207 wm_9 wm_3204 wm_3206 wv_15_10 ⟨by decide, by decide, by decide +kernel⟩ (by decide), List.forall_mem_cons.mpr ⟨cl_virtual (y := y_Mo_bits) (ci := 13) rfl rfl ⟨_, _, rfl⟩ (by decide +kernel) h_Mo_bits wm_3215 wm_9 wm_3212 wm_3214 wv_15_12 ⟨by decide, by decide, by decide +kernel⟩ (by decide), List.forall_mem_cons.mpr ⟨cl_virtual (y := y_Mo_choose) (ci := 13) rfl rfl ⟨_, _, rfl⟩ (by decide +kernel) h_Mo_choose wm_3219 wm_9 wm_3216 wm_3218 wv_15_13 ⟨by decide, by decide, by decide +kernel⟩ (by decide), List.forall_mem_cons.mpr ⟨cl_virtual (y := y_Mo_firstFit) (ci := 13) rfl rfl ⟨_, _, rfl⟩ (by decide +kernel) h_Mo_firstFit wm_3227 wm_9 wm_3224 wm_3226 wv_15_15 ⟨by decide, by decide, by decide +kernel⟩ (by decide), List.forall_mem_cons.mpr ⟨cl_virtual (y := y_Mo_wayOf) (ci := 13) rfl rfl ⟨_, _, rfl⟩ (by decide +kernel) h_Mo_wayOf wm_3231 wm_9 wm_3228 wm_3230 wv_16_0 ⟨by decide, by decide, by decide +kernel⟩ (by decide), List.forall_mem_cons.mpr ⟨cl_virtual (y := y_Mo_split) (ci := 13) rfl rfl ⟨_, _, rfl⟩ (by decide +kernel) h_Mo_split wm_3239 wm_9 wm_3236 wm_3238 wv_16_2 ⟨by decide, by decide, by decide +kernel⟩ (by decide), List.forall_mem_nil _⟩⟩⟩⟩⟩⟩⟩⟩⟩, List.forall_mem_nil _, List.forall_mem_nil _, GG_pl⟩ (by decide +kernel)
set_option maxHeartbeats 4000000 in
theorem vc_Mo_meets_0_0 (x1 : Int) (x2 : Int) (x3 : Int) (x4 : Int) (bendMany_0 : Int → Int) (g0_0 : Int) (k1 : 0 ≤ x1 ∧ x1 ≤ 47) (k2 : 0 ≤ x2 ∧ x2 ≤ 24) (k3 : 0 ≤ x3 ∧ x3 ≤ 47) (k4 : 0 ≤ x4 ∧ x4 ≤ 24) (f0 : x2 ≤ bendMany_0 (((48 * g0_0) + x1))) (f1 : x4 ≤ bendMany_0 (((48 * g0_0) + x3))) (hK_0_64 : ∀ j : Int, 0 ≤ j → j < 192 → 0 ≤ bendMany_0 j ∧ bendMany_0 j ≤ 24) (kz_0_139 : 0 ≤ g0_0 ∧ g0_0 ≤ 3) : x2 ≤ (bendMany_0 (((48 * g0_0) + x1)) + 1) := by
  first | assumption | (clear hK_0_64; omega) | omega | grind
def o_Mo_meets_0 : or_T := (3, 5, [(0, (2, 0, 0, [165])), (1, (0, 0, 47, [])), (2, (0, 0, 24, [])), (3, (0, 0, 47, [])), (4, (0, 0, 24, []))], [(20, [2, 0, 1], [50, 1, 1, 1139, 1064, 0, 2, 1, 0, 3, 1, 64, 4, 7, 6, 2, 0, 48, 2, 1, 139, 1, 2]), (20, [4, 0, 3], [50, 1, 1, 1139, 1064, 0, 2, 1, 0, 3, 1, 64, 4, 7, 6, 2, 0, 48, 2, 1, 139, 1, 2])], [], [], [(20, [2, 0, 1], [50, 1, 1, 1139, 1064, 0, 2, 1, 0, 4, 14, 3, 1, 64, 4, 7, 6, 2, 0, 48, 2, 1, 139, 1, 2, 0, 1])], [], [])
theorem oo_Mo_meets_0 {kA : Nat → ClassId} : or_ok PRD kA GG o_Mo_meets_0 := by
  refine or_mk fun A ta ws vs hD hth hl => ?_
  intro t0 r0 t1 k1 t2 k2 t3 k3 t4 k4 f0 f1
  have cr_0_64 := fdq_171 hD hth r0
  have hK_0_64 := elq_101 hD hth cr_0_64
  have kz_0_139 := fdq_172 hD hth r0
  have nf0 : fc_1 PRD (20, [2, 0, 1], [50, 1, 1, 1139, 1064, 0, 2, 1, 0, 4, 14, 3, 1, 64, 4, 7, 6, 2, 0, 48, 2, 1, 139, 1, 2, 0, 1]) ws (vs) := ⟨nf_in hl rfl, sgq_1421 (vc_Mo_meets_0_0 (v_iv (n_v vs 1)) (v_iv (n_v vs 2)) (v_iv (n_v vs 3)) (v_iv (n_v vs 4)) (w_ei ws (w_ar ws (n_v vs 0) 64)) (w_fi ws (n_v vs 0) 139) k1 k2 k3 k4 (shm_1849 f0) (shm_1849 f1) hK_0_64 kz_0_139)⟩
  refine ⟨(fun _ h => (by cases h)), [], trivial, ?_, (fun _ h => (by cases h))⟩
  rw [List.append_nil]
  exact List.forall_mem_cons.mpr ⟨⟨show (20 : Nat) < 100 from by decide, nf0⟩, (fun _ h => (by cases h))⟩
set_option maxHeartbeats 4000000 in
theorem vc_Mo_meets_1_0 (x1 : Int) (x2 : Int) (x3 : Int) (x4 : Int) (x5 : Int) (x6 : Int) (x7 : Int) (x8 : Int) (x9 : Int) (x10 : Int) (nodeY_0 : Int → Int) (all_0 : Int → Int) (g0_0 : Int) (r_0 : Int) (bendMany_0 : Int → Int) (bendY_0 : Int → Int) (nodeX_0 : Int → Int) (bendX_0 : Int → Int) (k1 : 0 ≤ x1 ∧ x1 ≤ 47) (k2 : 0 ≤ x2 ∧ x2 ≤ 24) (k3 : 0 ≤ x3 ∧ x3 ≤ 47) (k4 : 0 ≤ x4 ∧ x4 ≤ 24) (k5 : (-300000011) ≤ x5 ∧ x5 ≤ 300000000) (k6 : (-300000011) ≤ x6 ∧ x6 ≤ 300000000) (k7 : (-900000000) ≤ x7 ∧ x7 ≤ 900000000) (k8 : (-900000000) ≤ x8 ∧ x8 ≤ 900000000) (k9 : 1 ≤ x9 ∧ x9 ≤ 1) (k10 : 1 ≤ x10 ∧ x10 ≤ 25) (d0 : x2 + 1 ≤ x10 ∧ x10 ≤ x2 + 1) (f0 : x10 = x2 + x9) (f1 : x8 = x7) (f2 : (x2 = 0) → (x7 = nodeY_0 (((24 * g0_0) + all_0 (((r_0 + 267) + x1)))))) (f3 : (x2 = (bendMany_0 (((48 * g0_0) + x1)) + 1)) → (x7 = nodeY_0 (((24 * g0_0) + all_0 (((r_0 + 315) + x1)))))) (f4 : (x2 = 0) ∨ ((x2 = (bendMany_0 (((48 * g0_0) + x1)) + 1)) ∨ (x7 = bendY_0 (((24 * ((48 * g0_0) + x1)) + (x2 - 1)))))) (f5 : x6 = x5) (f6 : (x2 = 0) → (x5 = nodeX_0 (((24 * g0_0) + all_0 (((r_0 + 267) + x1)))))) (f7 : (x2 = (bendMany_0 (((48 * g0_0) + x1)) + 1)) → (x5 = nodeX_0 (((24 * g0_0) + all_0 (((r_0 + 315) + x1)))))) (f8 : (x2 = 0) ∨ ((x2 = (bendMany_0 (((48 * g0_0) + x1)) + 1)) ∨ (x5 = bendX_0 (((24 * ((48 * g0_0) + x1)) + (x2 - 1)))))) (f9 : x2 ≤ (bendMany_0 (((48 * g0_0) + x1)) + 1)) (f10 : x2 ≤ bendMany_0 (((48 * g0_0) + x1))) (f11 : x4 ≤ bendMany_0 (((48 * g0_0) + x3))) (hK_0_62 : ∀ j : Int, 0 ≤ j → j < 96 → (-300000000) ≤ nodeX_0 j ∧ nodeX_0 j ≤ 300000000) (hK_0_63 : ∀ j : Int, 0 ≤ j → j < 96 → (-300000000) ≤ nodeY_0 j ∧ nodeY_0 j ≤ 300000000) (hK_0_64 : ∀ j : Int, 0 ≤ j → j < 192 → 0 ≤ bendMany_0 j ∧ bendMany_0 j ≤ 24) (hK_0_65 : ∀ j : Int, 0 ≤ j → j < 4608 → (-300000011) ≤ bendX_0 j ∧ bendX_0 j ≤ 221100000) (hK_0_66 : ∀ j : Int, 0 ≤ j → j < 4608 → (-900000000) ≤ bendY_0 j ∧ bendY_0 j ≤ 900000000) (kz_0_139 : 0 ≤ g0_0 ∧ g0_0 ≤ 3) : x10 ≤ (bendMany_0 (((48 * g0_0) + x1)) + 1) := by
  first | assumption | (clear f2 f3 f4 f6 f7 f8 hK_0_62 hK_0_63 hK_0_64 hK_0_65 hK_0_66; omega) | (clear hK_0_62 hK_0_63 hK_0_64 hK_0_65 hK_0_66; grind) | omega | grind
def o_Mo_meets_1 : or_T := (23, 11, [(0, (2, 0, 0, [165])), (1, (0, 0, 47, [])), (2, (0, 0, 24, [])), (3, (0, 0, 47, [])), (4, (0, 0, 24, [])), (5, (0, -300000011, 300000000, [])), (6, (1, -300000011, 300000000, [])), (7, (0, -900000000, 900000000, [])), (8, (1, -900000000, 900000000, [])), (9, (0, 1, 1, [])), (10, (0, 1, 25, []))], [(1, [10, 2, 9], []), (22, [8, 7], []), (20, [2, 7, 0, 1], [50, 2, 2, 2139, 2005, 2063, 2002, 4, 6, 1, 2, 1, 0, 0, 0, 1, 2, 1, 1, 3, 2, 63, 4, 7, 6, 2, 0, 24, 2, 2, 139, 3, 2, 2, 4, 7, 4, 3, 2, 2, 5, 0, 267, 1, 3]), (20, [2, 0, 1, 7], [50, 2, 3, 1139, 1005, 1064, 1063, 1002, 4, 22, 1, 2, 1, 0, 4, 14, 3, 1, 64, 4, 7, 6, 2, 0, 48, 2, 1, 139, 1, 2, 0, 1, 1, 2, 1, 3, 3, 1, 63, 4, 7, 6, 2, 0, 24, 2, 1, 139, 3, 1, 2, 4, 7, 4, 3, 2, 1, 5, 0, 315, 1, 2]), (20, [2, 0, 1, 7], [50, 1, 2, 1139, 1064, 1066, 3, 6, 1, 2, 1, 0, 0, 0, 3, 22, 1, 2, 1, 0, 4, 14, 3, 1, 64, 4, 7, 6, 2, 0, 48, 2, 1, 139, 1, 2, 0, 1, 1, 2, 1, 3, 3, 1, 66, 4, 15, 6, 2, 0, 24, 4, 7, 6, 2, 0, 48, 2, 1, 139, 1, 2, 5, 2, 1, 0, 0, 1]), (22, [6, 5], []), (20, [2, 5, 0, 1], [50, 2, 2, 2139, 2005, 2062, 2002, 4, 6, 1, 2, 1, 0, 0, 0, 1, 2, 1, 1, 3, 2, 62, 4, 7, 6, 2, 0, 24, 2, 2, 139, 3, 2, 2, 4, 7, 4, 3, 2, 2, 5, 0, 267, 1, 3]), (20, [2, 0, 1, 5], [50, 2, 3, 1139, 1005, 1064, 1062, 1002, 4, 22, 1, 2, 1, 0, 4, 14, 3, 1, 64, 4, 7, 6, 2, 0, 48, 2, 1, 139, 1, 2, 0, 1, 1, 2, 1, 3, 3, 1, 62, 4, 7, 6, 2, 0, 24, 2, 1, 139, 3, 1, 2, 4, 7, 4, 3, 2, 1, 5, 0, 315, 1, 2]), (20, [2, 0, 1, 5], [50, 1, 2, 1139, 1064, 1065, 3, 6, 1, 2, 1, 0, 0, 0, 3, 22, 1, 2, 1, 0, 4, 14, 3, 1, 64, 4, 7, 6, 2, 0, 48, 2, 1, 139, 1, 2, 0, 1, 1, 2, 1, 3, 3, 1, 65, 4, 15, 6, 2, 0, 24, 4, 7, 6, 2, 0, 48, 2, 1, 139, 1, 2, 5, 2, 1, 0, 0, 1]), (20, [2, 0, 1], [50, 1, 1, 1139, 1064, 0, 2, 1, 0, 4, 14, 3, 1, 64, 4, 7, 6, 2, 0, 48, 2, 1, 139, 1, 2, 0, 1]), (20, [2, 0, 1], [50, 1, 1, 1139, 1064, 0, 2, 1, 0, 3, 1, 64, 4, 7, 6, 2, 0, 48, 2, 1, 139, 1, 2]), (20, [4, 0, 3], [50, 1, 1, 1139, 1064, 0, 2, 1, 0, 3, 1, 64, 4, 7, 6, 2, 0, 48, 2, 1, 139, 1, 2])], [], [], [(20, [10, 0, 1], [50, 1, 1, 1139, 1064, 0, 2, 1, 0, 4, 14, 3, 1, 64, 4, 7, 6, 2, 0, 48, 2, 1, 139, 1, 2, 0, 1])], [], [(10, 2, 1, 1)])
theorem oo_Mo_meets_1 {kA : Nat → ClassId} : or_ok PRD kA GG o_Mo_meets_1 := by
  refine or_mk fun A ta ws vs hD hth hl => ?_
  intro t0 r0 t1 k1 t2 k2 t3 k3 t4 k4 t5 k5 t6 k6 t7 k7 t8 k8 t9 k9 t10 k10 d0 f0 f1 f2 f3 f4 f5 f6 f7 f8 f9 f10 f11
  have cr_0_62 := fdq_173 hD hth r0
  have cr_0_63 := fdq_174 hD hth r0
  have cr_0_64 := fdq_171 hD hth r0
  have cr_0_65 := fdq_292 hD hth r0
  have cr_0_66 := fdq_293 hD hth r0
  have hK_0_62 := elq_102 hD hth cr_0_62
  have hK_0_63 := elq_103 hD hth cr_0_63
  have hK_0_64 := elq_101 hD hth cr_0_64
  have hK_0_65 := elq_184 hD hth cr_0_65
  have hK_0_66 := elq_185 hD hth cr_0_66
  have kz_0_139 := fdq_172 hD hth r0
  have nf0 : fc_1 PRD (20, [10, 0, 1], [50, 1, 1, 1139, 1064, 0, 2, 1, 0, 4, 14, 3, 1, 64, 4, 7, 6, 2, 0, 48, 2, 1, 139, 1, 2, 0, 1]) ws (vs) := ⟨nf_in hl rfl, sgq_1421 (vc_Mo_meets_1_0 (v_iv (n_v vs 1)) (v_iv (n_v vs 2)) (v_iv (n_v vs 3)) (v_iv (n_v vs 4)) (v_iv (n_v vs 5)) (v_iv (n_v vs 6)) (v_iv (n_v vs 7)) (v_iv (n_v vs 8)) (v_iv (n_v vs 9)) (v_iv (n_v vs 10)) (w_ei ws (w_ar ws (n_v vs 0) 63)) (w_ei ws (w_ar ws (n_v vs 0) 2)) (w_fi ws (n_v vs 0) 139) (w_fi ws (n_v vs 0) 5) (w_ei ws (w_ar ws (n_v vs 0) 64)) (w_ei ws (w_ar ws (n_v vs 0) 66)) (w_ei ws (w_ar ws (n_v vs 0) 62)) (w_ei ws (w_ar ws (n_v vs 0) 65)) k1 k2 k3 k4 k5 k6 k7 k8 k9 k10 d0 (shm_12 f0) (shm_47 f1) (shm_1427 f2) (shm_1428 f3) (shm_1429 f4) (shm_47 f5) (shm_1423 f6) (shm_1424 f7) (shm_1425 f8) (shm_1421 f9) (shm_1849 f10) (shm_1849 f11) hK_0_62 hK_0_63 hK_0_64 hK_0_65 hK_0_66 kz_0_139)⟩
  refine ⟨(fun _ h => (by cases h)), [], trivial, ?_, (fun _ h => (by cases h))⟩
  rw [List.append_nil]
  exact List.forall_mem_cons.mpr ⟨⟨show (20 : Nat) < 100 from by decide, nf0⟩, (fun _ h => (by cases h))⟩
set_option maxHeartbeats 4000000 in
theorem vc_Mo_meets_2_0 (x1 : Int) (x2 : Int) (x3 : Int) (x4 : Int) (x5 : Int) (x6 : Int) (x7 : Int) (x8 : Int) (x9 : Int) (x10 : Int) (x11 : Int) (x12 : Int) (x13 : Int) (x14 : Int) (nodeX_0 : Int → Int) (all_0 : Int → Int) (g0_0 : Int) (r_0 : Int) (bendMany_0 : Int → Int) (bendX_0 : Int → Int) (nodeY_0 : Int → Int) (bendY_0 : Int → Int) (k1 : 0 ≤ x1 ∧ x1 ≤ 47) (k2 : 0 ≤ x2 ∧ x2 ≤ 24) (k3 : 0 ≤ x3 ∧ x3 ≤ 47) (k4 : 0 ≤ x4 ∧ x4 ≤ 24) (k5 : (-300000011) ≤ x5 ∧ x5 ≤ 300000000) (k6 : (-300000011) ≤ x6 ∧ x6 ≤ 300000000) (k7 : (-900000000) ≤ x7 ∧ x7 ≤ 900000000) (k8 : (-900000000) ≤ x8 ∧ x8 ≤ 900000000) (k9 : 1 ≤ x9 ∧ x9 ≤ 1) (k10 : 1 ≤ x10 ∧ x10 ≤ 25) (k11 : (-300000011) ≤ x11 ∧ x11 ≤ 300000000) (k12 : (-300000011) ≤ x12 ∧ x12 ≤ 300000000) (k13 : 1 ≤ x13 ∧ x13 ≤ 1) (k14 : 1 ≤ x14 ∧ x14 ≤ 25) (d0 : x2 + 1 ≤ x14 ∧ x14 ≤ x2 + 1) (d1 : x2 + 1 ≤ x10 ∧ x10 ≤ x2 + 1) (f0 : x14 = x2 + x13) (f1 : x12 = x11) (f2 : (x10 = 0) → (x11 = nodeX_0 (((24 * g0_0) + all_0 (((r_0 + 267) + x1)))))) (f3 : (x10 = (bendMany_0 (((48 * g0_0) + x1)) + 1)) → (x11 = nodeX_0 (((24 * g0_0) + all_0 (((r_0 + 315) + x1)))))) (f4 : (x10 = 0) ∨ ((x10 = (bendMany_0 (((48 * g0_0) + x1)) + 1)) ∨ (x11 = bendX_0 (((24 * ((48 * g0_0) + x1)) + (x10 - 1)))))) (f5 : x10 ≤ (bendMany_0 (((48 * g0_0) + x1)) + 1)) (f6 : x10 = x2 + x9) (f7 : x8 = x7) (f8 : (x2 = 0) → (x7 = nodeY_0 (((24 * g0_0) + all_0 (((r_0 + 267) + x1)))))) (f9 : (x2 = (bendMany_0 (((48 * g0_0) + x1)) + 1)) → (x7 = nodeY_0 (((24 * g0_0) + all_0 (((r_0 + 315) + x1)))))) (f10 : (x2 = 0) ∨ ((x2 = (bendMany_0 (((48 * g0_0) + x1)) + 1)) ∨ (x7 = bendY_0 (((24 * ((48 * g0_0) + x1)) + (x2 - 1)))))) (f11 : x6 = x5) (f12 : (x2 = 0) → (x5 = nodeX_0 (((24 * g0_0) + all_0 (((r_0 + 267) + x1)))))) (f13 : (x2 = (bendMany_0 (((48 * g0_0) + x1)) + 1)) → (x5 = nodeX_0 (((24 * g0_0) + all_0 (((r_0 + 315) + x1)))))) (f14 : (x2 = 0) ∨ ((x2 = (bendMany_0 (((48 * g0_0) + x1)) + 1)) ∨ (x5 = bendX_0 (((24 * ((48 * g0_0) + x1)) + (x2 - 1)))))) (f15 : x2 ≤ (bendMany_0 (((48 * g0_0) + x1)) + 1)) (f16 : x2 ≤ bendMany_0 (((48 * g0_0) + x1))) (f17 : x4 ≤ bendMany_0 (((48 * g0_0) + x3))) (hK_0_62 : ∀ j : Int, 0 ≤ j → j < 96 → (-300000000) ≤ nodeX_0 j ∧ nodeX_0 j ≤ 300000000) (hK_0_63 : ∀ j : Int, 0 ≤ j → j < 96 → (-300000000) ≤ nodeY_0 j ∧ nodeY_0 j ≤ 300000000) (hK_0_64 : ∀ j : Int, 0 ≤ j → j < 192 → 0 ≤ bendMany_0 j ∧ bendMany_0 j ≤ 24) (hK_0_65 : ∀ j : Int, 0 ≤ j → j < 4608 → (-300000011) ≤ bendX_0 j ∧ bendX_0 j ≤ 221100000) (hK_0_66 : ∀ j : Int, 0 ≤ j → j < 4608 → (-900000000) ≤ bendY_0 j ∧ bendY_0 j ≤ 900000000) (kz_0_139 : 0 ≤ g0_0 ∧ g0_0 ≤ 3) : x14 ≤ (bendMany_0 (((48 * g0_0) + x1)) + 1) := by
  first | assumption | (clear f2 f3 f4 f8 f9 f10 f12 f13 f14 hK_0_62 hK_0_63 hK_0_64 hK_0_65 hK_0_66; omega) | (clear hK_0_62 hK_0_63 hK_0_64 hK_0_65 hK_0_66; grind) | omega | grind
def o_Mo_meets_2 : or_T := (34, 15, [(0, (2, 0, 0, [165])), (1, (0, 0, 47, [])), (2, (0, 0, 24, [])), (3, (0, 0, 47, [])), (4, (0, 0, 24, [])), (5, (0, -300000011, 300000000, [])), (6, (1, -300000011, 300000000, [])), (7, (0, -900000000, 900000000, [])), (8, (1, -900000000, 900000000, [])), (9, (0, 1, 1, [])), (10, (0, 1, 25, [])), (11, (0, -300000011, 300000000, [])), (12, (1, -300000011, 300000000, [])), (13, (0, 1, 1, [])), (14, (0, 1, 25, []))], [(1, [14, 2, 13], []), (22, [12, 11], []), (20, [10, 11, 0, 1], [50, 2, 2, 2139, 2005, 2062, 2002, 4, 6, 1, 2, 1, 0, 0, 0, 1, 2, 1, 1, 3, 2, 62, 4, 7, 6, 2, 0, 24, 2, 2, 139, 3, 2, 2, 4, 7, 4, 3, 2, 2, 5, 0, 267, 1, 3]), (20, [10, 0, 1, 11], [50, 2, 3, 1139, 1005, 1064, 1062, 1002, 4, 22, 1, 2, 1, 0, 4, 14, 3, 1, 64, 4, 7, 6, 2, 0, 48, 2, 1, 139, 1, 2, 0, 1, 1, 2, 1, 3, 3, 1, 62, 4, 7, 6, 2, 0, 24, 2, 1, 139, 3, 1, 2, 4, 7, 4, 3, 2, 1, 5, 0, 315, 1, 2]), (20, [10, 0, 1, 11], [50, 1, 2, 1139, 1064, 1065, 3, 6, 1, 2, 1, 0, 0, 0, 3, 22, 1, 2, 1, 0, 4, 14, 3, 1, 64, 4, 7, 6, 2, 0, 48, 2, 1, 139, 1, 2, 0, 1, 1, 2, 1, 3, 3, 1, 65, 4, 15, 6, 2, 0, 24, 4, 7, 6, 2, 0, 48, 2, 1, 139, 1, 2, 5, 2, 1, 0, 0, 1]), (20, [10, 0, 1], [50, 1, 1, 1139, 1064, 0, 2, 1, 0, 4, 14, 3, 1, 64, 4, 7, 6, 2, 0, 48, 2, 1, 139, 1, 2, 0, 1]), (1, [10, 2, 9], []), (22, [8, 7], []), (20, [2, 7, 0, 1], [50, 2, 2, 2139, 2005, 2063, 2002, 4, 6, 1, 2, 1, 0, 0, 0, 1, 2, 1, 1, 3, 2, 63, 4, 7, 6, 2, 0, 24, 2, 2, 139, 3, 2, 2, 4, 7, 4, 3, 2, 2, 5, 0, 267, 1, 3]), (20, [2, 0, 1, 7], [50, 2, 3, 1139, 1005, 1064, 1063, 1002, 4, 22, 1, 2, 1, 0, 4, 14, 3, 1, 64, 4, 7, 6, 2, 0, 48, 2, 1, 139, 1, 2, 0, 1, 1, 2, 1, 3, 3, 1, 63, 4, 7, 6, 2, 0, 24, 2, 1, 139, 3, 1, 2, 4, 7, 4, 3, 2, 1, 5, 0, 315, 1, 2]), (20, [2, 0, 1, 7], [50, 1, 2, 1139, 1064, 1066, 3, 6, 1, 2, 1, 0, 0, 0, 3, 22, 1, 2, 1, 0, 4, 14, 3, 1, 64, 4, 7, 6, 2, 0, 48, 2, 1, 139, 1, 2, 0, 1, 1, 2, 1, 3, 3, 1, 66, 4, 15, 6, 2, 0, 24, 4, 7, 6, 2, 0, 48, 2, 1, 139, 1, 2, 5, 2, 1, 0, 0, 1]), (22, [6, 5], []), (20, [2, 5, 0, 1], [50, 2, 2, 2139, 2005, 2062, 2002, 4, 6, 1, 2, 1, 0, 0, 0, 1, 2, 1, 1, 3, 2, 62, 4, 7, 6, 2, 0, 24, 2, 2, 139, 3, 2, 2, 4, 7, 4, 3, 2, 2, 5, 0, 267, 1, 3]), (20, [2, 0, 1, 5], [50, 2, 3, 1139, 1005, 1064, 1062, 1002, 4, 22, 1, 2, 1, 0, 4, 14, 3, 1, 64, 4, 7, 6, 2, 0, 48, 2, 1, 139, 1, 2, 0, 1, 1, 2, 1, 3, 3, 1, 62, 4, 7, 6, 2, 0, 24, 2, 1, 139, 3, 1, 2, 4, 7, 4, 3, 2, 1, 5, 0, 315, 1, 2]), (20, [2, 0, 1, 5], [50, 1, 2, 1139, 1064, 1065, 3, 6, 1, 2, 1, 0, 0, 0, 3, 22, 1, 2, 1, 0, 4, 14, 3, 1, 64, 4, 7, 6, 2, 0, 48, 2, 1, 139, 1, 2, 0, 1, 1, 2, 1, 3, 3, 1, 65, 4, 15, 6, 2, 0, 24, 4, 7, 6, 2, 0, 48, 2, 1, 139, 1, 2, 5, 2, 1, 0, 0, 1]), (20, [2, 0, 1], [50, 1, 1, 1139, 1064, 0, 2, 1, 0, 4, 14, 3, 1, 64, 4, 7, 6, 2, 0, 48, 2, 1, 139, 1, 2, 0, 1]), (20, [2, 0, 1], [50, 1, 1, 1139, 1064, 0, 2, 1, 0, 3, 1, 64, 4, 7, 6, 2, 0, 48, 2, 1, 139, 1, 2]), (20, [4, 0, 3], [50, 1, 1, 1139, 1064, 0, 2, 1, 0, 3, 1, 64, 4, 7, 6, 2, 0, 48, 2, 1, 139, 1, 2])], [], [], [(20, [14, 0, 1], [50, 1, 1, 1139, 1064, 0, 2, 1, 0, 4, 14, 3, 1, 64, 4, 7, 6, 2, 0, 48, 2, 1, 139, 1, 2, 0, 1])], [], [(14, 2, 1, 1), (10, 2, 1, 1)])
