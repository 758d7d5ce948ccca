section

set_option maxHeartbeats 4000000 in
theorem vc_Mo_ring_7_5 (x5 : Int) (x7 : Int) (gx : Int) (k5 : (-2) ≤ x5 ∧ x5 ≤ 16777216) (k7 : (-2) ≤ x7 ∧ x7 ≤ 16777216) (f5 : 1 * x7 + ((-1) * x5 + 0) ≤ 0) (f6 : (-1) * x7 + (1 * x5 + 0) ≤ 0) (f8 : (-1) * x5 + 0 ≤ (-1)) (ex2 : gx = 0 + (1 * x5 + 0)) : (-1) * gx + 0 ≤ (-1) := by
  first
    | omega
    | (have h := orm_pos (by omega) (by omega) (‹OZ2 _ _ _ _› (by omega)); omega)
    | (have h := orm_pos (by omega) (by omega) ‹ORM _ _ _›; omega)
def o_Mo_ring_7 : or_T := (112, 13, [(0, (2, 0, 0, [165])), (2, (0, 0, 8, [])), (5, (0, -2, 16777216, [])), (7, (0, -2, 16777216, [])), (8, (0, 1, 1, [])), (9, (2, 0, 0, [232])), (10, (0, 0, 0, [])), (11, (0, 0, 0, [])), (12, (0, 1, 1, []))], [(8, [11], [0]), (10, [11, 9, 10], []), (9, [9, 0], [96]), (8, [8], [1]), (20, [2, 2], [50, 0, 0, 1, 2, 1, 0, 1, 1]), (23, [7, 5], [0, 1, -1]), (23, [7, 5], [0, -1, 1]), (20, [2], [50, 0, 0, 0, 2, 1, 0, 0, 8]), (23, [5], [-1, -1]), (20, [2], [50, 0, 0, 0, 2, 1, 0, 0, 24]), (20, [2], [50, 0, 0, 0, 2, 0, 0, 1, 0]), (20, [2], [50, 0, 0, 0, 2, 1, 0, 0, 8]), (20, [0, 2], [60, 0, 1, 322, 96]), (20, [0, 2, 7, 8], [60, 0, 1, 324, 96]), (102, [7], [6901746346790563787434755862277025452451108972170386555162524223799296]), (23, [7, 5], [0, 1, -1]), (23, [7, 5], [0, -1, 1]), (23, [5], [-1, -1])], [], [(0, -2, 16777216, [])], [(20, [2], [50, 0, 0, 0, 2, 1, 0, 0, 24]), (20, [2], [50, 0, 0, 0, 2, 0, 0, 1, 0]), (20, [2], [50, 0, 0, 0, 2, 1, 0, 0, 8]), (20, [0, 2], [60, 0, 1, 322, 96]), (20, [0, 2, 13, 12], [60, 0, 1, 324, 96]), (23, [13], [-1, -1])], [(13, 5, 0, 0)], [])
theorem oo_Mo_ring_7 {kA : Nat → ClassId} : or_ok PRD kA GG o_Mo_ring_7 := by
  refine or_mk fun A ta ws vs hD hth hl => ?_
  intro t0 r0 t2 k2 t5 k5 t7 k7 t8 k8 t9 r9 t10 k10 t11 k11 t12 k12 f0 f1 f2 f3 f4 f5 f6 f7 f8 f9 f10 f11 f12 f13 ta1 w1 le1 s1 f15 f16 f17
  replace f0 := shm_192 f0
  replace f1 := shm_107 f1
  replace f2 := shm_666 f2
  replace f3 := shm_142 f3
  replace f4 := shm_1818 f4
  replace f5 := shm_7 f5
  replace f6 := shm_22 f6
  replace f7 := shm_660 f7
  replace f8 := shm_626 f8
  replace f9 := shm_1656 f9
  replace f10 := shm_722 f10
  replace f11 := shm_660 f11
  replace f12 := shm_661 f12
  replace f13 := shm_665 f13
  replace f15 := shm_7 f15
  replace f16 := shm_22 f16
  replace f17 := shm_626 f17
  have cr_0_96 := fdq_166 hD hth r0
  have ad_9 : v_ad (n_v vs 9) = w_ar ws (n_v vs 0) 96 := congrArg v_ad f2
  simp only [ad_9] at f1
  have h1 : v_iv (n_v vs 11) = w_ei ws (w_ar ws (n_v vs 0) 96) (v_iv (n_v vs 10)) := f1
  have hK_0_96 := elq_96 hD hth cr_0_96
  obtain ⟨x, ex, hx⟩ := iv_ex (ta := ta) (lo := (-2)) (hi := 16777216) (z := 0 + (1 * v_iv (n_v vs 5) + 0)) (by omega) (by omega) (by omega) (by omega)
  have ex2 : v_iv (Value.int x) = 0 + (1 * v_iv (n_v vs 5) + 0) := ex
  have ex3 : (-2) ≤ v_iv (Value.int x) ∧ v_iv (Value.int x) ≤ 16777216 := tv_rng hx
  have e_0 : n_v (vs ++ [Value.int x]) 0 = n_v vs 0 := n_v_old (by rw [hl]; decide)
  have e_2 : n_v (vs ++ [Value.int x]) 2 = n_v vs 2 := n_v_old (by rw [hl]; decide)
  have e_12 : n_v (vs ++ [Value.int x]) 12 = n_v vs 12 := n_v_old (by rw [hl]; decide)
  have e_13 : n_v (vs ++ [Value.int x]) 13 = Value.int x := n_v_new hl
  have nf0 : fc_1 PRD (20, [2], [50, 0, 0, 0, 2, 1, 0, 0, 24]) ws (vs ++ [Value.int x]) := by
    refine ⟨nf_inA hl rfl, sgq_1656 ?_⟩
    · show v_iv (n_v (vs ++ [Value.int x]) 2) ≤ 24
      rw [e_2]
      exact vc_Mo_ring_7_0 (v_iv (n_v vs 2)) k2 f9
  have nf1 : fc_1 PRD (20, [2], [50, 0, 0, 0, 2, 0, 0, 1, 0]) ws (vs ++ [Value.int x]) := by
    refine ⟨nf_inA hl rfl, sgq_722 ?_⟩
    · show 0 ≤ v_iv (n_v (vs ++ [Value.int x]) 2)
      rw [e_2]
      exact vc_Mo_ring_7_1 (v_iv (n_v vs 2)) k2 f10
  have nf2 : fc_1 PRD (20, [2], [50, 0, 0, 0, 2, 1, 0, 0, 8]) ws (vs ++ [Value.int x]) := by
    refine ⟨nf_inA hl rfl, sgq_660 ?_⟩
    · show v_iv (n_v (vs ++ [Value.int x]) 2) ≤ 8
      rw [e_2]
      exact vc_Mo_ring_7_2 (v_iv (n_v vs 2)) k2 f11
  have nf3 : fc_1 PRD (20, [0, 2], [60, 0, 1, 322, 96]) ws (vs ++ [Value.int x]) := by
    refine ⟨nf_inA hl rfl, sgq_661 ?_⟩
    · show DIS (w_ei ws (w_ar ws (n_v (vs ++ [Value.int x]) 0) 96)) (v_iv (n_v (vs ++ [Value.int x]) 2))
      simp only [e_0, e_2]
      exact vc_Mo_ring_7_3 (v_iv (n_v vs 2)) (w_ei ws (w_ar ws (n_v vs 0) 96)) k2 f12
  have nf4 : fc_1 PRD (20, [0, 2, 13, 12], [60, 0, 1, 324, 96]) ws (vs ++ [Value.int x]) := by
    refine ⟨nf_inA hl rfl, sgq_665 ?_⟩
    · show ORN (w_ei ws (w_ar ws (n_v (vs ++ [Value.int x]) 0) 96)) (v_iv (n_v (vs ++ [Value.int x]) 2)) (v_iv (n_v (vs ++ [Value.int x]) 13)) (v_iv (n_v (vs ++ [Value.int x]) 12))
      simp only [e_0, e_2, e_12, e_13]
      exact vc_Mo_ring_7_4 (v_iv (n_v vs 2)) (v_iv (n_v vs 5)) (v_iv (n_v vs 7)) (v_iv (n_v vs 8)) (v_iv (n_v vs 12)) (w_ei ws (w_ar ws (n_v vs 0) 96)) (v_iv (Value.int x)) k2 k5 k7 k8 k12 f3 f5 f6 f13 ex2
  have nf5 : fc_1 PRD (23, [13], [-1, -1]) ws (vs ++ [Value.int x]) := by
    refine ⟨nf_inA hl rfl, sgq_626 ?_⟩
    · show (-1) * v_iv (n_v (vs ++ [Value.int x]) 13) + 0 ≤ (-1)
      rw [e_13]
      exact vc_Mo_ring_7_5 (v_iv (n_v vs 5)) (v_iv (n_v vs 7)) (v_iv (Value.int x)) k5 k7 f5 f6 f8 ex2
  obtain ⟨x0, e0, _, _⟩ := tv_int t5 rfl
  have e1 : v_iv (n_v vs 5) = x0.toInt := by rw [e0]; rfl
  have ho : sy_ofs (vs ++ [Value.int x]) (13, 5, 0, 0) := by
    refine ⟨x, x0, by rw [List.getElem?_append_right (by rw [hl]; decide), hl]; rfl, ?_, ?_, ?_⟩
    · rw [List.getElem?_append_left (by rw [hl]; decide)]; exact n_v_some (by rw [hl]; decide) e0
    · show x0.toInt + 0 ≤ x.toInt; omega
    · show x.toInt ≤ x0.toInt + 0; omega
  exact ⟨(fun _ h => (by cases h)), [Value.int x], ag_one hx, List.forall_mem_cons.mpr ⟨⟨show (20 : Nat) < 100 from by decide, nf0⟩, List.forall_mem_cons.mpr ⟨⟨show (20 : Nat) < 100 from by decide, nf1⟩, List.forall_mem_cons.mpr ⟨⟨show (20 : Nat) < 100 from by decide, nf2⟩, List.forall_mem_cons.mpr ⟨⟨show (20 : Nat) < 100 from by decide, nf3⟩, List.forall_mem_cons.mpr ⟨⟨show (20 : Nat) < 100 from by decide, nf4⟩, List.forall_mem_cons.mpr ⟨⟨show (23 : Nat) < 100 from by decide, nf5⟩, (fun _ h => (by cases h))⟩⟩⟩⟩⟩⟩, List.forall_mem_cons.mpr ⟨ho, (fun _ h => (by cases h))⟩⟩
set_option maxHeartbeats 4000000 in
theorem vc_Mo_ring_8_0 (x2 : Int) (k2 : 0 ≤ x2 ∧ x2 ≤ 8) (f0 : x2 ≤ 24) : x2 ≤ 24 := by
  first
    | omega
    | (have h := orm_pos (by omega) (by omega) (‹OZ2 _ _ _ _› (by omega)); omega)
    | (have h := orm_pos (by omega) (by omega) ‹ORM _ _ _›; omega)
set_option maxHeartbeats 4000000 in
theorem vc_Mo_ring_8_1 (x2 : Int) (k2 : 0 ≤ x2 ∧ x2 ≤ 8) (f1 : 0 ≤ x2) : 0 ≤ x2 := by
  first
    | omega
    | (have h := orm_pos (by omega) (by omega) (‹OZ2 _ _ _ _› (by omega)); omega)
    | (have h := orm_pos (by omega) (by omega) ‹ORM _ _ _›; omega)
set_option maxHeartbeats 4000000 in
theorem vc_Mo_ring_8_2 (x2 : Int) (k2 : 0 ≤ x2 ∧ x2 ≤ 8) (f2 : x2 ≤ 8) : x2 ≤ 8 := by
  first
    | omega
    | (have h := orm_pos (by omega) (by omega) (‹OZ2 _ _ _ _› (by omega)); omega)
    | (have h := orm_pos (by omega) (by omega) ‹ORM _ _ _›; omega)
set_option maxHeartbeats 4000000 in
theorem vc_Mo_ring_8_3 (x2 : Int) (order_0 : Int → Int) (k2 : 0 ≤ x2 ∧ x2 ≤ 8) (f3 : DIS (order_0) (x2)) : DIS (order_0) (x2) := by
  assumption
set_option maxHeartbeats 4000000 in
theorem vc_Mo_ring_8_4 (x2 : Int) (x4 : Int) (x5 : Int) (order_0 : Int → Int) (gx : Int) (k2 : 0 ≤ x2 ∧ x2 ≤ 8) (k4 : 1 ≤ x4 ∧ x4 ≤ 1) (k5 : (-2) ≤ x5 ∧ x5 ≤ 16777216) (f4 : OZ2 (order_0) (x2) (x5) (x4)) (f6 : x4 ≠ 0) (ex2 : gx = 0 + (1 * x5 + 0)) : ORM (order_0) (x2) (gx) := by
  first
    | assumption
    | exact ‹OZ2 _ _ _ _› (by omega)
    | (have h := ‹ORM _ _ _›; unfold ORM at h ⊢; omega)
    | (have h := ‹ORM _ _ _›; unfold ORM at h ⊢; rw [show x6 = x2 by omega]; omega)
    | (have h := ‹ORM _ _ _›; unfold ORM at h ⊢; rw [show x7 = x2 by omega]; omega)
    | (have h := ‹OZ2 _ _ _ _› (by omega); unfold ORM at h ⊢; omega)
set_option maxHeartbeats 4000000 in
theorem vc_Mo_ring_8_5 (x2 : Int) (x4 : Int) (x5 : Int) (order_0 : Int → Int) (gx : Int) (k2 : 0 ≤ x2 ∧ x2 ≤ 8) (k4 : 1 ≤ x4 ∧ x4 ≤ 1) (k5 : (-2) ≤ x5 ∧ x5 ≤ 16777216) (f1 : 0 ≤ x2) (f2 : x2 ≤ 8) (f4 : OZ2 (order_0) (x2) (x5) (x4)) (f6 : x4 ≠ 0) (ex2 : gx = 0 + (1 * x5 + 0)) : (-1) * gx + 0 ≤ (-1) := by
  first
    | omega
    | (have h := orm_pos (by omega) (by omega) (‹OZ2 _ _ _ _› (by omega)); omega)
    | (have h := orm_pos (by omega) (by omega) ‹ORM _ _ _›; omega)
def o_Mo_ring_8 : or_T := (62, 8, [(0, (2, 0, 0, [165])), (2, (0, 0, 8, [])), (4, (0, 1, 1, [])), (5, (0, -2, 16777216, []))], [(20, [2], [50, 0, 0, 0, 2, 1, 0, 0, 24]), (20, [2], [50, 0, 0, 0, 2, 0, 0, 1, 0]), (20, [2], [50, 0, 0, 0, 2, 1, 0, 0, 8]), (20, [0, 2], [60, 0, 1, 322, 96]), (20, [0, 2, 5, 4], [60, 0, 1, 333, 96]), (102, [5], [463168356949264781694283940034751631413079938662562256157830336031652518559744]), (8, [4], [1])], [], [(0, -2, 16777216, [])], [(20, [2], [50, 0, 0, 0, 2, 1, 0, 0, 24]), (20, [2], [50, 0, 0, 0, 2, 0, 0, 1, 0]), (20, [2], [50, 0, 0, 0, 2, 1, 0, 0, 8]), (20, [0, 2], [60, 0, 1, 322, 96]), (20, [0, 2, 8], [60, 0, 1, 323, 96]), (23, [8], [-1, -1])], [(8, 5, 0, 0)], [])
theorem oo_Mo_ring_8 {kA : Nat → ClassId} : or_ok PRD kA GG o_Mo_ring_8 := by
  refine or_mk fun A ta ws vs hD hth hl => ?_
  intro t0 r0 t2 k2 t4 k4 t5 k5 f0 f1 f2 f3 f4 ta1 w1 le1 s1 f6
  replace f0 := shm_1656 f0
  replace f1 := shm_722 f1
  replace f2 := shm_660 f2
  replace f3 := shm_661 f3
  replace f4 := shm_1817 f4
  replace f6 := shm_142 f6
  have cr_0_96 := fdq_166 hD hth r0
  have hK_0_96 := elq_96 hD hth cr_0_96
  obtain ⟨x, ex, hx⟩ := iv_ex (ta := ta) (lo := (-2)) (hi := 16777216) (z := 0 + (1 * v_iv (n_v vs 5) + 0)) (by omega) (by omega) (by omega) (by omega)
  have ex2 : v_iv (Value.int x) = 0 + (1 * v_iv (n_v vs 5) + 0) := ex
  have ex3 : (-2) ≤ v_iv (Value.int x) ∧ v_iv (Value.int x) ≤ 16777216 := tv_rng hx
  have e_0 : n_v (vs ++ [Value.int x]) 0 = n_v vs 0 := n_v_old (by rw [hl]; decide)
  have e_2 : n_v (vs ++ [Value.int x]) 2 = n_v vs 2 := n_v_old (by rw [hl]; decide)
  have e_8 : n_v (vs ++ [Value.int x]) 8 = Value.int x := n_v_new hl
  have nf0 : fc_1 PRD (20, [2], [50, 0, 0, 0, 2, 1, 0, 0, 24]) ws (vs ++ [Value.int x]) := by
    refine ⟨nf_inA hl rfl, sgq_1656 ?_⟩
    · show v_iv (n_v (vs ++ [Value.int x]) 2) ≤ 24
      rw [e_2]
      exact vc_Mo_ring_8_0 (v_iv (n_v vs 2)) k2 f0
  have nf1 : fc_1 PRD (20, [2], [50, 0, 0, 0, 2, 0, 0, 1, 0]) ws (vs ++ [Value.int x]) := by
    refine ⟨nf_inA hl rfl, sgq_722 ?_⟩
    · show 0 ≤ v_iv (n_v (vs ++ [Value.int x]) 2)
      rw [e_2]
      exact vc_Mo_ring_8_1 (v_iv (n_v vs 2)) k2 f1
  have nf2 : fc_1 PRD (20, [2], [50, 0, 0, 0, 2, 1, 0, 0, 8]) ws (vs ++ [Value.int x]) := by
    refine ⟨nf_inA hl rfl, sgq_660 ?_⟩
    · show v_iv (n_v (vs ++ [Value.int x]) 2) ≤ 8
      rw [e_2]
      exact vc_Mo_ring_8_2 (v_iv (n_v vs 2)) k2 f2
  have nf3 : fc_1 PRD (20, [0, 2], [60, 0, 1, 322, 96]) ws (vs ++ [Value.int x]) := by
    refine ⟨nf_inA hl rfl, sgq_661 ?_⟩
    · show DIS (w_ei ws (w_ar ws (n_v (vs ++ [Value.int x]) 0) 96)) (v_iv (n_v (vs ++ [Value.int x]) 2))
      simp only [e_0, e_2]
      exact vc_Mo_ring_8_3 (v_iv (n_v vs 2)) (w_ei ws (w_ar ws (n_v vs 0) 96)) k2 f3
  have nf4 : fc_1 PRD (20, [0, 2, 8], [60, 0, 1, 323, 96]) ws (vs ++ [Value.int x]) := by
    refine ⟨nf_inA hl rfl, sgq_662 ?_⟩
    · show ORM (w_ei ws (w_ar ws (n_v (vs ++ [Value.int x]) 0) 96)) (v_iv (n_v (vs ++ [Value.int x]) 2)) (v_iv (n_v (vs ++ [Value.int x]) 8))
      simp only [e_0, e_2, e_8]
      exact vc_Mo_ring_8_4 (v_iv (n_v vs 2)) (v_iv (n_v vs 4)) (v_iv (n_v vs 5)) (w_ei ws (w_ar ws (n_v vs 0) 96)) (v_iv (Value.int x)) k2 k4 k5 f4 f6 ex2
  have nf5 : fc_1 PRD (23, [8], [-1, -1]) ws (vs ++ [Value.int x]) := by
    refine ⟨nf_inA hl rfl, sgq_626 ?_⟩
    · show (-1) * v_iv (n_v (vs ++ [Value.int x]) 8) + 0 ≤ (-1)
      rw [e_8]
      exact vc_Mo_ring_8_5 (v_iv (n_v vs 2)) (v_iv (n_v vs 4)) (v_iv (n_v vs 5)) (w_ei ws (w_ar ws (n_v vs 0) 96)) (v_iv (Value.int x)) k2 k4 k5 f1 f2 f4 f6 ex2
  obtain ⟨x0, e0, _, _⟩ := tv_int t5 rfl
  have e1 : v_iv (n_v vs 5) = x0.toInt := by rw [e0]; rfl
  have ho : sy_ofs (vs ++ [Value.int x]) (8, 5, 0, 0) := by
    refine ⟨x, x0, by rw [List.getElem?_append_right (by rw [hl]; decide), hl]; rfl, ?_, ?_, ?_⟩
    · rw [List.getElem?_append_left (by rw [hl]; decide)]; exact n_v_some (by rw [hl]; decide) e0
    · show x0.toInt + 0 ≤ x.toInt; omega
    · show x.toInt ≤ x0.toInt + 0; omega
  exact ⟨(fun _ h => (by cases h)), [Value.int x], ag_one hx, List.forall_mem_cons.mpr ⟨⟨show (20 : Nat) < 100 from by decide, nf0⟩, List.forall_mem_cons.mpr ⟨⟨show (20 : Nat) < 100 from by decide, nf1⟩, List.forall_mem_cons.mpr ⟨⟨show (20 : Nat) < 100 from by decide, nf2⟩, List.forall_mem_cons.mpr ⟨⟨show (20 : Nat) < 100 from by decide, nf3⟩, List.forall_mem_cons.mpr ⟨⟨show (20 : Nat) < 100 from by decide, nf4⟩, List.forall_mem_cons.mpr ⟨⟨show (23 : Nat) < 100 from by decide, nf5⟩, (fun _ h => (by cases h))⟩⟩⟩⟩⟩⟩, List.forall_mem_cons.mpr ⟨ho, (fun _ h => (by cases h))⟩⟩
set_option maxHeartbeats 4000000 in
theorem vc_Mo_ring_9_0 (x2 : Int) (k2 : 0 ≤ x2 ∧ x2 ≤ 8) : x2 = x2 := by
  first
    | omega
    | (have h := orm_pos (by omega) (by omega) (‹OZ2 _ _ _ _› (by omega)); omega)
    | (have h := orm_pos (by omega) (by omega) ‹ORM _ _ _›; omega)
set_option maxHeartbeats 4000000 in
theorem vc_Mo_ring_9_1 (x7 : Int) (gx : Int) (k7 : (-2) ≤ x7 ∧ x7 ≤ 16777216) (ex2 : gx = x7) : 1 * gx + ((-1) * x7 + 0) ≤ 0 := by
  first
    | omega
    | (have h := orm_pos (by omega) (by omega) (‹OZ2 _ _ _ _› (by omega)); omega)
    | (have h := orm_pos (by omega) (by omega) ‹ORM _ _ _›; omega)
set_option maxHeartbeats 4000000 in
theorem vc_Mo_ring_9_2 (x7 : Int) (gx : Int) (k7 : (-2) ≤ x7 ∧ x7 ≤ 16777216) (ex2 : gx = x7) : (-1) * gx + (1 * x7 + 0) ≤ 0 := by
  first
    | omega
    | (have h := orm_pos (by omega) (by omega) (‹OZ2 _ _ _ _› (by omega)); omega)
    | (have h := orm_pos (by omega) (by omega) ‹ORM _ _ _›; omega)
set_option maxHeartbeats 4000000 in
theorem vc_Mo_ring_9_3 (x2 : Int) (k2 : 0 ≤ x2 ∧ x2 ≤ 8) (f3 : x2 ≤ 8) : x2 ≤ 8 := by
  first
    | omega
    | (have h := orm_pos (by omega) (by omega) (‹OZ2 _ _ _ _› (by omega)); omega)
    | (have h := orm_pos (by omega) (by omega) ‹ORM _ _ _›; omega)
set_option maxHeartbeats 4000000 in
theorem vc_Mo_ring_9_4 (x2 : Int) (order_0 : Int → Int) (k2 : 0 ≤ x2 ∧ x2 ≤ 8) (f4 : DIS (order_0) (x2)) : DIS (order_0) (x2) := by
  assumption
set_option maxHeartbeats 4000000 in
theorem vc_Mo_ring_9_5 (x2 : Int) (x6 : Int) (x7 : Int) (order_0 : Int → Int) (gx : Int) (k2 : 0 ≤ x2 ∧ x2 ≤ 8) (k7 : (-2) ≤ x7 ∧ x7 ≤ 16777216) (f5 : ORM (order_0) (x2) (x7)) (ex2 : gx = x7) : ORM (order_0) (x2) (gx) := by
  first
    | assumption
    | exact ‹OZ2 _ _ _ _› (by omega)
    | (have h := ‹ORM _ _ _›; unfold ORM at h ⊢; omega)
    | (have h := ‹ORM _ _ _›; unfold ORM at h ⊢; rw [show x6 = x2 by omega]; omega)
    | (have h := ‹ORM _ _ _›; unfold ORM at h ⊢; rw [show x7 = x2 by omega]; omega)
    | (have h := ‹OZ2 _ _ _ _› (by omega); unfold ORM at h ⊢; omega)
set_option maxHeartbeats 4000000 in
theorem vc_Mo_ring_9_6 (x7 : Int) (k7 : (-2) ≤ x7 ∧ x7 ≤ 16777216) (f6 : (-1) * x7 + 0 ≤ (-1)) : (-1) * x7 + 0 ≤ (-1) := by
  first
    | omega
    | (have h := orm_pos (by omega) (by omega) (‹OZ2 _ _ _ _› (by omega)); omega)
    | (have h := orm_pos (by omega) (by omega) ‹ORM _ _ _›; omega)
def o_Mo_ring_9 : or_T := (90, 8, [(2, (0, 0, 8, [])), (7, (0, -2, 16777216, []))], [(20, [2], [50, 0, 0, 0, 2, 1, 0, 0, 8]), (20, [0, 2], [60, 0, 1, 322, 96]), (20, [0, 2, 7], [60, 0, 1, 323, 96]), (23, [7], [-1, -1])], [], [(0, -2, 16777216, [])], [(20, [2, 2], [50, 0, 0, 1, 2, 1, 0, 1, 1]), (23, [8, 7], [0, 1, -1]), (23, [8, 7], [0, -1, 1]), (20, [2], [50, 0, 0, 0, 2, 1, 0, 0, 8]), (20, [0, 2], [60, 0, 1, 322, 96]), (20, [0, 2, 8], [60, 0, 1, 323, 96]), (23, [7], [-1, -1])], [], [])
theorem oo_Mo_ring_9 {kA : Nat → ClassId} : or_ok PRD kA GG o_Mo_ring_9 := by
  refine or_mk fun A ta ws vs hD hth hl => ?_
  intro t2 k2 t7 k7 f3 f4 f5 f6
  replace f3 := shm_660 f3
  replace f4 := shm_661 f4
  replace f5 := shm_662 f5
  replace f6 := shm_626 f6
  obtain ⟨x, ex, hx⟩ := iv_ex (ta := ta) (lo := (-2)) (hi := 16777216) (z := v_iv (n_v vs 7)) (by omega) (by omega) (by omega) (by omega)
  have ex2 : v_iv (Value.int x) = v_iv (n_v vs 7) := ex
  have ex3 : (-2) ≤ v_iv (Value.int x) ∧ v_iv (Value.int x) ≤ 16777216 := tv_rng hx
  have e_0 : n_v (vs ++ [Value.int x]) 0 = n_v vs 0 := n_v_old (by rw [hl]; decide)
  have e_2 : n_v (vs ++ [Value.int x]) 2 = n_v vs 2 := n_v_old (by rw [hl]; decide)
  have e_7 : n_v (vs ++ [Value.int x]) 7 = n_v vs 7 := n_v_old (by rw [hl]; decide)
  have e_8 : n_v (vs ++ [Value.int x]) 8 = Value.int x := n_v_new hl
  have nf0 : fc_1 PRD (20, [2, 2], [50, 0, 0, 1, 2, 1, 0, 1, 1]) ws (vs ++ [Value.int x]) := by
    refine ⟨nf_inA hl rfl, sgq_1818 ?_⟩
    · exact rfl
  have nf1 : fc_1 PRD (23, [8, 7], [0, 1, -1]) ws (vs ++ [Value.int x]) := by
    refine ⟨nf_inA hl rfl, sgq_7 ?_⟩
    · show 1 * v_iv (n_v (vs ++ [Value.int x]) 8) + ((-1) * v_iv (n_v (vs ++ [Value.int x]) 7) + 0) ≤ 0
      simp only [e_7, e_8]
      exact vc_Mo_ring_9_1 (v_iv (n_v vs 7)) (v_iv (Value.int x)) k7 ex2
  have nf2 : fc_1 PRD (23, [8, 7], [0, -1, 1]) ws (vs ++ [Value.int x]) := by
    refine ⟨nf_inA hl rfl, sgq_22 ?_⟩
    · show (-1) * v_iv (n_v (vs ++ [Value.int x]) 8) + (1 * v_iv (n_v (vs ++ [Value.int x]) 7) + 0) ≤ 0
      simp only [e_7, e_8]
      exact vc_Mo_ring_9_2 (v_iv (n_v vs 7)) (v_iv (Value.int x)) k7 ex2
  have nf3 : fc_1 PRD (20, [2], [50, 0, 0, 0, 2, 1, 0, 0, 8]) ws (vs ++ [Value.int x]) := by
    refine ⟨nf_inA hl rfl, sgq_660 ?_⟩
    · show v_iv (n_v (vs ++ [Value.int x]) 2) ≤ 8
      rw [e_2]
      exact vc_Mo_ring_9_3 (v_iv (n_v vs 2)) k2 f3
  have nf4 : fc_1 PRD (20, [0, 2], [60, 0, 1, 322, 96]) ws (vs ++ [Value.int x]) := by
    refine ⟨nf_inA hl rfl, sgq_661 ?_⟩
    · show DIS (w_ei ws (w_ar ws (n_v (vs ++ [Value.int x]) 0) 96)) (v_iv (n_v (vs ++ [Value.int x]) 2))
      simp only [e_0, e_2]
      exact vc_Mo_ring_9_4 (v_iv (n_v vs 2)) (w_ei ws (w_ar ws (n_v vs 0) 96)) k2 f4
  have nf5 : fc_1 PRD (20, [0, 2, 8], [60, 0, 1, 323, 96]) ws (vs ++ [Value.int x]) := by
    refine ⟨nf_inA hl rfl, sgq_662 ?_⟩
    · show ORM (w_ei ws (w_ar ws (n_v (vs ++ [Value.int x]) 0) 96)) (v_iv (n_v (vs ++ [Value.int x]) 2)) (v_iv (n_v (vs ++ [Value.int x]) 8))
      simp only [e_0, e_2, e_8]
      exact vc_Mo_ring_9_5 (v_iv (n_v vs 2)) (v_iv (n_v vs 6)) (v_iv (n_v vs 7)) (w_ei ws (w_ar ws (n_v vs 0) 96)) (v_iv (Value.int x)) k2 k7 f5 ex2
  have nf6 : fc_1 PRD (23, [7], [-1, -1]) ws (vs ++ [Value.int x]) := by
    refine ⟨nf_inA hl rfl, sgq_626 ?_⟩
    · show (-1) * v_iv (n_v (vs ++ [Value.int x]) 7) + 0 ≤ (-1)
      rw [e_7]
      exact vc_Mo_ring_9_6 (v_iv (n_v vs 7)) k7 f6
  exact ⟨(fun _ h => (by cases h)), [Value.int x], ag_one hx, List.forall_mem_cons.mpr ⟨⟨show (20 : Nat) < 100 from by decide, nf0⟩, List.forall_mem_cons.mpr ⟨⟨show (23 : Nat) < 100 from by decide, nf1⟩, List.forall_mem_cons.mpr ⟨⟨show (23 : Nat) < 100 from by decide, nf2⟩, List.forall_mem_cons.mpr ⟨⟨show (20 : Nat) < 100 from by decide, nf3⟩, List.forall_mem_cons.mpr ⟨⟨show (20 : Nat) < 100 from by decide, nf4⟩, List.forall_mem_cons.mpr ⟨⟨show (20 : Nat) < 100 from by decide, nf5⟩, List.forall_mem_cons.mpr ⟨⟨show (23 : Nat) < 100 from by decide, nf6⟩, (fun _ h => (by cases h))⟩⟩⟩⟩⟩⟩⟩, (fun _ h => (by cases h))⟩
set_option maxHeartbeats 4000000 in
theorem vc_Mo_ring_10_0 (x2 : Int) (k2 : 0 ≤ x2 ∧ x2 ≤ 8) (f6 : x2 ≤ 24) : x2 ≤ 24 := by
  first
    | omega
    | (have h := orm_pos (by omega) (by omega) (‹OZ2 _ _ _ _› (by omega)); omega)
    | (have h := orm_pos (by omega) (by omega) ‹ORM _ _ _›; omega)
set_option maxHeartbeats 4000000 in
theorem vc_Mo_ring_10_1 (x2 : Int) (k2 : 0 ≤ x2 ∧ x2 ≤ 8) (f7 : 0 ≤ x2) : 0 ≤ x2 := by
  first
    | omega
    | (have h := orm_pos (by omega) (by omega) (‹OZ2 _ _ _ _› (by omega)); omega)
    | (have h := orm_pos (by omega) (by omega) ‹ORM _ _ _›; omega)
set_option maxHeartbeats 4000000 in
theorem vc_Mo_ring_10_2 (x2 : Int) (k2 : 0 ≤ x2 ∧ x2 ≤ 8) (f8 : x2 ≤ 8) : x2 ≤ 8 := by
  first
    | omega
    | (have h := orm_pos (by omega) (by omega) (‹OZ2 _ _ _ _› (by omega)); omega)
    | (have h := orm_pos (by omega) (by omega) ‹ORM _ _ _›; omega)
set_option maxHeartbeats 4000000 in
theorem vc_Mo_ring_10_3 (x2 : Int) (order_0 : Int → Int) (k2 : 0 ≤ x2 ∧ x2 ≤ 8) (f10 : DIS (order_0) (x2)) : DIS (order_0) (x2) := by
  assumption
set_option maxHeartbeats 4000000 in
theorem vc_Mo_ring_10_4 (x2 : Int) (x10 : Int) (order_0 : Int → Int) (gx : Int) (k2 : 0 ≤ x2 ∧ x2 ≤ 8) (k10 : 0 ≤ x10 ∧ x10 ≤ 0) : ORN (order_0) (x2) (gx) (x10) := by
  first
    | (intro z; exfalso; omega)
    | (have h := ‹ORN _ _ _ _›; intro z; have := h z; omega)
    | (have h := ‹ORN _ _ _ _›; intro z; have := h (by omega); omega)
set_option maxHeartbeats 4000000 in
theorem vc_Mo_ring_10_5 (x7 : Int) (x8 : Int) (gx : Int) (k7 : (-2) ≤ x7 ∧ x7 ≤ 16777216) (k8 : (-2) ≤ x8 ∧ x8 ≤ 16777216) (f2 : 1 * x8 + ((-1) * x7 + 0) ≤ 0) (f3 : (-1) * x8 + (1 * x7 + 0) ≤ 0) (f5 : (-1) * x7 + 0 ≤ (-1)) (ex2 : gx = 0 + (1 * x7 + 0)) : (-1) * gx + 0 ≤ (-1) := by
  first
    | omega
    | (have h := orm_pos (by omega) (by omega) (‹OZ2 _ _ _ _› (by omega)); omega)
    | (have h := orm_pos (by omega) (by omega) ‹ORM _ _ _›; omega)
def o_Mo_ring_10 : or_T := (112, 11, [(0, (2, 0, 0, [165])), (2, (0, 0, 8, [])), (6, (0, 0, 8, [])), (7, (0, -2, 16777216, [])), (8, (0, -2, 16777216, [])), (9, (0, 0, 0, [])), (10, (0, 0, 0, []))], [(8, [9], [0]), (20, [2, 2], [50, 0, 0, 1, 2, 1, 0, 1, 1]), (23, [8, 7], [0, 1, -1]), (23, [8, 7], [0, -1, 1]), (20, [2], [50, 0, 0, 0, 2, 1, 0, 0, 8]), (23, [7], [-1, -1]), (20, [2], [50, 0, 0, 0, 2, 1, 0, 0, 24]), (20, [2], [50, 0, 0, 0, 2, 0, 0, 1, 0]), (20, [2], [50, 0, 0, 0, 2, 1, 0, 0, 8]), (23, [7], [-1, -1]), (20, [0, 2], [60, 0, 1, 322, 96]), (20, [0, 2, 8, 9], [60, 0, 1, 324, 96]), (102, [8], [6901746346790563787434755862277025452451108972170386555162524223799296]), (23, [8, 7], [0, 1, -1]), (23, [8, 7], [0, -1, 1]), (23, [7], [-1, -1]), (7, [6, 2], [3]), (23, [7], [-1, -1])], [], [(0, -2, 16777216, [])], [(20, [2], [50, 0, 0, 0, 2, 1, 0, 0, 24]), (20, [2], [50, 0, 0, 0, 2, 0, 0, 1, 0]), (20, [2], [50, 0, 0, 0, 2, 1, 0, 0, 8]), (20, [0, 2], [60, 0, 1, 322, 96]), (20, [0, 2, 11, 10], [60, 0, 1, 324, 96]), (23, [11], [-1, -1])], [(11, 7, 0, 0)], [(6, 2, 0, 4294967296), (6, 2, -4294967296, 0)])
theorem oo_Mo_ring_10 {kA : Nat → ClassId} : or_ok PRD kA GG o_Mo_ring_10 := by
  refine or_mk fun A ta ws vs hD hth hl => ?_
  intro t0 r0 t2 k2 t6 k6 t7 k7 t8 k8 t9 k9 t10 k10 d0 d1 f0 f1 f2 f3 f4 f5 f6 f7 f8 f9 f10 f11 ta1 w1 le1 s1 f13 f14 f15 f16 f17
  replace f0 := shm_192 f0
  replace f1 := shm_1818 f1
  replace f2 := shm_7 f2
  replace f3 := shm_22 f3
  replace f4 := shm_660 f4
  replace f5 := shm_626 f5
  replace f6 := shm_1656 f6
  replace f7 := shm_722 f7
  replace f8 := shm_660 f8
  replace f9 := shm_626 f9
  replace f10 := shm_661 f10
  replace f11 := shm_665 f11
  replace f13 := shm_7 f13
  replace f14 := shm_22 f14
  replace f15 := shm_626 f15
  replace f16 := shm_2 f16
  replace f17 := shm_626 f17
  have cr_0_96 := fdq_166 hD hth r0
  have hK_0_96 := elq_96 hD hth cr_0_96
  obtain ⟨x, ex, hx⟩ := iv_ex (ta := ta) (lo := (-2)) (hi := 16777216) (z := 0 + (1 * v_iv (n_v vs 7) + 0)) (by omega) (by omega) (by omega) (by omega)
  have ex2 : v_iv (Value.int x) = 0 + (1 * v_iv (n_v vs 7) + 0) := ex
  have ex3 : (-2) ≤ v_iv (Value.int x) ∧ v_iv (Value.int x) ≤ 16777216 := tv_rng hx
  have e_0 : n_v (vs ++ [Value.int x]) 0 = n_v vs 0 := n_v_old (by rw [hl]; decide)
  have e_2 : n_v (vs ++ [Value.int x]) 2 = n_v vs 2 := n_v_old (by rw [hl]; decide)
  have e_10 : n_v (vs ++ [Value.int x]) 10 = n_v vs 10 := n_v_old (by rw [hl]; decide)
  have e_11 : n_v (vs ++ [Value.int x]) 11 = Value.int x := n_v_new hl
  have nf0 : fc_1 PRD (20, [2], [50, 0, 0, 0, 2, 1, 0, 0, 24]) ws (vs ++ [Value.int x]) := by
    refine ⟨nf_inA hl rfl, sgq_1656 ?_⟩
    · show v_iv (n_v (vs ++ [Value.int x]) 2) ≤ 24
      rw [e_2]
      exact vc_Mo_ring_10_0 (v_iv (n_v vs 2)) k2 f6
  have nf1 : fc_1 PRD (20, [2], [50, 0, 0, 0, 2, 0, 0, 1, 0]) ws (vs ++ [Value.int x]) := by
    refine ⟨nf_inA hl rfl, sgq_722 ?_⟩
    · show 0 ≤ v_iv (n_v (vs ++ [Value.int x]) 2)
      rw [e_2]
      exact vc_Mo_ring_10_1 (v_iv (n_v vs 2)) k2 f7
  have nf2 : fc_1 PRD (20, [2], [50, 0, 0, 0, 2, 1, 0, 0, 8]) ws (vs ++ [Value.int x]) := by
    refine ⟨nf_inA hl rfl, sgq_660 ?_⟩
    · show v_iv (n_v (vs ++ [Value.int x]) 2) ≤ 8
      rw [e_2]
      exact vc_Mo_ring_10_2 (v_iv (n_v vs 2)) k2 f8
  have nf3 : fc_1 PRD (20, [0, 2], [60, 0, 1, 322, 96]) ws (vs ++ [Value.int x]) := by
    refine ⟨nf_inA hl rfl, sgq_661 ?_⟩
    · show DIS (w_ei ws (w_ar ws (n_v (vs ++ [Value.int x]) 0) 96)) (v_iv (n_v (vs ++ [Value.int x]) 2))
      simp only [e_0, e_2]
      exact vc_Mo_ring_10_3 (v_iv (n_v vs 2)) (w_ei ws (w_ar ws (n_v vs 0) 96)) k2 f10
  have nf4 : fc_1 PRD (20, [0, 2, 11, 10], [60, 0, 1, 324, 96]) ws (vs ++ [Value.int x]) := by
    refine ⟨nf_inA hl rfl, sgq_665 ?_⟩
    · show ORN (w_ei ws (w_ar ws (n_v (vs ++ [Value.int x]) 0) 96)) (v_iv (n_v (vs ++ [Value.int x]) 2)) (v_iv (n_v (vs ++ [Value.int x]) 11)) (v_iv (n_v (vs ++ [Value.int x]) 10))
      simp only [e_0, e_2, e_10, e_11]
      exact vc_Mo_ring_10_4 (v_iv (n_v vs 2)) (v_iv (n_v vs 10)) (w_ei ws (w_ar ws (n_v vs 0) 96)) (v_iv (Value.int x)) k2 k10
  have nf5 : fc_1 PRD (23, [11], [-1, -1]) ws (vs ++ [Value.int x]) := by
    refine ⟨nf_inA hl rfl, sgq_626 ?_⟩
    · show (-1) * v_iv (n_v (vs ++ [Value.int x]) 11) + 0 ≤ (-1)
      rw [e_11]
      exact vc_Mo_ring_10_5 (v_iv (n_v vs 7)) (v_iv (n_v vs 8)) (v_iv (Value.int x)) k7 k8 f2 f3 f5 ex2
  obtain ⟨x0, e0, _, _⟩ := tv_int t7 rfl
  have e1 : v_iv (n_v vs 7) = x0.toInt := by rw [e0]; rfl
  have ho : sy_ofs (vs ++ [Value.int x]) (11, 7, 0, 0) := by
    refine ⟨x, x0, by rw [List.getElem?_append_right (by rw [hl]; decide), hl]; rfl, ?_, ?_, ?_⟩
    · rw [List.getElem?_append_left (by rw [hl]; decide)]; exact n_v_some (by rw [hl]; decide) e0
    · show x0.toInt + 0 ≤ x.toInt; omega
    · show x.toInt ≤ x0.toInt + 0; omega
  exact ⟨(fun _ h => (by cases h)), [Value.int x], ag_one hx, List.forall_mem_cons.mpr ⟨⟨show (20 : Nat) < 100 from by decide, nf0⟩, List.forall_mem_cons.mpr ⟨⟨show (20 : Nat) < 100 from by decide, nf1⟩, List.forall_mem_cons.mpr ⟨⟨show (20 : Nat) < 100 from by decide, nf2⟩, List.forall_mem_cons.mpr ⟨⟨show (20 : Nat) < 100 from by decide, nf3⟩, List.forall_mem_cons.mpr ⟨⟨show (20 : Nat) < 100 from by decide, nf4⟩, List.forall_mem_cons.mpr ⟨⟨show (23 : Nat) < 100 from by decide, nf5⟩, (fun _ h => (by cases h))⟩⟩⟩⟩⟩⟩, List.forall_mem_cons.mpr ⟨ho, (fun _ h => (by cases h))⟩⟩
set_option maxHeartbeats 4000000 in
theorem vc_Mo_ring_11_0 (x2 : Int) (k2 : 0 ≤ x2 ∧ x2 ≤ 8) (f9 : x2 ≤ 24) : x2 ≤ 24 := by
  first
    | omega
    | (have h := orm_pos (by omega) (by omega) (‹OZ2 _ _ _ _› (by omega)); omega)
    | (have h := orm_pos (by omega) (by omega) ‹ORM _ _ _›; omega)
set_option maxHeartbeats 4000000 in
theorem vc_Mo_ring_11_1 (x2 : Int) (k2 : 0 ≤ x2 ∧ x2 ≤ 8) (f10 : 0 ≤ x2) : 0 ≤ x2 := by
  first
    | omega
    | (have h := orm_pos (by omega) (by omega) (‹OZ2 _ _ _ _› (by omega)); omega)
    | (have h := orm_pos (by omega) (by omega) ‹ORM _ _ _›; omega)
set_option maxHeartbeats 4000000 in
theorem vc_Mo_ring_11_2 (x2 : Int) (k2 : 0 ≤ x2 ∧ x2 ≤ 8) (f11 : x2 ≤ 8) : x2 ≤ 8 := by
  first
    | omega
    | (have h := orm_pos (by omega) (by omega) (‹OZ2 _ _ _ _› (by omega)); omega)
    | (have h := orm_pos (by omega) (by omega) ‹ORM _ _ _›; omega)
set_option maxHeartbeats 4000000 in
theorem vc_Mo_ring_11_3 (x2 : Int) (order_0 : Int → Int) (k2 : 0 ≤ x2 ∧ x2 ≤ 8) (f13 : DIS (order_0) (x2)) : DIS (order_0) (x2) := by
  assumption
set_option maxHeartbeats 4000000 in
theorem vc_Mo_ring_11_4 (x2 : Int) (x13 : Int) (order_0 : Int → Int) (gx : Int) (k2 : 0 ≤ x2 ∧ x2 ≤ 8) (k13 : 0 ≤ x13 ∧ x13 ≤ 0) : ORN (order_0) (x2) (gx) (x13) := by
  first
    | (intro z; exfalso; omega)
    | (have h := ‹ORN _ _ _ _›; intro z; have := h z; omega)
    | (have h := ‹ORN _ _ _ _›; intro z; have := h (by omega); omega)
set_option maxHeartbeats 4000000 in
theorem vc_Mo_ring_11_5 (x7 : Int) (x8 : Int) (gx : Int) (k7 : (-2) ≤ x7 ∧ x7 ≤ 16777216) (k8 : (-2) ≤ x8 ∧ x8 ≤ 16777216) (f5 : 1 * x8 + ((-1) * x7 + 0) ≤ 0) (f6 : (-1) * x8 + (1 * x7 + 0) ≤ 0) (f8 : (-1) * x7 + 0 ≤ (-1)) (ex2 : gx = 0 + (1 * x7 + 0)) : (-1) * gx + 0 ≤ (-1) := by
  first
    | omega
    | (have h := orm_pos (by omega) (by omega) (‹OZ2 _ _ _ _› (by omega)); omega)
    | (have h := orm_pos (by omega) (by omega) ‹ORM _ _ _›; omega)
def o_Mo_ring_11 : or_T := (112, 14, [(0, (2, 0, 0, [165])), (2, (0, 0, 8, [])), (6, (0, 0, 8, [])), (7, (0, -2, 16777216, [])), (8, (0, -2, 16777216, [])), (9, (0, 1, 1, [])), (10, (2, 0, 0, [232])), (11, (0, 0, 0, [])), (12, (0, 1, 25, [])), (13, (0, 0, 0, []))], [(8, [12], [1]), (10, [12, 10, 11], []), (9, [10, 0], [96]), (8, [9], [1]), (20, [2, 2], [50, 0, 0, 1, 2, 1, 0, 1, 1]), (23, [8, 7], [0, 1, -1]), (23, [8, 7], [0, -1, 1]), (20, [2], [50, 0, 0, 0, 2, 1, 0, 0, 8]), (23, [7], [-1, -1]), (20, [2], [50, 0, 0, 0, 2, 1, 0, 0, 24]), (20, [2], [50, 0, 0, 0, 2, 0, 0, 1, 0]), (20, [2], [50, 0, 0, 0, 2, 1, 0, 0, 8]), (23, [7], [-1, -1]), (20, [0, 2], [60, 0, 1, 322, 96]), (20, [0, 2, 8, 9], [60, 0, 1, 324, 96]), (102, [8], [6901746346790563787434755862277025452451108972170386555162524223799296]), (23, [8, 7], [0, 1, -1]), (23, [8, 7], [0, -1, 1]), (23, [7], [-1, -1]), (7, [6, 2], [3]), (23, [7], [-1, -1])], [], [(0, -2, 16777216, [])], [(20, [2], [50, 0, 0, 0, 2, 1, 0, 0, 24]), (20, [2], [50, 0, 0, 0, 2, 0, 0, 1, 0]), (20, [2], [50, 0, 0, 0, 2, 1, 0, 0, 8]), (20, [0, 2], [60, 0, 1, 322, 96]), (20, [0, 2, 14, 13], [60, 0, 1, 324, 96]), (23, [14], [-1, -1])], [(14, 7, 0, 0)], [(6, 2, 0, 4294967296), (6, 2, -4294967296, 0)])
theorem oo_Mo_ring_11 {kA : Nat → ClassId} : or_ok PRD kA GG o_Mo_ring_11 := by
  refine or_mk fun A ta ws vs hD hth hl => ?_
  intro t0 r0 t2 k2 t6 k6 t7 k7 t8 k8 t9 k9 t10 r10 t11 k11 t12 k12 t13 k13 d0 d1 f0 f1 f2 f3 f4 f5 f6 f7 f8 f9 f10 f11 f12 f13 f14 ta1 w1 le1 s1 f16 f17 f18 f19 f20
  replace f0 := shm_142 f0
  replace f1 := shm_107 f1
  replace f2 := shm_666 f2
  replace f3 := shm_142 f3
  replace f4 := shm_1818 f4
  replace f5 := shm_7 f5
  replace f6 := shm_22 f6
  replace f7 := shm_660 f7
  replace f8 := shm_626 f8
  replace f9 := shm_1656 f9
  replace f10 := shm_722 f10
  replace f11 := shm_660 f11
  replace f12 := shm_626 f12
  replace f13 := shm_661 f13
  replace f14 := shm_665 f14
  replace f16 := shm_7 f16
  replace f17 := shm_22 f17
  replace f18 := shm_626 f18
  replace f19 := shm_2 f19
  replace f20 := shm_626 f20
  have cr_0_96 := fdq_166 hD hth r0
  have ad_10 : v_ad (n_v vs 10) = w_ar ws (n_v vs 0) 96 := congrArg v_ad f2
  simp only [ad_10] at f1
  have h1 : v_iv (n_v vs 12) = w_ei ws (w_ar ws (n_v vs 0) 96) (v_iv (n_v vs 11)) := f1
  have hK_0_96 := elq_96 hD hth cr_0_96
  obtain ⟨x, ex, hx⟩ := iv_ex (ta := ta) (lo := (-2)) (hi := 16777216) (z := 0 + (1 * v_iv (n_v vs 7) + 0)) (by omega) (by omega) (by omega) (by omega)
  have ex2 : v_iv (Value.int x) = 0 + (1 * v_iv (n_v vs 7) + 0) := ex
  have ex3 : (-2) ≤ v_iv (Value.int x) ∧ v_iv (Value.int x) ≤ 16777216 := tv_rng hx
  have e_0 : n_v (vs ++ [Value.int x]) 0 = n_v vs 0 := n_v_old (by rw [hl]; decide)
  have e_2 : n_v (vs ++ [Value.int x]) 2 = n_v vs 2 := n_v_old (by rw [hl]; decide)
  have e_13 : n_v (vs ++ [Value.int x]) 13 = n_v vs 13 := n_v_old (by rw [hl]; decide)
  have e_14 : n_v (vs ++ [Value.int x]) 14 = Value.int x := n_v_new hl
  have nf0 : fc_1 PRD (20, [2], [50, 0, 0, 0, 2, 1, 0, 0, 24]) ws (vs ++ [Value.int x]) := by
    refine ⟨nf_inA hl rfl, sgq_1656 ?_⟩
    · show v_iv (n_v (vs ++ [Value.int x]) 2) ≤ 24
      rw [e_2]
      exact vc_Mo_ring_11_0 (v_iv (n_v vs 2)) k2 f9
  have nf1 : fc_1 PRD (20, [2], [50, 0, 0, 0, 2, 0, 0, 1, 0]) ws (vs ++ [Value.int x]) := by
    refine ⟨nf_inA hl rfl, sgq_722 ?_⟩
    · show 0 ≤ v_iv (n_v (vs ++ [Value.int x]) 2)
      rw [e_2]
      exact vc_Mo_ring_11_1 (v_iv (n_v vs 2)) k2 f10
  have nf2 : fc_1 PRD (20, [2], [50, 0, 0, 0, 2, 1, 0, 0, 8]) ws (vs ++ [Value.int x]) := by
    refine ⟨nf_inA hl rfl, sgq_660 ?_⟩
    · show v_iv (n_v (vs ++ [Value.int x]) 2) ≤ 8
      rw [e_2]
      exact vc_Mo_ring_11_2 (v_iv (n_v vs 2)) k2 f11
  have nf3 : fc_1 PRD (20, [0, 2], [60, 0, 1, 322, 96]) ws (vs ++ [Value.int x]) := by
    refine ⟨nf_inA hl rfl, sgq_661 ?_⟩
    · show DIS (w_ei ws (w_ar ws (n_v (vs ++ [Value.int x]) 0) 96)) (v_iv (n_v (vs ++ [Value.int x]) 2))
      simp only [e_0, e_2]
      exact vc_Mo_ring_11_3 (v_iv (n_v vs 2)) (w_ei ws (w_ar ws (n_v vs 0) 96)) k2 f13
  have nf4 : fc_1 PRD (20, [0, 2, 14, 13], [60, 0, 1, 324, 96]) ws (vs ++ [Value.int x]) := by
    refine ⟨nf_inA hl rfl, sgq_665 ?_⟩
    · show ORN (w_ei ws (w_ar ws (n_v (vs ++ [Value.int x]) 0) 96)) (v_iv (n_v (vs ++ [Value.int x]) 2)) (v_iv (n_v (vs ++ [Value.int x]) 14)) (v_iv (n_v (vs ++ [Value.int x]) 13))
      simp only [e_0, e_2, e_13, e_14]
      exact vc_Mo_ring_11_4 (v_iv (n_v vs 2)) (v_iv (n_v vs 13)) (w_ei ws (w_ar ws (n_v vs 0) 96)) (v_iv (Value.int x)) k2 k13
  have nf5 : fc_1 PRD (23, [14], [-1, -1]) ws (vs ++ [Value.int x]) := by
    refine ⟨nf_inA hl rfl, sgq_626 ?_⟩
    · show (-1) * v_iv (n_v (vs ++ [Value.int x]) 14) + 0 ≤ (-1)
      rw [e_14]
      exact vc_Mo_ring_11_5 (v_iv (n_v vs 7)) (v_iv (n_v vs 8)) (v_iv (Value.int x)) k7 k8 f5 f6 f8 ex2
  obtain ⟨x0, e0, _, _⟩ := tv_int t7 rfl
  have e1 : v_iv (n_v vs 7) = x0.toInt := by rw [e0]; rfl
  have ho : sy_ofs (vs ++ [Value.int x]) (14, 7, 0, 0) := by
    refine ⟨x, x0, by rw [List.getElem?_append_right (by rw [hl]; decide), hl]; rfl, ?_, ?_, ?_⟩
    · rw [List.getElem?_append_left (by rw [hl]; decide)]; exact n_v_some (by rw [hl]; decide) e0
    · show x0.toInt + 0 ≤ x.toInt; omega
    · show x.toInt ≤ x0.toInt + 0; omega
  exact ⟨(fun _ h => (by cases h)), [Value.int x], ag_one hx, List.forall_mem_cons.mpr ⟨⟨show (20 : Nat) < 100 from by decide, nf0⟩, List.forall_mem_cons.mpr ⟨⟨show (20 : Nat) < 100 from by decide, nf1⟩, List.forall_mem_cons.mpr ⟨⟨show (20 : Nat) < 100 from by decide, nf2⟩, List.forall_mem_cons.mpr ⟨⟨show (20 : Nat) < 100 from by decide, nf3⟩, List.forall_mem_cons.mpr ⟨⟨show (20 : Nat) < 100 from by decide, nf4⟩, List.forall_mem_cons.mpr ⟨⟨show (23 : Nat) < 100 from by decide, nf5⟩, (fun _ h => (by cases h))⟩⟩⟩⟩⟩⟩, List.forall_mem_cons.mpr ⟨ho, (fun _ h => (by cases h))⟩⟩
set_option maxHeartbeats 4000000 in
theorem vc_Mo_ring_12_0 (x2 : Int) (k2 : 0 ≤ x2 ∧ x2 ≤ 8) (f9 : x2 ≤ 24) : x2 ≤ 24 := by
  first
    | omega
    | (have h := orm_pos (by omega) (by omega) (‹OZ2 _ _ _ _› (by omega)); omega)
    | (have h := orm_pos (by omega) (by omega) ‹ORM _ _ _›; omega)
set_option maxHeartbeats 4000000 in
theorem vc_Mo_ring_12_1 (x2 : Int) (k2 : 0 ≤ x2 ∧ x2 ≤ 8) (f10 : 0 ≤ x2) : 0 ≤ x2 := by
  first
    | omega
    | (have h := orm_pos (by omega) (by omega) (‹OZ2 _ _ _ _› (by omega)); omega)
    | (have h := orm_pos (by omega) (by omega) ‹ORM _ _ _›; omega)
set_option maxHeartbeats 4000000 in
theorem vc_Mo_ring_12_2 (x2 : Int) (k2 : 0 ≤ x2 ∧ x2 ≤ 8) (f11 : x2 ≤ 8) : x2 ≤ 8 := by
  first
    | omega
    | (have h := orm_pos (by omega) (by omega) (‹OZ2 _ _ _ _› (by omega)); omega)
    | (have h := orm_pos (by omega) (by omega) ‹ORM _ _ _›; omega)
set_option maxHeartbeats 4000000 in
theorem vc_Mo_ring_12_3 (x2 : Int) (order_0 : Int → Int) (k2 : 0 ≤ x2 ∧ x2 ≤ 8) (f13 : DIS (order_0) (x2)) : DIS (order_0) (x2) := by
  assumption
set_option maxHeartbeats 4000000 in
theorem vc_Mo_ring_12_4 (x2 : Int) (x7 : Int) (x8 : Int) (x9 : Int) (x13 : Int) (order_0 : Int → Int) (gx : Int) (k2 : 0 ≤ x2 ∧ x2 ≤ 8) (k7 : (-2) ≤ x7 ∧ x7 ≤ 16777216) (k8 : (-2) ≤ x8 ∧ x8 ≤ 16777216) (k9 : 1 ≤ x9 ∧ x9 ≤ 1) (k13 : 1 ≤ x13 ∧ x13 ≤ 1) (f3 : x9 ≠ 0) (f5 : 1 * x8 + ((-1) * x7 + 0) ≤ 0) (f6 : (-1) * x8 + (1 * x7 + 0) ≤ 0) (f14 : ORN (order_0) (x2) (x8) (x9)) (ex2 : gx = 0 + (1 * x7 + 0)) : ORN (order_0) (x2) (gx) (x13) := by
  first
    | (intro z; exfalso; omega)
    | (have h := ‹ORN _ _ _ _›; intro z; have := h z; omega)
    | (have h := ‹ORN _ _ _ _›; intro z; have := h (by omega); omega)
set_option maxHeartbeats 4000000 in
theorem vc_Mo_ring_12_5 (x7 : Int) (x8 : Int) (gx : Int) (k7 : (-2) ≤ x7 ∧ x7 ≤ 16777216) (k8 : (-2) ≤ x8 ∧ x8 ≤ 16777216) (f5 : 1 * x8 + ((-1) * x7 + 0) ≤ 0) (f6 : (-1) * x8 + (1 * x7 + 0) ≤ 0) (f8 : (-1) * x7 + 0 ≤ (-1)) (ex2 : gx = 0 + (1 * x7 + 0)) : (-1) * gx + 0 ≤ (-1) := by
  first
    | omega
    | (have h := orm_pos (by omega) (by omega) (‹OZ2 _ _ _ _› (by omega)); omega)
    | (have h := orm_pos (by omega) (by omega) ‹ORM _ _ _›; omega)
def o_Mo_ring_12 : or_T := (112, 14, [(0, (2, 0, 0, [165])), (2, (0, 0, 8, [])), (6, (0, 0, 8, [])), (7, (0, -2, 16777216, [])), (8, (0, -2, 16777216, [])), (9, (0, 1, 1, [])), (10, (2, 0, 0, [232])), (11, (0, 0, 0, [])), (12, (0, 0, 0, [])), (13, (0, 1, 1, []))], [(8, [12], [0]), (10, [12, 10, 11], []), (9, [10, 0], [96]), (8, [9], [1]), (20, [2, 2], [50, 0, 0, 1, 2, 1, 0, 1, 1]), (23, [8, 7], [0, 1, -1]), (23, [8, 7], [0, -1, 1]), (20, [2], [50, 0, 0, 0, 2, 1, 0, 0, 8]), (23, [7], [-1, -1]), (20, [2], [50, 0, 0, 0, 2, 1, 0, 0, 24]), (20, [2], [50, 0, 0, 0, 2, 0, 0, 1, 0]), (20, [2], [50, 0, 0, 0, 2, 1, 0, 0, 8]), (23, [7], [-1, -1]), (20, [0, 2], [60, 0, 1, 322, 96]), (20, [0, 2, 8, 9], [60, 0, 1, 324, 96]), (102, [8], [6901746346790563787434755862277025452451108972170386555162524223799296]), (23, [8, 7], [0, 1, -1]), (23, [8, 7], [0, -1, 1]), (23, [7], [-1, -1]), (7, [6, 2], [3]), (23, [7], [-1, -1])], [], [(0, -2, 16777216, [])], [(20, [2], [50, 0, 0, 0, 2, 1, 0, 0, 24]), (20, [2], [50, 0, 0, 0, 2, 0, 0, 1, 0]), (20, [2], [50, 0, 0, 0, 2, 1, 0, 0, 8]), (20, [0, 2], [60, 0, 1, 322, 96]), (20, [0, 2, 14, 13], [60, 0, 1, 324, 96]), (23, [14], [-1, -1])], [(14, 7, 0, 0)], [(6, 2, 0, 4294967296), (6, 2, -4294967296, 0)])
theorem oo_Mo_ring_12 {kA : Nat → ClassId} : or_ok PRD kA GG o_Mo_ring_12 := by
  refine or_mk fun A ta ws vs hD hth hl => ?_
  intro t0 r0 t2 k2 t6 k6 t7 k7 t8 k8 t9 k9 t10 r10 t11 k11 t12 k12 t13 k13 d0 d1 f0 f1 f2 f3 f4 f5 f6 f7 f8 f9 f10 f11 f12 f13 f14 ta1 w1 le1 s1 f16 f17 f18 f19 f20
  replace f0 := shm_192 f0
  replace f1 := shm_107 f1
  replace f2 := shm_666 f2
  replace f3 := shm_142 f3
  replace f4 := shm_1818 f4
  replace f5 := shm_7 f5
  replace f6 := shm_22 f6
  replace f7 := shm_660 f7
  replace f8 := shm_626 f8
  replace f9 := shm_1656 f9
  replace f10 := shm_722 f10
  replace f11 := shm_660 f11
  replace f12 := shm_626 f12
  replace f13 := shm_661 f13
  replace f14 := shm_665 f14
  replace f16 := shm_7 f16
  replace f17 := shm_22 f17
  replace f18 := shm_626 f18
  replace f19 := shm_2 f19
  replace f20 := shm_626 f20
  have cr_0_96 := fdq_166 hD hth r0
  have ad_10 : v_ad (n_v vs 10) = w_ar ws (n_v vs 0) 96 := congrArg v_ad f2
  simp only [ad_10] at f1
  have h1 : v_iv (n_v vs 12) = w_ei ws (w_ar ws (n_v vs 0) 96) (v_iv (n_v vs 11)) := f1
  have hK_0_96 := elq_96 hD hth cr_0_96
  obtain ⟨x, ex, hx⟩ := iv_ex (ta := ta) (lo := (-2)) (hi := 16777216) (z := 0 + (1 * v_iv (n_v vs 7) + 0)) (by omega) (by omega) (by omega) (by omega)
  have ex2 : v_iv (Value.int x) = 0 + (1 * v_iv (n_v vs 7) + 0) := ex
  have ex3 : (-2) ≤ v_iv (Value.int x) ∧ v_iv (Value.int x) ≤ 16777216 := tv_rng hx
  have e_0 : n_v (vs ++ [Value.int x]) 0 = n_v vs 0 := n_v_old (by rw [hl]; decide)
  have e_2 : n_v (vs ++ [Value.int x]) 2 = n_v vs 2 := n_v_old (by rw [hl]; decide)
  have e_13 : n_v (vs ++ [Value.int x]) 13 = n_v vs 13 := n_v_old (by rw [hl]; decide)
  have e_14 : n_v (vs ++ [Value.int x]) 14 = Value.int x := n_v_new hl
  have nf0 : fc_1 PRD (20, [2], [50, 0, 0, 0, 2, 1, 0, 0, 24]) ws (vs ++ [Value.int x]) := by
    refine ⟨nf_inA hl rfl, sgq_1656 ?_⟩
    · show v_iv (n_v (vs ++ [Value.int x]) 2) ≤ 24
      rw [e_2]
      exact vc_Mo_ring_12_0 (v_iv (n_v vs 2)) k2 f9
  have nf1 : fc_1 PRD (20, [2], [50, 0, 0, 0, 2, 0, 0, 1, 0]) ws (vs ++ [Value.int x]) := by
    refine ⟨nf_inA hl rfl, sgq_722 ?_⟩
    · show 0 ≤ v_iv (n_v (vs ++ [Value.int x]) 2)
      rw [e_2]
      exact vc_Mo_ring_12_1 (v_iv (n_v vs 2)) k2 f10
  have nf2 : fc_1 PRD (20, [2], [50, 0, 0, 0, 2, 1, 0, 0, 8]) ws (vs ++ [Value.int x]) := by
    refine ⟨nf_inA hl rfl, sgq_660 ?_⟩
    · show v_iv (n_v (vs ++ [Value.int x]) 2) ≤ 8
      rw [e_2]
      exact vc_Mo_ring_12_2 (v_iv (n_v vs 2)) k2 f11
  have nf3 : fc_1 PRD (20, [0, 2], [60, 0, 1, 322, 96]) ws (vs ++ [Value.int x]) := by
    refine ⟨nf_inA hl rfl, sgq_661 ?_⟩
    · show DIS (w_ei ws (w_ar ws (n_v (vs ++ [Value.int x]) 0) 96)) (v_iv (n_v (vs ++ [Value.int x]) 2))
      simp only [e_0, e_2]
      exact vc_Mo_ring_12_3 (v_iv (n_v vs 2)) (w_ei ws (w_ar ws (n_v vs 0) 96)) k2 f13
  have nf4 : fc_1 PRD (20, [0, 2, 14, 13], [60, 0, 1, 324, 96]) ws (vs ++ [Value.int x]) := by
    refine ⟨nf_inA hl rfl, sgq_665 ?_⟩
    · show ORN (w_ei ws (w_ar ws (n_v (vs ++ [Value.int x]) 0) 96)) (v_iv (n_v (vs ++ [Value.int x]) 2)) (v_iv (n_v (vs ++ [Value.int x]) 14)) (v_iv (n_v (vs ++ [Value.int x]) 13))
      simp only [e_0, e_2, e_13, e_14]
      exact vc_Mo_ring_12_4 (v_iv (n_v vs 2)) (v_iv (n_v vs 7)) (v_iv (n_v vs 8)) (v_iv (n_v vs 9)) (v_iv (n_v vs 13)) (w_ei ws (w_ar ws (n_v vs 0) 96)) (v_iv (Value.int x)) k2 k7 k8 k9 k13 f3 f5 f6 f14 ex2
  have nf5 : fc_1 PRD (23, [14], [-1, -1]) ws (vs ++ [Value.int x]) := by
    refine ⟨nf_inA hl rfl, sgq_626 ?_⟩
    · show (-1) * v_iv (n_v (vs ++ [Value.int x]) 14) + 0 ≤ (-1)
      rw [e_14]
      exact vc_Mo_ring_12_5 (v_iv (n_v vs 7)) (v_iv (n_v vs 8)) (v_iv (Value.int x)) k7 k8 f5 f6 f8 ex2
  obtain ⟨x0, e0, _, _⟩ := tv_int t7 rfl
  have e1 : v_iv (n_v vs 7) = x0.toInt := by rw [e0]; rfl
  have ho : sy_ofs (vs ++ [Value.int x]) (14, 7, 0, 0) := by
    refine ⟨x, x0, by rw [List.getElem?_append_right (by rw [hl]; decide), hl]; rfl, ?_, ?_, ?_⟩
    · rw [List.getElem?_append_left (by rw [hl]; decide)]; exact n_v_some (by rw [hl]; decide) e0
    · show x0.toInt + 0 ≤ x.toInt; omega
    · show x.toInt ≤ x0.toInt + 0; omega
  exact ⟨(fun _ h => (by cases h)), [Value.int x], ag_one hx, List.forall_mem_cons.mpr ⟨⟨show (20 : Nat) < 100 from by decide, nf0⟩, List.forall_mem_cons.mpr ⟨⟨show (20 : Nat) < 100 from by decide, nf1⟩, List.forall_mem_cons.mpr ⟨⟨show (20 : Nat) < 100 from by decide, nf2⟩, List.forall_mem_cons.mpr ⟨⟨show (20 : Nat) < 100 from by decide, nf3⟩, List.forall_mem_cons.mpr ⟨⟨show (20 : Nat) < 100 from by decide, nf4⟩, List.forall_mem_cons.mpr ⟨⟨show (23 : Nat) < 100 from by decide, nf5⟩, (fun _ h => (by cases h))⟩⟩⟩⟩⟩⟩, List.forall_mem_cons.mpr ⟨ho, (fun _ h => (by cases h))⟩⟩
set_option maxHeartbeats 4000000 in
theorem vc_Mo_ring_13_0 (x2 : Int) (k2 : 0 ≤ x2 ∧ x2 ≤ 8) (f0 : x2 ≤ 24) : x2 ≤ 24 := by
  first
    | omega
    | (have h := orm_pos (by omega) (by omega) (‹OZ2 _ _ _ _› (by omega)); omega)
    | (have h := orm_pos (by omega) (by omega) ‹ORM _ _ _›; omega)
set_option maxHeartbeats 4000000 in
theorem vc_Mo_ring_13_1 (x2 : Int) (k2 : 0 ≤ x2 ∧ x2 ≤ 8) (f1 : 0 ≤ x2) : 0 ≤ x2 := by
  first
    | omega
    | (have h := orm_pos (by omega) (by omega) (‹OZ2 _ _ _ _› (by omega)); omega)
    | (have h := orm_pos (by omega) (by omega) ‹ORM _ _ _›; omega)
set_option maxHeartbeats 4000000 in
theorem vc_Mo_ring_13_2 (x2 : Int) (k2 : 0 ≤ x2 ∧ x2 ≤ 8) (f2 : x2 ≤ 8) : x2 ≤ 8 := by
  first
    | omega
    | (have h := orm_pos (by omega) (by omega) (‹OZ2 _ _ _ _› (by omega)); omega)
    | (have h := orm_pos (by omega) (by omega) ‹ORM _ _ _›; omega)
set_option maxHeartbeats 4000000 in
theorem vc_Mo_ring_13_3 (x2 : Int) (order_0 : Int → Int) (k2 : 0 ≤ x2 ∧ x2 ≤ 8) (f3 : DIS (order_0) (x2)) : DIS (order_0) (x2) := by
  first
    | assumption
    | exact (idn_dis ‹IDN _ _› (by omega)).1
set_option maxHeartbeats 4000000 in
theorem vc_Mo_ring_13_4 (x2 : Int) (x4 : Int) (x6 : Int) (order_0 : Int → Int) (gx : Int) (k2 : 0 ≤ x2 ∧ x2 ≤ 8) (k4 : 0 ≤ x4 ∧ x4 ≤ 1) (k6 : (-2) ≤ x6 ∧ x6 ≤ 16777216) (f4 : ORN (order_0) (x2) (x6) (x4)) (ex2 : gx = (-1) + (1 * x6 + 0)) : OZ2 (order_0) (x2) (gx) (x4) := by
  first
    | exact fun _ => orm_start (by omega) (by omega) (by omega)
    | (intro z
       have h := ‹ORN _ _ _ _› z
       unfold ORM
       omega)
def o_Mo_ring_13 : or_T := (38, 7, [(0, (2, 0, 0, [165])), (2, (0, 0, 8, [])), (4, (0, 0, 1, [])), (6, (0, -2, 16777216, []))], [(20, [2], [50, 0, 0, 0, 2, 1, 0, 0, 24]), (20, [2], [50, 0, 0, 0, 2, 0, 0, 1, 0]), (20, [2], [50, 0, 0, 0, 2, 1, 0, 0, 8]), (20, [0, 2], [60, 0, 1, 322, 96]), (20, [0, 2, 6, 4], [60, 0, 1, 324, 96]), (23, [6], [-1, -1])], [], [(0, -2, 16777216, [])], [(20, [2], [50, 0, 0, 0, 2, 1, 0, 0, 24]), (20, [2], [50, 0, 0, 0, 2, 0, 0, 1, 0]), (20, [2], [50, 0, 0, 0, 2, 1, 0, 0, 8]), (20, [0, 2], [60, 0, 1, 322, 96]), (20, [0, 2, 7, 4], [60, 0, 1, 333, 96])], [(7, 6, -1000000000000, -1)], [])
theorem oo_Mo_ring_13 {kA : Nat → ClassId} : or_ok PRD kA GG o_Mo_ring_13 := by
  refine or_mk fun A ta ws vs hD hth hl => ?_
  intro t0 r0 t2 k2 t4 k4 t6 k6 f0 f1 f2 f3 f4 f5
  replace f0 := shm_1656 f0
  replace f1 := shm_722 f1
  replace f2 := shm_660 f2
  replace f3 := shm_661 f3
  replace f4 := shm_665 f4
  replace f5 := shm_626 f5
  have cr_0_96 := fdq_166 hD hth r0
  have hK_0_96 := elq_96 hD hth cr_0_96
  obtain ⟨x, ex, hx⟩ := iv_ex (ta := ta) (lo := (-2)) (hi := 16777216) (z := (-1) + (1 * v_iv (n_v vs 6) + 0)) (by omega) (by omega) (by omega) (by omega)
  have ex2 : v_iv (Value.int x) = (-1) + (1 * v_iv (n_v vs 6) + 0) := ex
  have ex3 : (-2) ≤ v_iv (Value.int x) ∧ v_iv (Value.int x) ≤ 16777216 := tv_rng hx
  have e_0 : n_v (vs ++ [Value.int x]) 0 = n_v vs 0 := n_v_old (by rw [hl]; decide)
  have e_2 : n_v (vs ++ [Value.int x]) 2 = n_v vs 2 := n_v_old (by rw [hl]; decide)
  have e_4 : n_v (vs ++ [Value.int x]) 4 = n_v vs 4 := n_v_old (by rw [hl]; decide)
  have e_7 : n_v (vs ++ [Value.int x]) 7 = Value.int x := n_v_new hl
  have nf0 : fc_1 PRD (20, [2], [50, 0, 0, 0, 2, 1, 0, 0, 24]) ws (vs ++ [Value.int x]) := by
    refine ⟨nf_inA hl rfl, sgq_1656 ?_⟩
    · show v_iv (n_v (vs ++ [Value.int x]) 2) ≤ 24
      rw [e_2]
      exact vc_Mo_ring_13_0 (v_iv (n_v vs 2)) k2 f0
  have nf1 : fc_1 PRD (20, [2], [50, 0, 0, 0, 2, 0, 0, 1, 0]) ws (vs ++ [Value.int x]) := by
    refine ⟨nf_inA hl rfl, sgq_722 ?_⟩
    · show 0 ≤ v_iv (n_v (vs ++ [Value.int x]) 2)
      rw [e_2]
      exact vc_Mo_ring_13_1 (v_iv (n_v vs 2)) k2 f1
  have nf2 : fc_1 PRD (20, [2], [50, 0, 0, 0, 2, 1, 0, 0, 8]) ws (vs ++ [Value.int x]) := by
    refine ⟨nf_inA hl rfl, sgq_660 ?_⟩
    · show v_iv (n_v (vs ++ [Value.int x]) 2) ≤ 8
      rw [e_2]
      exact vc_Mo_ring_13_2 (v_iv (n_v vs 2)) k2 f2
  have nf3 : fc_1 PRD (20, [0, 2], [60, 0, 1, 322, 96]) ws (vs ++ [Value.int x]) := by
    refine ⟨nf_inA hl rfl, sgq_661 ?_⟩
    · show DIS (w_ei ws (w_ar ws (n_v (vs ++ [Value.int x]) 0) 96)) (v_iv (n_v (vs ++ [Value.int x]) 2))
      simp only [e_0, e_2]
      exact vc_Mo_ring_13_3 (v_iv (n_v vs 2)) (w_ei ws (w_ar ws (n_v vs 0) 96)) k2 f3
  have nf4 : fc_1 PRD (20, [0, 2, 7, 4], [60, 0, 1, 333, 96]) ws (vs ++ [Value.int x]) := by
    refine ⟨nf_inA hl rfl, sgq_1817 ?_⟩
    · show OZ2 (w_ei ws (w_ar ws (n_v (vs ++ [Value.int x]) 0) 96)) (v_iv (n_v (vs ++ [Value.int x]) 2)) (v_iv (n_v (vs ++ [Value.int x]) 7)) (v_iv (n_v (vs ++ [Value.int x]) 4))
      simp only [e_0, e_2, e_4, e_7]
      exact vc_Mo_ring_13_4 (v_iv (n_v vs 2)) (v_iv (n_v vs 4)) (v_iv (n_v vs 6)) (w_ei ws (w_ar ws (n_v vs 0) 96)) (v_iv (Value.int x)) k2 k4 k6 f4 ex2
  obtain ⟨x0, e0, _, _⟩ := tv_int t6 rfl
  have e1 : v_iv (n_v vs 6) = x0.toInt := by rw [e0]; rfl
  have ho : sy_ofs (vs ++ [Value.int x]) (7, 6, -1000000000000, -1) := by
    refine ⟨x, x0, by rw [List.getElem?_append_right (by rw [hl]; decide), hl]; rfl, ?_, ?_, ?_⟩
    · rw [List.getElem?_append_left (by rw [hl]; decide)]; exact n_v_some (by rw [hl]; decide) e0
    · show x0.toInt + (-1000000000000) ≤ x.toInt; omega
    · show x.toInt ≤ x0.toInt + (-1); omega
  exact ⟨(fun _ h => (by cases h)), [Value.int x], ag_one hx, List.forall_mem_cons.mpr ⟨⟨show (20 : Nat) < 100 from by decide, nf0⟩, List.forall_mem_cons.mpr ⟨⟨show (20 : Nat) < 100 from by decide, nf1⟩, List.forall_mem_cons.mpr ⟨⟨show (20 : Nat) < 100 from by decide, nf2⟩, List.forall_mem_cons.mpr ⟨⟨show (20 : Nat) < 100 from by decide, nf3⟩, List.forall_mem_cons.mpr ⟨⟨show (20 : Nat) < 100 from by decide, nf4⟩, (fun _ h => (by cases h))⟩⟩⟩⟩⟩, List.forall_mem_cons.mpr ⟨ho, (fun _ h => (by cases h))⟩⟩
set_option maxHeartbeats 4000000 in
theorem vc_Mo_ring_14_0 (x6 : Int) (k6 : 1 ≤ x6 ∧ x6 ≤ 1) : 1 ≤ x6 := by
  first
    | omega
    | (have h := orm_pos (by omega) (by omega) (‹OZ2 _ _ _ _› (by omega)); omega)
    | (have h := orm_pos (by omega) (by omega) ‹ORM _ _ _›; omega)
def o_Mo_ring_14 : or_T := (159, 7, [(0, (2, 0, 0, [165])), (2, (0, 9, 24, [])), (6, (0, 1, 1, []))], [(20, [2], [50, 0, 0, 0, 2, 1, 0, 0, 24]), (20, [2], [50, 0, 0, 0, 2, 0, 0, 1, 0]), (20, [0, 2], [60, 0, 1, 338, 96])], [], [], [(20, [6], [50, 0, 0, 0, 2, 0, 1, 1, 0])], [], [])
theorem oo_Mo_ring_14 {kA : Nat → ClassId} : or_ok PRD kA GG o_Mo_ring_14 := by
  refine or_mk fun A ta ws vs hD hth hl => ?_
  intro t0 r0 t2 k2 t6 k6 f0 f1 f2
  have nf0 : fc_1 PRD (20, [6], [50, 0, 0, 0, 2, 0, 1, 1, 0]) ws (vs) := ⟨nf_in hl rfl, sgq_710 (vc_Mo_ring_14_0 (v_iv (n_v vs 6)) k6)⟩
  refine ⟨(fun _ h => (by cases h)), [], trivial, ?_, (fun _ h => (by cases h))⟩
  rw [List.append_nil]
  exact List.forall_mem_cons.mpr ⟨⟨show (20 : Nat) < 100 from by decide, nf0⟩, (fun _ h => (by cases h))⟩
set_option maxHeartbeats 4000000 in
theorem vc_Mo_ring_15_0 (x2 : Int) (x5 : Int) (k2 : 9 ≤ x2 ∧ x2 ≤ 24) (k5 : 1 ≤ x5 ∧ x5 ≤ 23) (d0 : x2 + (-4294967296) ≤ x5 ∧ x5 ≤ x2 + (-1)) : (x5 + 1) ≤ x2 := by
  first
    | omega
    | (have h := orm_pos (by omega) (by omega) (‹OZ2 _ _ _ _› (by omega)); omega)
    | (have h := orm_pos (by omega) (by omega) ‹ORM _ _ _›; omega)
def o_Mo_ring_15 : or_T := (169, 6, [(2, (0, 9, 24, [])), (5, (0, 1, 23, []))], [], [], [], [(20, [5, 2], [50, 0, 0, 0, 6, 4, 2, 1, 0, 0, 1, 1, 1])], [], [(5, 2, -4294967296, -1)])
theorem oo_Mo_ring_15 {kA : Nat → ClassId} : or_ok PRD kA GG o_Mo_ring_15 := by
  refine or_mk fun A ta ws vs hD hth hl => ?_
  intro t2 k2 t5 k5 d0
  have nf0 : fc_1 PRD (20, [5, 2], [50, 0, 0, 0, 6, 4, 2, 1, 0, 0, 1, 1, 1]) ws (vs) := ⟨nf_in hl rfl, sgq_396 (vc_Mo_ring_15_0 (v_iv (n_v vs 2)) (v_iv (n_v vs 5)) k2 k5 d0)⟩
  refine ⟨(fun _ h => (by cases h)), [], trivial, ?_, (fun _ h => (by cases h))⟩
  rw [List.append_nil]
  exact List.forall_mem_cons.mpr ⟨⟨show (20 : Nat) < 100 from by decide, nf0⟩, (fun _ h => (by cases h))⟩
set_option maxHeartbeats 4000000 in
theorem vc_Mo_ring_16_0 (x6 : Int) (k6 : 2 ≤ x6 ∧ x6 ≤ 24) : 1 ≤ x6 := by
  first
    | omega
    | (have h := orm_pos (by omega) (by omega) (‹OZ2 _ _ _ _› (by omega)); omega)
    | (have h := orm_pos (by omega) (by omega) ‹ORM _ _ _›; omega)
def o_Mo_ring_16 : or_T := (159, 7, [(0, (2, 0, 0, [165])), (2, (0, 9, 24, [])), (5, (0, 1, 23, [])), (6, (0, 2, 24, []))], [(6, [6, 5], [1]), (20, [5, 2], [50, 0, 0, 0, 6, 4, 2, 1, 0, 0, 1, 1, 1]), (20, [2], [50, 0, 0, 0, 2, 1, 0, 0, 24]), (20, [2], [50, 0, 0, 0, 2, 0, 0, 1, 0]), (20, [5], [50, 0, 0, 0, 2, 0, 1, 1, 0]), (20, [0, 2], [60, 0, 1, 338, 96]), (102, [5], [463168363851011128484847727469507493690105391113671228328216891194176742359040]), (7, [5, 2], [2])], [], [], [(20, [6], [50, 0, 0, 0, 2, 0, 1, 1, 0])], [], [(6, 5, 1, 1), (6, 2, -4294967296, 0), (5, 2, -4294967296, -1)])
theorem oo_Mo_ring_16 {kA : Nat → ClassId} : or_ok PRD kA GG o_Mo_ring_16 := by
  refine or_mk fun A ta ws vs hD hth hl => ?_
  intro t0 r0 t2 k2 t5 k5 t6 k6 d0 d1 d2 f0 f1 f2 f3 f4 f5 ta1 w1 le1 s1 f7
  have nf0 : fc_1 PRD (20, [6], [50, 0, 0, 0, 2, 0, 1, 1, 0]) ws (vs) := ⟨nf_in hl rfl, sgq_710 (vc_Mo_ring_16_0 (v_iv (n_v vs 6)) k6)⟩
  refine ⟨(fun _ h => (by cases h)), [], trivial, ?_, (fun _ h => (by cases h))⟩
  rw [List.append_nil]
  exact List.forall_mem_cons.mpr ⟨⟨show (20 : Nat) < 100 from by decide, nf0⟩, (fun _ h => (by cases h))⟩
def n_Mo_ring_an : List an_T := [(7, [(0, (2, 0, 0, [165])), (1, (0, 0, 3, [])), (2, (0, 0, 24, [])), (3, (0, 0, 24, []))], [], (0, 0), [(0, 0, 99993), (1, 3, 24), (0, 0, 100000), (0, 0, 0), (0, 0, 0)], [(3, 2, (Int.negSucc 999999999999), 0)], [], [], 0, [], [(20, [2], [50, 0, 0, 0, 2, 1, 0, 0, 24]), (20, [2], [50, 0, 0, 0, 2, 0, 0, 1, 0]), (20, [0, 3], [60, 0, 1, 337, 96])]), (38, [(0, (2, 0, 0, [165])), (1, (0, 0, 3, [])), (2, (0, 0, 8, [])), (3, (0, (Int.negSucc 2147483647), 1000000, [])), (4, (0, 0, 1, []))], [], (0, 0), [(0, 0, 99962), (2, 5, (Int.negSucc 1)), (0, 0, 100000), (0, 0, 0), (0, 0, 0)], [], [], [], 0, [(0, (Int.negSucc 1), 16777216, [])], [(20, [2], [50, 0, 0, 0, 2, 1, 0, 0, 24]), (20, [2], [50, 0, 0, 0, 2, 0, 0, 1, 0]), (20, [2], [50, 0, 0, 0, 2, 1, 0, 0, 8]), (20, [0, 2], [60, 0, 1, 322, 96]), (20, [0, 2, 5, 4], [60, 0, 1, 333, 96])]), (62, [(0, (2, 0, 0, [165])), (1, (0, 0, 3, [])), (2, (0, 0, 8, [])), (3, (0, (Int.negSucc 2147483647), 999999, [])), (4, (0, 1, 1, [])), (5, (0, (Int.negSucc 2147483647), 999999, [])), (6, (0, 0, 8, []))], [], (0, 0), [(0, 0, 99962), (2, 7, (Int.negSucc 1)), (0, 0, 99938), (1, 6, 8), (0, 0, 100000)], [(3, 5, (Int.negSucc 999999999999), 0), (5, 3, (Int.negSucc 999999999999), 0), (6, 2, (Int.negSucc 999999999999), 0)], [], [], 0, [(0, (Int.negSucc 1), 16777216, [])], [(20, [2], [50, 0, 0, 0, 2, 1, 0, 0, 24]), (20, [2], [50, 0, 0, 0, 2, 0, 0, 1, 0]), (20, [2], [50, 0, 0, 0, 2, 1, 0, 0, 8]), (20, [0, 2], [60, 0, 1, 322, 96]), (20, [0, 2, 7], [60, 0, 1, 323, 96]), (23, [7], [(Int.negSucc 0), (Int.negSucc 0)])]), (112, [(0, (2, 0, 0, [165])), (1, (0, 0, 3, [])), (2, (0, 0, 8, [])), (3, (0, (Int.negSucc 2147483647), 1000000, [])), (4, (0, 0, 1, [])), (5, (0, (Int.negSucc 2147483647), 2147483647, []))], [], (0, 0), [(0, 0, 99962), (2, 6, (Int.negSucc 1)), (0, 0, 99888), (0, 0, 0), (0, 0, 0)], [(3, 5, (Int.negSucc 999999999999), 0)], [], [], 0, [(0, (Int.negSucc 1), 16777216, [])], [(20, [2], [50, 0, 0, 0, 2, 1, 0, 0, 24]), (20, [2], [50, 0, 0, 0, 2, 0, 0, 1, 0]), (20, [2], [50, 0, 0, 0, 2, 1, 0, 0, 8]), (20, [0, 2], [60, 0, 1, 322, 96]), (20, [0, 2, 6, 4], [60, 0, 1, 324, 96]), (23, [6], [(Int.negSucc 0), (Int.negSucc 0)])]), (118, [(0, (2, 0, 0, [165])), (1, (0, 0, 3, [])), (2, (0, 0, 8, [])), (3, (0, (Int.negSucc 2147483647), 1000000, [])), (4, (0, 0, 0, [])), (5, (0, 0, 8, []))], [], (0, 0), [(0, 0, 99882), (1, 5, 8), (0, 0, 100000), (0, 0, 0), (0, 0, 0)], [(5, 2, (Int.negSucc 999999999999), 0)], [], [], 0, [], [(20, [2], [50, 0, 0, 0, 2, 1, 0, 0, 24]), (20, [2], [50, 0, 0, 0, 2, 0, 0, 1, 0])]), (150, [(0, (2, 0, 0, [165])), (1, (0, 0, 3, [])), (2, (0, 9, 24, [])), (3, (0, 9, 24, [])), (4, (0, 0, 2, []))], [], (0, 0), [(0, 0, 99850), (1, 4, 2), (0, 0, 100000), (0, 0, 0), (0, 0, 0)], [(2, 3, (Int.negSucc 999999999999), 0), (3, 2, (Int.negSucc 999999999999), 0)], [], [], 0, [], [(20, [2], [50, 0, 0, 0, 2, 1, 0, 0, 24]), (20, [2], [50, 0, 0, 0, 2, 0, 0, 1, 0]), (20, [0, 2], [60, 0, 1, 338, 96])]), (159, [(0, (2, 0, 0, [165])), (1, (0, 0, 3, [])), (2, (0, 9, 24, [])), (3, (0, 9, 24, [])), (4, (0, 0, 1, [])), (5, (0, 1, 24, []))], [], (0, 0), [(0, 0, 99850), (1, 4, 2), (0, 0, 99841), (1, 5, 24), (0, 0, 100000)], [(2, 3, (Int.negSucc 999999999999), 0), (3, 2, (Int.negSucc 999999999999), 0)], [], [], 0, [], [(20, [2], [50, 0, 0, 0, 2, 1, 0, 0, 24]), (20, [2], [50, 0, 0, 0, 2, 0, 0, 1, 0]), (20, [0, 2], [60, 0, 1, 338, 96]), (20, [5], [50, 0, 0, 0, 2, 0, 1, 1, 0])]), (193, [(0, (2, 0, 0, [165])), (1, (0, 0, 3, [])), (2, (0, 0, 24, [])), (3, (0, (Int.negSucc 2147483647), 2147483647, [])), (4, (0, 0, 24, []))], [], (0, 0), [(0, 0, 99807), (1, 4, 24), (0, 0, 100000), (0, 0, 0), (0, 0, 0)], [(3, 2, (Int.negSucc 999999999999), 2147483638), (4, 2, (Int.negSucc 999999999999), 0)], [], [], 0, [], [(20, [2], [50, 0, 0, 0, 2, 1, 0, 0, 24]), (20, [2], [50, 0, 0, 0, 2, 0, 0, 1, 0])])]
def t_Mo_ring_ct : ct_L := [(1, 475, e_Mo_nodes), (1, 988, e_Mo_chordCrossings), (1, 991, e_Mo_putBest), (274, 810, e_Mo_nextOrder_at_gx)]
set_option maxRecDepth 100000 in
theorem c_Mo_ring {l : Launch} {D : va_G} {kA : Nat → ClassId} (h_Mo_chordCrossings : ct_ok PRD l D kA GG y_Mo_chordCrossings z_Mo_chordCrossings e_Mo_chordCrossings) (h_Mo_nextOrder_at_gx : ct_ok PRD l D kA GG y_Mo_nextOrder_at_gx z_Mo_nextOrder_at_gx e_Mo_nextOrder_at_gx) (h_Mo_nodes : ct_ok PRD l D kA GG y_Mo_nodes z_Mo_nodes e_Mo_nodes) (h_Mo_putBest : ct_ok PRD l D kA GG y_Mo_putBest z_Mo_putBest e_Mo_putBest) : ct_ok PRD l D kA GG y_Mo_ring z_Mo_ring e_Mo_ring := chk_all_ok (FT := [(138, 13, 67), (159, 13, 74), (162, 13, 75), (213, 13, 96), (216, 13, 97)]) (PT := []) (CT := t_Mo_ring_ct) (KT := [(1, 546, .int (1000000), (0, 1000000, 1000000, []))]) (NT := []) (AN := n_Mo_ring_an) (OT := [o_Mo_ring_0, o_Mo_ring_1, o_Mo_ring_2, o_Mo_ring_3, o_Mo_ring_4, o_Mo_ring_5, o_Mo_ring_6, o_Mo_ring_7, o_Mo_ring_8, o_Mo_ring_9, o_Mo_ring_10, o_Mo_ring_11, o_Mo_ring_12, o_Mo_ring_13, o_Mo_ring_14, o_Mo_ring_15, o_Mo_ring_16]) 5 1364 (List.forall_mem_cons.mpr ⟨oo_Mo_ring_0, List.forall_mem_cons.mpr ⟨oo_Mo_ring_1, List.forall_mem_cons.mpr ⟨oo_Mo_ring_2, List.forall_mem_cons.mpr ⟨oo_Mo_ring_3, List.forall_mem_cons.mpr ⟨oo_Mo_ring_4, List.forall_mem_cons.mpr ⟨oo_Mo_ring_5, List.forall_mem_cons.mpr ⟨oo_Mo_ring_6, List.forall_mem_cons.mpr ⟨oo_Mo_ring_7, List.forall_mem_cons.mpr ⟨oo_Mo_ring_8, List.forall_mem_cons.mpr ⟨oo_Mo_ring_9, List.forall_mem_cons.mpr ⟨oo_Mo_ring_10, List.forall_mem_cons.mpr ⟨oo_Mo_ring_11, List.forall_mem_cons.mpr ⟨oo_Mo_ring_12, List.forall_mem_cons.mpr ⟨oo_Mo_ring_13, List.forall_mem_cons.mpr ⟨oo_Mo_ring_14, List.forall_mem_cons.mpr ⟨oo_Mo_ring_15, List.forall_mem_cons.mpr ⟨oo_Mo_ring_16, List.forall_mem_nil _⟩⟩⟩⟩⟩⟩⟩⟩⟩⟩⟩⟩⟩⟩⟩⟩⟩) (by decide +kernel) ⟨List.forall_mem_cons.mpr ⟨gf_Mo_138, List.forall_mem_cons.mpr ⟨gf_Mo_159, List.forall_mem_cons.mpr ⟨gf_Mo_162, List.forall_mem_cons.mpr ⟨gf_Mo_213, List.forall_mem_cons.mpr ⟨gf_Mo_216, List.forall_mem_nil _⟩⟩⟩⟩⟩, List.forall_mem_nil _, List.forall_mem_cons.mpr ⟨cl_virtual (y := y_Mo_nodes) (ci := 13) rfl rfl ⟨_, _, rfl⟩ (by decide +kernel) h_Mo_nodes wm_3025 wm_9 wm_3022 wm_3024 wv_13_3 ⟨by decide, by decide, by decide +kernel⟩ (by decide), List.forall_mem_cons.mpr ⟨cl_virtual (y := y_Mo_chordCrossings) (ci := 13) rfl rfl ⟨_, _, rfl⟩ (by decide +kernel) h_Mo_chordCrossings wm_3612 wm_9 wm_3609 wm_3611 wv_21_6 ⟨by decide, by decide, by decide +kernel⟩ (by decide), List.forall_mem_cons.mpr ⟨cl_virtual (y := y_Mo_putBest) (ci := 13) rfl rfl ⟨_, _, rfl⟩ (by decide +kernel) h_Mo_putBest wm_3616 wm_9 wm_3613 wm_3615 wv_21_7 ⟨by decide, by decide, by decide +kernel⟩ (by decide), List.forall_mem_cons.mpr ⟨cl_virtual (y := y_Mo_nextOrder_at_gx) (ci := 13) rfl rfl ⟨_, _, rfl⟩ (by decide +kernel) h_Mo_nextOrder_at_gx wm_2432 wm_9 wm_2429 wm_2431 wv_12_10 ⟨by decide, by decide, by decide +kernel⟩ (by decide), List.forall_mem_nil _⟩⟩⟩⟩, List.forall_mem_cons.mpr ⟨kx_Mo_1_546, List.forall_mem_nil _⟩, List.forall_mem_nil _, GG_pl⟩ (by decide +kernel)
set_option maxHeartbeats 4000000 in
theorem vc_Ho_back_0_1 (x1 : Int) (gy : Int) (k1 : 0 ≤ x1 ∧ x1 ≤ 3) (ey2 : gy = x1) : 1 * gy + ((-1) * x1 + 0) ≤ 0 := by
  first
    | omega
  
set_option maxHeartbeats 4000000 in
theorem vc_Ho_back_0_2 (x1 : Int) (gy : Int) (k1 : 0 ≤ x1 ∧ x1 ≤ 3) (ey2 : gy = x1) : (-1) * gy + (1 * x1 + 0) ≤ 0 := by
  first
    | omega
  
def o_Ho_back_0 : or_T := (14, 6, [(0, (2, 0, 0, [12])), (1, (0, 0, 3, [])), (4, (2, 0, 0, [131])), (5, (2, 0, 0, [3]))], [(14, [5, 4, 1], []), (9, [4, 0], [0]), (20, [0], [62, 0])], [], [(2, 0, 0, [12]), (0, 0, 3, [])], [(24, [0, 6], []), (23, [7, 1], [0, 1, -1]), (23, [7, 1], [0, -1, 1]), (20, [6, 7, 5], [62, 71])], [], [])
theorem oo_Ho_back_0 {kA : Nat → ClassId} : or_ok PRD kA GG o_Ho_back_0 := by
  refine or_mk fun A ta ws vs hD hth hl => ?_
  intro t0 r0 t1 k1 t4 r4 t5 r5 f0 f1 f2
  replace f0 := shm_793 f0
  replace f1 := shm_163 f1
  replace f2 := shm_1176 f2
  have cr_0_0 := fdq_311 hD hth r0
  have ad_4 : v_ad (n_v vs 4) = w_ar ws (n_v vs 0) 0 := congrArg v_ad f1
  obtain ⟨y, ey, hy⟩ := iv_ex (ta := ta) (lo := 0) (hi := 3) (z := v_iv (n_v vs 1)) (by omega) (by omega) (by omega) (by omega)
  have ey2 : v_iv (Value.int y) = v_iv (n_v vs 1) := ey
  have ey3 : 0 ≤ v_iv (Value.int y) ∧ v_iv (Value.int y) ≤ 3 := tv_rng hy
  have e_0 : n_v (vs ++ [n_v vs 0, Value.int y]) 0 = n_v vs 0 := n_v_old (by rw [hl]; decide)
  have e_1 : n_v (vs ++ [n_v vs 0, Value.int y]) 1 = n_v vs 1 := n_v_old (by rw [hl]; decide)
  have e_5 : n_v (vs ++ [n_v vs 0, Value.int y]) 5 = n_v vs 5 := n_v_old (by rw [hl]; decide)
  have e_6 : n_v (vs ++ [n_v vs 0, Value.int y]) 6 = n_v vs 0 := n_v_new0 hl
  have e_7 : n_v (vs ++ [n_v vs 0, Value.int y]) 7 = Value.int y := n_v_new1 hl
  have nf0 : fc_1 PRD (24, [0, 6], []) ws (vs ++ [n_v vs 0, Value.int y]) := by
    refine ⟨nf_inA hl rfl, sgq_5 ?_⟩
    · show n_v (vs ++ [n_v vs 0, Value.int y]) 0 = n_v (vs ++ [n_v vs 0, Value.int y]) 6
      first | rfl | simp only [e_0, e_6]
  have nf1 : fc_1 PRD (23, [7, 1], [0, 1, -1]) ws (vs ++ [n_v vs 0, Value.int y]) := by
    refine ⟨nf_inA hl rfl, sgq_7 ?_⟩
    · show 1 * v_iv (n_v (vs ++ [n_v vs 0, Value.int y]) 7) + ((-1) * v_iv (n_v (vs ++ [n_v vs 0, Value.int y]) 1) + 0) ≤ 0
      simp only [e_1, e_7]
      exact vc_Ho_back_0_1 (v_iv (n_v vs 1)) (v_iv (Value.int y)) k1 ey2
  have nf2 : fc_1 PRD (23, [7, 1], [0, -1, 1]) ws (vs ++ [n_v vs 0, Value.int y]) := by
    refine ⟨nf_inA hl rfl, sgq_22 ?_⟩
    · show (-1) * v_iv (n_v (vs ++ [n_v vs 0, Value.int y]) 7) + (1 * v_iv (n_v (vs ++ [n_v vs 0, Value.int y]) 1) + 0) ≤ 0
      simp only [e_1, e_7]
      exact vc_Ho_back_0_2 (v_iv (n_v vs 1)) (v_iv (Value.int y)) k1 ey2
  have nf3 : fc_1 PRD (20, [6, 7, 5], [62, 71]) ws (vs ++ [n_v vs 0, Value.int y]) := by
    refine ⟨nf_inA hl rfl, sgq_1819 ?_⟩
    · show WQF 71 [n_v (vs ++ [n_v vs 0, Value.int y]) 6, n_v (vs ++ [n_v vs 0, Value.int y]) 7, n_v (vs ++ [n_v vs 0, Value.int y]) 5] ws
      simp only [e_5, e_6, e_7]
      have zw := f2
      exact WQF_int (wq_in (zw) (by omega) (by omega) ⟨rfl, rfl⟩ ⟨Or.inr (pO_of f1 f0), trivial⟩) ey2
  exact ⟨(fun _ h => (by cases h)), [n_v vs 0, Value.int y], ag_two t0 hy, List.forall_mem_cons.mpr ⟨⟨show (24 : Nat) < 100 from by decide, nf0⟩, List.forall_mem_cons.mpr ⟨⟨show (23 : Nat) < 100 from by decide, nf1⟩, List.forall_mem_cons.mpr ⟨⟨show (23 : Nat) < 100 from by decide, nf2⟩, List.forall_mem_cons.mpr ⟨⟨show (20 : Nat) < 100 from by decide, nf3⟩, (fun _ h => (by cases h))⟩⟩⟩⟩, (fun _ h => (by cases h))⟩
set_option maxHeartbeats 4000000 in
theorem vc_Ho_back_1_1 (x1 : Int) (k1 : 0 ≤ x1 ∧ x1 ≤ 3) : (0 ≤ x1) ∧ (x1 ≤ 3) := by
  first
    | omega
  
def o_Ho_back_1 : or_T := (24, 10, [(0, (2, 0, 0, [12])), (1, (0, 0, 3, [])), (6, (2, 0, 0, [12])), (7, (0, 0, 3, [])), (9, (0, 1, 1, []))], [(8, [9], [1]), (24, [0, 6], []), (23, [7, 1], [0, 1, -1]), (23, [7, 1], [0, -1, 1]), (20, [6, 7, 9], [62, 17]), (102, [7], [1801158375971487744, 3000, 3001, 3017, 3018]), (23, [7, 1], [0, 1, -1]), (23, [7, 1], [0, -1, 1])], [], [], [(20, [0, 1], [62, 1]), (20, [1], [50, 0, 0, 2, 6, 0, 2, 0, 0, 1, 0, 0, 2, 1, 0, 0, 3])], [], [])
theorem oo_Ho_back_1 {kA : Nat → ClassId} : or_ok PRD kA GG o_Ho_back_1 := by
  refine or_mk fun A ta ws vs hD hth hl => ?_
  intro t0 r0 t1 k1 t6 r6 t7 k7 t9 k9 f0 f1 f2 f3 f4 ta1 w1 le1 s1 f6 f7
  replace f0 := shm_142 f0
  replace f1 := shm_5 f1
  replace f2 := shm_7 f2
  replace f3 := shm_22 f3
  replace f4 := shm_1820 f4
  replace f6 := shm_7 f6
  replace f7 := shm_22 f7
  have q6 : n_v vs 6 = n_v vs 0 := f1.symm
  simp only [q6] at f4
  have nf0 : fc_1 PRD (20, [0, 1], [62, 1]) ws (vs) := by
    refine ⟨nf_in hl rfl, sgq_1172 ?_⟩
    · show WQF 1 [n_v vs 0, n_v vs 1] ws
      have zq := f4
      first | rw [show n_v vs 6 = n_v vs 0 from (by first | exact f1 | exact f1.symm)] at zq | skip
      have zq := WQF_int zq (show v_iv (n_v vs 1) = v_iv (n_v vs 7) by omega)
      exact wq_re zq (by decide) trivial
  have nf1 : fc_1 PRD (20, [1], [50, 0, 0, 2, 6, 0, 2, 0, 0, 1, 0, 0, 2, 1, 0, 0, 3]) ws (vs) := ⟨nf_in hl rfl, sgq_1174 (vc_Ho_back_1_1 (v_iv (n_v vs 1)) k1)⟩
  refine ⟨(fun _ h => (by cases h)), [], trivial, ?_, (fun _ h => (by cases h))⟩
  rw [List.append_nil]
  exact List.forall_mem_cons.mpr ⟨⟨show (20 : Nat) < 100 from by decide, nf0⟩, List.forall_mem_cons.mpr ⟨⟨show (20 : Nat) < 100 from by decide, nf1⟩, (fun _ h => (by cases h))⟩⟩
def o_Ho_back_2 : or_T := (21, 11, [(0, (2, 0, 0, [12])), (6, (2, 0, 0, [12])), (7, (0, 0, 3, [])), (9, (0, 0, 0, []))], [(8, [9], [0]), (24, [0, 6], []), (20, [6, 7, 9], [62, 17])], [], [], [(20, [0], [62, 0])], [], [])
theorem oo_Ho_back_2 {kA : Nat → ClassId} : or_ok PRD kA GG o_Ho_back_2 := by
  refine or_mk fun A ta ws vs hD hth hl => ?_
  intro t0 r0 t6 r6 t7 k7 t9 k9 f0 f1 f2
  replace f0 := shm_192 f0
  replace f1 := shm_5 f1
  replace f2 := shm_1820 f2
  have q6 : n_v vs 6 = n_v vs 0 := f1.symm
  simp only [q6] at f2
  have nf0 : fc_1 PRD (20, [0], [62, 0]) ws (vs) := by
    refine ⟨nf_in hl rfl, sgq_1176 ?_⟩
    · show WQF 0 [n_v vs 0] ws
      have zw := f2
      first | rw [show n_v vs 6 = n_v vs 0 from (by first | exact f1 | exact f1.symm)] at zw | skip
      exact wq_of17 (zw) (by omega)
  refine ⟨(fun _ h => (by cases h)), [], trivial, ?_, (fun _ h => (by cases h))⟩
  rw [List.append_nil]
  exact List.forall_mem_cons.mpr ⟨⟨show (20 : Nat) < 100 from by decide, nf0⟩, (fun _ h => (by cases h))⟩
def n_Ho_back_an : List an_T := []
def t_Ho_back_ct : ct_L := [(0, 115, e_Ho_isPlace), (1, 129, e_Ho_forget), (46, 244, e_Gr_step_f)]
set_option maxRecDepth 100000 in
theorem c_Ho_back {l : Launch} {D : va_G} {kA : Nat → ClassId} (h_Gr_step : ct_ok PRD l D kA GG y_Gr_step z_Gr_step e_Gr_step) (h_Ho_forget : ct_ok PRD l D kA GG y_Ho_forget z_Ho_forget e_Ho_forget) (h_Ho_isPlace : ct_ok PRD l D kA GG y_Ho_isPlace z_Ho_isPlace e_Ho_isPlace) : ct_ok PRD l D kA GG y_Ho_back z_Ho_back e_Ho_back := chk_all_ok (FT := [(13, 12, 0)]) (PT := []) (CT := t_Ho_back_ct) (KT := []) (NT := []) (AN := n_Ho_back_an) (OT := [o_Ho_back_0, o_Ho_back_1, o_Ho_back_2]) 0 200 (List.forall_mem_cons.mpr ⟨oo_Ho_back_0, List.forall_mem_cons.mpr ⟨oo_Ho_back_1, List.forall_mem_cons.mpr ⟨oo_Ho_back_2, List.forall_mem_nil _⟩⟩⟩) (by decide +kernel) ⟨List.forall_mem_cons.mpr ⟨gf_Ho_13, List.forall_mem_nil _⟩, List.forall_mem_nil _, List.forall_mem_cons.mpr ⟨cl_static (y := y_Ho_isPlace) h_Ho_isPlace wm_633 wm_1 wm_631 wm_632 ⟨by decide, by decide, by decide +kernel⟩ (by decide), List.forall_mem_cons.mpr ⟨cl_virtual (y := y_Ho_forget) (ci := 12) rfl rfl ⟨_, _, rfl⟩ (by decide +kernel) h_Ho_forget wm_789 wm_1 wm_786 wm_788 wv_1_13 ⟨by decide, by decide, by decide +kernel⟩ (by decide), List.forall_mem_cons.mpr ⟨cl_virtual (y := y_Gr_step) (ci := 3) rfl rfl ⟨_, _, rfl⟩ (by decide +kernel) (cf_Gr_step h_Gr_step) wm_1005 wm_3 wm_1002 wm_1003 wm_1004 ⟨by decide, by decide, by decide +kernel⟩ (by decide), List.forall_mem_nil _⟩⟩⟩, List.forall_mem_nil _, List.forall_mem_nil _, GG_pl⟩ (by decide +kernel)

set_option maxHeartbeats 4000000 in
theorem vc_Mo_cut_0_0 (pt_0 : Int → Int) (ph_0 : Int → Int) (alive_0 : Int → Int) (rotMany_0 : Int → Int) (rot_0 : Int → Int) (pn_0 : Int) (pm_0 : Int) (f0 : GRI (pn_0) (pm_0) (pt_0) (ph_0) (alive_0) (rotMany_0) (rot_0)) (kz_0_31 : 0 ≤ pn_0 ∧ pn_0 ≤ 25) (kz_0_32 : 0 ≤ pm_0 ∧ pm_0 ≤ 80) : GOK (pn_0) (pm_0) (pt_0) (ph_0) := by
  exact ‹GRI _ _ _ _ _ _ _›.1.1
set_option maxHeartbeats 4000000 in
theorem vc_Mo_cut_0_1 (pt_0 : Int → Int) (ph_0 : Int → Int) (alive_0 : Int → Int) (rotMany_0 : Int → Int) (rot_0 : Int → Int) (pn_0 : Int) (pm_0 : Int) (f0 : GRI (pn_0) (pm_0) (pt_0) (ph_0) (alive_0) (rotMany_0) (rot_0)) (kz_0_31 : 0 ≤ pn_0 ∧ pn_0 ≤ 25) (kz_0_32 : 0 ≤ pm_0 ∧ pm_0 ≤ 80) : EML (pn_0) (pm_0) (pt_0) (ph_0) (alive_0) (rotMany_0) (rot_0) := by
  exact eml_rot.2 ‹GRI _ _ _ _ _ _ _›.2.2
def o_Mo_cut_0 : or_T := (1, 2, [(0, (2, 0, 0, [165]))], [(20, [0], [60, 2, 5, 261, 31, 32, 33, 34, 35, 36, 37])], [], [], [(20, [0], [60, 2, 2, 75, 31, 32, 33, 34]), (20, [0], [60, 2, 5, 187, 31, 32, 33, 34, 35, 36, 37])], [], [])
theorem oo_Mo_cut_0 {kA : Nat → ClassId} : or_ok PRD kA GG o_Mo_cut_0 := by
  refine or_mk fun A ta ws vs hD hth hl => ?_
  intro t0 r0 f0
  have kz_0_31 := fdq_145 hD hth r0
  have kz_0_32 := fdq_140 hD hth r0
  have nf0 : fc_1 PRD (20, [0], [60, 2, 2, 75, 31, 32, 33, 34]) ws (vs) := ⟨nf_in hl rfl, sgq_575 (vc_Mo_cut_0_0 (w_ei ws (w_ar ws (n_v vs 0) 33)) (w_ei ws (w_ar ws (n_v vs 0) 34)) (w_ei ws (w_ar ws (n_v vs 0) 35)) (w_ei ws (w_ar ws (n_v vs 0) 36)) (w_ei ws (w_ar ws (n_v vs 0) 37)) (w_fi ws (n_v vs 0) 31) (w_fi ws (n_v vs 0) 32) (shm_691 f0) kz_0_31 kz_0_32)⟩
  have nf1 : fc_1 PRD (20, [0], [60, 2, 5, 187, 31, 32, 33, 34, 35, 36, 37]) ws (vs) := ⟨nf_in hl rfl, sgq_1012 (vc_Mo_cut_0_1 (w_ei ws (w_ar ws (n_v vs 0) 33)) (w_ei ws (w_ar ws (n_v vs 0) 34)) (w_ei ws (w_ar ws (n_v vs 0) 35)) (w_ei ws (w_ar ws (n_v vs 0) 36)) (w_ei ws (w_ar ws (n_v vs 0) 37)) (w_fi ws (n_v vs 0) 31) (w_fi ws (n_v vs 0) 32) (shm_691 f0) kz_0_31 kz_0_32)⟩
  refine ⟨(fun _ h => (by cases h)), [], trivial, ?_, (fun _ h => (by cases h))⟩
  rw [List.append_nil]
  exact List.forall_mem_cons.mpr ⟨⟨show (20 : Nat) < 100 from by decide, nf0⟩, List.forall_mem_cons.mpr ⟨⟨show (20 : Nat) < 100 from by decide, nf1⟩, (fun _ h => (by cases h))⟩⟩
set_option maxHeartbeats 4000000 in
theorem vc_Mo_cut_1_0 (x2 : Int) (roundBegin_0 : Int → Int) (k2 : 0 ≤ x2 ∧ x2 ≤ 0) : CT1 (roundBegin_0) (x2) := by
  first
    | (intro g a b; exfalso; omega)
    | (intro g a b
       by_cases q : g = x3
       · rw [q, ← (by omega : x8 = x3 + 1)]; omega
       · exact ‹CT1 _ _› g a (by omega))
    | exact (ct2_no (f := x3) ‹GRI _ _ _ _ _ _ _› ‹CON _ _ _ _ _› (by omega) ‹GRD _ _ _ _ _ _ _ _ _ _› (by omega) (by omega) ‹CT2 _ _ _ _ _ _ _ _ _› (by omega)).elim
def o_Mo_cut_1 : or_T := (6, 3, [(2, (0, 0, 0, []))], [], [], [], [(20, [0, 2], [60, 0, 1, 271, 56]), (24, [0, 0], [])], [], [])
theorem oo_Mo_cut_1 {kA : Nat → ClassId} : or_ok PRD kA GG o_Mo_cut_1 := by
  refine or_mk fun A ta ws vs hD hth hl => ?_
  intro t2 k2
  have nf0 : fc_1 PRD (20, [0, 2], [60, 0, 1, 271, 56]) ws (vs) := ⟨nf_in hl rfl, sgq_1822 (vc_Mo_cut_1_0 (v_iv (n_v vs 2)) (w_ei ws (w_ar ws (n_v vs 0) 56)) k2)⟩
  have nf1 : fc_1 PRD (24, [0, 0], []) ws (vs) := by
    refine ⟨nf_in hl rfl, sgq_1 ?_⟩
    · show n_v vs 0 = n_v vs 0
      first | rfl | simp only [true_and]
  refine ⟨(fun _ h => (by cases h)), [], trivial, ?_, (fun _ h => (by cases h))⟩
  rw [List.append_nil]
  exact List.forall_mem_cons.mpr ⟨⟨show (20 : Nat) < 100 from by decide, nf0⟩, List.forall_mem_cons.mpr ⟨⟨show (24 : Nat) < 100 from by decide, nf1⟩, (fun _ h => (by cases h))⟩⟩
set_option maxHeartbeats 4000000 in
theorem vc_Mo_cut_2_0 (pt_0 : Int → Int) (ph_0 : Int → Int) (pn_0 : Int) (pm_0 : Int) (alive_0 : Int → Int) (rotMany_0 : Int → Int) (rot_0 : Int → Int) (f3 : GRI (pn_0) (pm_0) (pt_0) (ph_0) (alive_0) (rotMany_0) (rot_0)) (kz_0_31 : 0 ≤ pn_0 ∧ pn_0 ≤ 25) (kz_0_32 : 0 ≤ pm_0 ∧ pm_0 ≤ 80) : GRI (pn_0) (pm_0) (pt_0) (ph_0) (alive_0) (rotMany_0) (rot_0) := by
  assumption
set_option maxHeartbeats 4000000 in
theorem vc_Mo_cut_2_1 (pt_0 : Int → Int) (ph_0 : Int → Int) (pn_0 : Int) (pm_0 : Int) (alive_0 : Int → Int) (f4 : CON (pn_0) (pm_0) (pt_0) (ph_0) (alive_0)) (kz_0_31 : 0 ≤ pn_0 ∧ pn_0 ≤ 25) (kz_0_32 : 0 ≤ pm_0 ∧ pm_0 ≤ 80) : CON (pn_0) (pm_0) (pt_0) (ph_0) (alive_0) := by
  assumption
set_option maxHeartbeats 4000000 in
theorem vc_Mo_cut_2_2 (x3 : Int) (x5 : Int) (x6 : Int) (rounds_0 : Int) (pt_0 : Int → Int) (ph_0 : Int → Int) (pn_0 : Int) (pm_0 : Int) (alive_0 : Int → Int) (rotMany_0 : Int → Int) (rot_0 : Int → Int) (roundOf_0 : Int → Int) (roundBegin_0 : Int → Int) (roundDart_0 : Int → Int) (k3 : 0 ≤ x3 ∧ x3 ≤ 160) (k5 : 0 ≤ x5 ∧ x5 ≤ 160) (k6 : 0 ≤ x6 ∧ x6 ≤ 0) (d0 : x5 + 0 ≤ x3 ∧ x3 ≤ x5 + 4294967296) (g1 : x5 = rounds_0) (f3 : GRI (pn_0) (pm_0) (pt_0) (ph_0) (alive_0) (rotMany_0) (rot_0)) (f4 : CON (pn_0) (pm_0) (pt_0) (ph_0) (alive_0)) (f5 : 3 ≤ pn_0) (f7 : GRD (pm_0) (rounds_0) (pt_0) (ph_0) (alive_0) (rotMany_0) (rot_0) (roundOf_0) (roundBegin_0) (roundDart_0)) (f8 : CT1 (roundBegin_0) (x3)) (kz_0_31 : 0 ≤ pn_0 ∧ pn_0 ≤ 25) (kz_0_32 : 0 ≤ pm_0 ∧ pm_0 ≤ 80) (kz_0_53 : 0 ≤ rounds_0 ∧ rounds_0 ≤ 160) : CUA (pm_0) (pt_0) (ph_0) (alive_0) (rotMany_0) (rot_0) (x6) := by
  first
    | exact fun _ => ftr_of ‹GRI _ _ _ _ _ _ _› ‹CON _ _ _ _ _› (by omega) ‹GRD _ _ _ _ _ _ _ _ _ _› ‹CT1 _ _› (by omega)
    | (intro z; exfalso; omega)
set_option maxHeartbeats 4000000 in
theorem vc_Mo_cut_2_3 (x1 : Int) (x6 : Int) (pm_0 : Int) (k1 : 0 ≤ x1 ∧ x1 ≤ 80) (k6 : 0 ≤ x6 ∧ x6 ≤ 0) (f6 : pm_0 = x1) (kz_0_32 : 0 ≤ pm_0 ∧ pm_0 ≤ 80) : (x6 ≠ 0) → (pm_0 = (x1 + 1)) := by
  first
    | omega
    | (have h := euler_m ‹GRI _ _ _ _ _ _ _› ‹CON _ _ _ _ _› (by omega) ‹GRD _ _ _ _ _ _ _ _ _ _›
       omega)
set_option maxHeartbeats 4000000 in
theorem vc_Mo_cut_2_4 (x1 : Int) (x6 : Int) (pm_0 : Int) (k1 : 0 ≤ x1 ∧ x1 ≤ 80) (k6 : 0 ≤ x6 ∧ x6 ≤ 0) (f6 : pm_0 = x1) (kz_0_32 : 0 ≤ pm_0 ∧ pm_0 ≤ 80) : (x6 = 0) → (pm_0 = x1) := by
  first
    | omega
    | (have h := euler_m ‹GRI _ _ _ _ _ _ _› ‹CON _ _ _ _ _› (by omega) ‹GRD _ _ _ _ _ _ _ _ _ _›
       omega)
def o_Mo_cut_2 : or_T := (165, 7, [(0, (2, 0, 0, [165])), (1, (0, 0, 80, [])), (3, (0, 0, 160, [])), (5, (0, 0, 160, [])), (6, (0, 0, 0, []))], [(9, [5, 2], [53]), (20, [2], [60, 2, 5, 261, 31, 32, 33, 34, 35, 36, 37]), (20, [2], [60, 2, 3, 264, 31, 32, 33, 34, 35]), (20, [2], [50, 1, 0, 31, 0, 2, 0, 3, 2, 0, 31]), (20, [2, 1], [50, 1, 0, 32, 1, 3, 2, 0, 32, 1, 1]), (20, [2], [60, 2, 8, 193, 32, 53, 33, 34, 35, 36, 37, 54, 56, 57]), (20, [2, 3], [60, 0, 1, 271, 56]), (24, [0, 2], [])], [], [], [(20, [0], [60, 2, 5, 261, 31, 32, 33, 34, 35, 36, 37]), (20, [0], [60, 2, 3, 264, 31, 32, 33, 34, 35]), (20, [0, 6], [60, 1, 5, 273, 32, 33, 34, 35, 36, 37]), (20, [6, 0, 1], [50, 1, 0, 1032, 4, 6, 7, 2, 1, 0, 0, 0, 1, 3, 2, 1, 32, 4, 2, 1, 2, 0, 1]), (20, [6, 0, 1], [50, 1, 0, 1032, 4, 6, 1, 2, 1, 0, 0, 0, 1, 3, 2, 1, 32, 1, 2])], [], [(3, 5, 0, 4294967296)])
theorem oo_Mo_cut_2 {kA : Nat → ClassId} : or_ok PRD kA GG o_Mo_cut_2 := by
  refine or_mk fun A ta ws vs hD hth hl => ?_
  intro t0 r0 t1 k1 t3 k3 t5 k5 t6 k6 d0 f1 f3 f4 f5 f6 f7 f8 f9
  replace f1 := shm_1132 f1
  replace f3 := shm_691 f3
  replace f4 := shm_656 f4
  replace f5 := shm_1821 f5
  replace f6 := shm_657 f6
  replace f7 := shm_1134 f7
  replace f8 := shm_1822 f8
  replace f9 := shm_5 f9
  have q2 : n_v vs 2 = n_v vs 0 := f9.symm
  simp only [q2] at f1 f3 f4 f5 f6 f7 f8
  have g1 : v_iv (n_v vs 5) = w_fi ws (n_v vs 0) 53 := congrArg v_iv f1
  have kz_0_31 := fdq_145 hD hth r0
  have kz_0_32 := fdq_140 hD hth r0
  have kz_0_53 := fdq_275 hD hth r0
  have nf0 : fc_1 PRD (20, [0], [60, 2, 5, 261, 31, 32, 33, 34, 35, 36, 37]) ws (vs) := ⟨nf_in hl rfl, sgq_691 (vc_Mo_cut_2_0 (w_ei ws (w_ar ws (n_v vs 0) 33)) (w_ei ws (w_ar ws (n_v vs 0) 34)) (w_fi ws (n_v vs 0) 31) (w_fi ws (n_v vs 0) 32) (w_ei ws (w_ar ws (n_v vs 0) 35)) (w_ei ws (w_ar ws (n_v vs 0) 36)) (w_ei ws (w_ar ws (n_v vs 0) 37)) f3 kz_0_31 kz_0_32)⟩
  have nf1 : fc_1 PRD (20, [0], [60, 2, 3, 264, 31, 32, 33, 34, 35]) ws (vs) := ⟨nf_in hl rfl, sgq_656 (vc_Mo_cut_2_1 (w_ei ws (w_ar ws (n_v vs 0) 33)) (w_ei ws (w_ar ws (n_v vs 0) 34)) (w_fi ws (n_v vs 0) 31) (w_fi ws (n_v vs 0) 32) (w_ei ws (w_ar ws (n_v vs 0) 35)) f4 kz_0_31 kz_0_32)⟩
  have nf2 : fc_1 PRD (20, [0, 6], [60, 1, 5, 273, 32, 33, 34, 35, 36, 37]) ws (vs) := ⟨nf_in hl rfl, sgq_1823 (vc_Mo_cut_2_2 (v_iv (n_v vs 3)) (v_iv (n_v vs 5)) (v_iv (n_v vs 6)) (w_fi ws (n_v vs 0) 53) (w_ei ws (w_ar ws (n_v vs 0) 33)) (w_ei ws (w_ar ws (n_v vs 0) 34)) (w_fi ws (n_v vs 0) 31) (w_fi ws (n_v vs 0) 32) (w_ei ws (w_ar ws (n_v vs 0) 35)) (w_ei ws (w_ar ws (n_v vs 0) 36)) (w_ei ws (w_ar ws (n_v vs 0) 37)) (w_ei ws (w_ar ws (n_v vs 0) 54)) (w_ei ws (w_ar ws (n_v vs 0) 56)) (w_ei ws (w_ar ws (n_v vs 0) 57)) k3 k5 k6 d0 g1 f3 f4 f5 f7 f8 kz_0_31 kz_0_32 kz_0_53)⟩
  have nf3 : fc_1 PRD (20, [6, 0, 1], [50, 1, 0, 1032, 4, 6, 7, 2, 1, 0, 0, 0, 1, 3, 2, 1, 32, 4, 2, 1, 2, 0, 1]) ws (vs) := ⟨nf_in hl rfl, sgq_1824 (vc_Mo_cut_2_3 (v_iv (n_v vs 1)) (v_iv (n_v vs 6)) (w_fi ws (n_v vs 0) 32) k1 k6 f6 kz_0_32)⟩
  have nf4 : fc_1 PRD (20, [6, 0, 1], [50, 1, 0, 1032, 4, 6, 1, 2, 1, 0, 0, 0, 1, 3, 2, 1, 32, 1, 2]) ws (vs) := ⟨nf_in hl rfl, sgq_1825 (vc_Mo_cut_2_4 (v_iv (n_v vs 1)) (v_iv (n_v vs 6)) (w_fi ws (n_v vs 0) 32) k1 k6 f6 kz_0_32)⟩
  refine ⟨(fun _ h => (by cases h)), [], trivial, ?_, (fun _ h => (by cases h))⟩
  rw [List.append_nil]
  exact List.forall_mem_cons.mpr ⟨⟨show (20 : Nat) < 100 from by decide, nf0⟩, List.forall_mem_cons.mpr ⟨⟨show (20 : Nat) < 100 from by decide, nf1⟩, List.forall_mem_cons.mpr ⟨⟨show (20 : Nat) < 100 from by decide, nf2⟩, List.forall_mem_cons.mpr ⟨⟨show (20 : Nat) < 100 from by decide, nf3⟩, List.forall_mem_cons.mpr ⟨⟨show (20 : Nat) < 100 from by decide, nf4⟩, (fun _ h => (by cases h))⟩⟩⟩⟩⟩
set_option maxHeartbeats 4000000 in
theorem vc_Mo_cut_3_0 (x3 : Int) (x5 : Int) (x8 : Int) (x9 : Int) (x10 : Int) (x11 : Int) (x13 : Int) (roundBegin_0 : Int → Int) (pt_0 : Int → Int) (ph_0 : Int → Int) (pm_0 : Int) (alive_0 : Int → Int) (roundDart_0 : Int → Int) (k3 : 0 ≤ x3 ∧ x3 ≤ 159) (k8 : 1 ≤ x8 ∧ x8 ≤ 160) (k9 : 4 ≤ x9 ∧ x9 ≤ 160) (k10 : 0 ≤ x10 ∧ x10 ≤ 160) (k11 : 4 ≤ x11 ∧ x11 ≤ 160) (k13 : 0 ≤ x13 ∧ x13 ≤ 0) (d1 : x3 + 1 ≤ x8 ∧ x8 ≤ x3 + 1) (f1 : x11 = x9 - x10) (h2 : x10 = roundBegin_0 (x3)) (h4 : x9 = roundBegin_0 (x8)) (kz_0_32 : 0 ≤ pm_0 ∧ pm_0 ≤ 80) : CT2 (pm_0) (pt_0) (ph_0) (alive_0) (roundBegin_0) (roundDart_0) (x3) (x11) (x13) := by
  first
    | exact ⟨⟨by rw [← (by omega : x8 = x3 + 1)]; omega, by omega⟩, fun t a b => by exfalso; omega⟩
    | (have e1 : x15 = nr x4 x5 := by
         rw [‹x15 = Int.tmod x14 x4›, Int.tmod_eq_emod_of_nonneg (by omega), show x14 = x5 + 1 by omega]; exact nr_m1 (by omega) (by omega)
       exact ct2_next (d := x11) (x := x17) (r := 0) ‹CT2 _ _ _ _ _ _ _ _ _› (by omega) (by rw [← (by omega : x10 = roundBegin_0 x3 + x5)]; assumption) (by rw [← e1, ← (by omega : x16 = roundBegin_0 x3 + x15)]; assumption) ‹DFR _ _ _ _› ‹DTO _ _ _ _› (Or.inl (by omega)))
    | (have e1 : x15 = nr x4 x5 := by
         rw [‹x15 = Int.tmod x14 x4›, Int.tmod_eq_emod_of_nonneg (by omega), show x14 = x5 + 1 by omega]; exact nr_m1 (by omega) (by omega)
       exact ct2_next (d := x11) (x := x17) ‹CT2 _ _ _ _ _ _ _ _ _› (by omega) (by rw [← (by omega : x10 = roundBegin_0 x3 + x5)]; assumption) (by rw [← e1, ← (by omega : x16 = roundBegin_0 x3 + x15)]; assumption) ‹DFR _ _ _ _› ‹DTO _ _ _ _› (Or.inr ⟨‹EOF _ _ _ _ _ _ _›, by omega⟩))
set_option maxHeartbeats 4000000 in
theorem vc_Mo_cut_3_1 (x3 : Int) (x5 : Int) (x8 : Int) (rounds_0 : Int) (k3 : 0 ≤ x3 ∧ x3 ≤ 159) (k5 : 1 ≤ x5 ∧ x5 ≤ 160) (k8 : 1 ≤ x8 ∧ x8 ≤ 160) (d1 : x3 + 1 ≤ x8 ∧ x8 ≤ x3 + 1) (d2 : x5 + (-4294967296) ≤ x8 ∧ x8 ≤ x5 + 0) (d3 : x5 + (-4294967296) ≤ x3 ∧ x3 ≤ x5 + (-1)) (g7 : x5 = rounds_0) (kz_0_53 : 0 ≤ rounds_0 ∧ rounds_0 ≤ 160) : 1 * x3 + ((-1) * rounds_0 + 0) ≤ (-1) := by
  first
    | omega
    | (have h := euler_m ‹GRI _ _ _ _ _ _ _› ‹CON _ _ _ _ _› (by omega) ‹GRD _ _ _ _ _ _ _ _ _ _›
       omega)
def o_Mo_cut_3 : or_T := (40, 14, [(0, (2, 0, 0, [165])), (3, (0, 0, 159, [])), (5, (0, 1, 160, [])), (8, (0, 1, 160, [])), (9, (0, 4, 160, [])), (10, (0, 0, 160, [])), (11, (0, 4, 160, [])), (13, (0, 0, 0, []))], [(2, [11, 9, 10], []), (10, [10, 6, 3], []), (9, [6, 2], [56]), (10, [9, 6, 8], []), (9, [5, 2], [53]), (24, [0, 2], [])], [], [], [(20, [2, 3, 11, 13], [60, 1, 5, 272, 32, 33, 34, 35, 56, 57]), (20, [3, 2], [30, -1, 1, 0, 0, -1, 1, 53])], [], [(8, 3, 1, 1), (8, 5, -4294967296, 0), (3, 5, -4294967296, -1)])
theorem oo_Mo_cut_3 {kA : Nat → ClassId} : or_ok PRD kA GG o_Mo_cut_3 := by
  refine or_mk fun A ta ws vs hD hth hl => ?_
  intro t0 r0 t3 k3 t5 k5 t8 k8 t9 k9 t10 k10 t11 k11 t13 k13 d1 d2 d3 f1 f2 f3 f4 f7 f15
  replace f1 := shm_14 f1
  replace f2 := shm_107 f2
  replace f3 := shm_1133 f3
  replace f4 := shm_107 f4
  replace f7 := shm_1132 f7
  replace f15 := shm_5 f15
  have q2 : n_v vs 2 = n_v vs 0 := f15.symm
  simp only [q2] at f3 f7
  have ad_6 : v_ad (n_v vs 6) = w_ar ws (n_v vs 0) 56 := congrArg v_ad f3
  simp only [ad_6] at f2
  have h2 : v_iv (n_v vs 10) = w_ei ws (w_ar ws (n_v vs 0) 56) (v_iv (n_v vs 3)) := f2
  simp only [ad_6] at f4
  have h4 : v_iv (n_v vs 9) = w_ei ws (w_ar ws (n_v vs 0) 56) (v_iv (n_v vs 8)) := f4
  have g7 : v_iv (n_v vs 5) = w_fi ws (n_v vs 0) 53 := congrArg v_iv f7
  have kz_0_32 := fdq_140 hD hth r0
  have kz_0_53 := fdq_275 hD hth r0
  have nf0 : fc_1 PRD (20, [2, 3, 11, 13], [60, 1, 5, 272, 32, 33, 34, 35, 56, 57]) ws (vs) := by
    refine ⟨nf_in hl rfl, sgq_1826 ?_⟩
    · show CT2 (w_fi ws (n_v vs 2) 32) (w_ei ws (w_ar ws (n_v vs 2) 33)) (w_ei ws (w_ar ws (n_v vs 2) 34)) (w_ei ws (w_ar ws (n_v vs 2) 35)) (w_ei ws (w_ar ws (n_v vs 2) 56)) (w_ei ws (w_ar ws (n_v vs 2) 57)) (v_iv (n_v vs 3)) (v_iv (n_v vs 11)) (v_iv (n_v vs 13))
      rw [q2]
      exact vc_Mo_cut_3_0 (v_iv (n_v vs 3)) (v_iv (n_v vs 5)) (v_iv (n_v vs 8)) (v_iv (n_v vs 9)) (v_iv (n_v vs 10)) (v_iv (n_v vs 11)) (v_iv (n_v vs 13)) (w_ei ws (w_ar ws (n_v vs 0) 56)) (w_ei ws (w_ar ws (n_v vs 0) 33)) (w_ei ws (w_ar ws (n_v vs 0) 34)) (w_fi ws (n_v vs 0) 32) (w_ei ws (w_ar ws (n_v vs 0) 35)) (w_ei ws (w_ar ws (n_v vs 0) 57)) k3 k8 k9 k10 k11 k13 d1 f1 h2 h4 kz_0_32
  have nf1 : fc_1 PRD (20, [3, 2], [30, -1, 1, 0, 0, -1, 1, 53]) ws (vs) := by
    refine ⟨nf_in hl rfl, sgq_1827 ?_⟩
    · show 1 * v_iv (n_v vs 3) + ((-1) * w_fi ws (n_v vs 2) 53 + 0) ≤ (-1)
      rw [q2]
      exact vc_Mo_cut_3_1 (v_iv (n_v vs 3)) (v_iv (n_v vs 5)) (v_iv (n_v vs 8)) (w_fi ws (n_v vs 0) 53) k3 k5 k8 d1 d2 d3 g7 kz_0_53
  refine ⟨(fun _ h => (by cases h)), [], trivial, ?_, (fun _ h => (by cases h))⟩
  rw [List.append_nil]
  exact List.forall_mem_cons.mpr ⟨⟨show (20 : Nat) < 100 from by decide, nf0⟩, List.forall_mem_cons.mpr ⟨⟨show (20 : Nat) < 100 from by decide, nf1⟩, (fun _ h => (by cases h))⟩⟩
set_option maxHeartbeats 4000000 in
theorem vc_Mo_cut_4_0 (x3 : Int) (x8 : Int) (x9 : Int) (x10 : Int) (x11 : Int) (x13 : Int) (roundBegin_0 : Int → Int) (k3 : 0 ≤ x3 ∧ x3 ≤ 159) (k8 : 1 ≤ x8 ∧ x8 ≤ 160) (k9 : 0 ≤ x9 ∧ x9 ≤ 160) (k10 : 0 ≤ x10 ∧ x10 ≤ 160) (k11 : (-160) ≤ x11 ∧ x11 ≤ 3) (k13 : 1 ≤ x13 ∧ x13 ≤ 160) (d0 : x3 + 1 ≤ x13 ∧ x13 ≤ x3 + 1) (d3 : x3 + 1 ≤ x8 ∧ x8 ≤ x3 + 1) (f2 : x11 = x9 - x10) (h3 : x10 = roundBegin_0 (x3)) (h5 : x9 = roundBegin_0 (x8)) (f15 : CT1 (roundBegin_0) (x3)) : CT1 (roundBegin_0) (x13) := by
  first
    | (intro g a b; exfalso; omega)
    | (intro g a b
       by_cases q : g = x3
       · rw [q, ← (by omega : x8 = x3 + 1)]; omega
       · exact ‹CT1 _ _› g a (by omega))
    | exact (ct2_no (f := x3) ‹GRI _ _ _ _ _ _ _› ‹CON _ _ _ _ _› (by omega) ‹GRD _ _ _ _ _ _ _ _ _ _› (by omega) (by omega) ‹CT2 _ _ _ _ _ _ _ _ _› (by omega)).elim
def o_Mo_cut_4 : or_T := (6, 14, [(3, (0, 0, 159, [])), (8, (0, 1, 160, [])), (9, (0, 0, 160, [])), (10, (0, 0, 160, [])), (11, (0, -160, 3, [])), (13, (0, 1, 160, []))], [(2, [11, 9, 10], []), (10, [10, 6, 3], []), (9, [6, 2], [56]), (10, [9, 6, 8], []), (20, [2, 3], [60, 0, 1, 271, 56]), (24, [0, 2], [])], [], [], [(20, [2, 13], [60, 0, 1, 271, 56])], [], [(13, 3, 1, 1), (8, 3, 1, 1)])
theorem oo_Mo_cut_4 {kA : Nat → ClassId} : or_ok PRD kA GG o_Mo_cut_4 := by
  refine or_mk fun A ta ws vs hD hth hl => ?_
  intro t3 k3 t8 k8 t9 k9 t10 k10 t11 k11 t13 k13 d0 d3 f2 f3 f4 f5 f15 f16
  replace f2 := shm_14 f2
  replace f3 := shm_107 f3
  replace f4 := shm_1133 f4
  replace f5 := shm_107 f5
  replace f15 := shm_1822 f15
  replace f16 := shm_5 f16
  have q2 : n_v vs 2 = n_v vs 0 := f16.symm
  simp only [q2] at f4 f15
  have ad_6 : v_ad (n_v vs 6) = w_ar ws (n_v vs 0) 56 := congrArg v_ad f4
  simp only [ad_6] at f3
  have h3 : v_iv (n_v vs 10) = w_ei ws (w_ar ws (n_v vs 0) 56) (v_iv (n_v vs 3)) := f3
  simp only [ad_6] at f5
  have h5 : v_iv (n_v vs 9) = w_ei ws (w_ar ws (n_v vs 0) 56) (v_iv (n_v vs 8)) := f5
  have nf0 : fc_1 PRD (20, [2, 13], [60, 0, 1, 271, 56]) ws (vs) := by
    refine ⟨nf_in hl rfl, sgq_1822 ?_⟩
    · show CT1 (w_ei ws (w_ar ws (n_v vs 2) 56)) (v_iv (n_v vs 13))
      rw [q2]
      exact vc_Mo_cut_4_0 (v_iv (n_v vs 3)) (v_iv (n_v vs 8)) (v_iv (n_v vs 9)) (v_iv (n_v vs 10)) (v_iv (n_v vs 11)) (v_iv (n_v vs 13)) (w_ei ws (w_ar ws (n_v vs 0) 56)) k3 k8 k9 k10 k11 k13 d0 d3 f2 h3 h5 f15
  refine ⟨(fun _ h => (by cases h)), [], trivial, ?_, (fun _ h => (by cases h))⟩
  rw [List.append_nil]
  exact List.forall_mem_cons.mpr ⟨⟨show (20 : Nat) < 100 from by decide, nf0⟩, (fun _ h => (by cases h))⟩
set_option maxHeartbeats 4000000 in
theorem vc_Mo_cut_5_0 (x3 : Int) (x4 : Int) (x5 : Int) (x7 : Int) (pt_0 : Int → Int) (ph_0 : Int → Int) (pn_0 : Int) (pm_0 : Int) (alive_0 : Int → Int) (rotMany_0 : Int → Int) (rot_0 : Int → Int) (roundOf_0 : Int → Int) (roundBegin_0 : Int → Int) (roundDart_0 : Int → Int) (rounds_0 : Int) (k3 : 0 ≤ x3 ∧ x3 ≤ 159) (k4 : 4 ≤ x4 ∧ x4 ≤ 160) (k5 : 4 ≤ x5 ∧ x5 ≤ 160) (k7 : 1 ≤ x7 ∧ x7 ≤ 160) (d0 : x3 + 1 ≤ x7 ∧ x7 ≤ x3 + 1) (f1 : x4 ≤ x5) (f3 : GRI (pn_0) (pm_0) (pt_0) (ph_0) (alive_0) (rotMany_0) (rot_0)) (f4 : CON (pn_0) (pm_0) (pt_0) (ph_0) (alive_0)) (f5 : 3 ≤ pn_0) (f7 : GRD (pm_0) (rounds_0) (pt_0) (ph_0) (alive_0) (rotMany_0) (rot_0) (roundOf_0) (roundBegin_0) (roundDart_0)) (f9 : CT2 (pm_0) (pt_0) (ph_0) (alive_0) (roundBegin_0) (roundDart_0) (x3) (x4) (x5)) (f10 : 1 * x3 + ((-1) * rounds_0 + 0) ≤ (-1)) (kz_0_31 : 0 ≤ pn_0 ∧ pn_0 ≤ 25) (kz_0_32 : 0 ≤ pm_0 ∧ pm_0 ≤ 80) (kz_0_53 : 0 ≤ rounds_0 ∧ rounds_0 ≤ 160) : CT1 (roundBegin_0) (x7) := by
  first
    | (intro g a b; exfalso; omega)
    | (intro g a b
       by_cases q : g = x3
       · rw [q, ← (by omega : x8 = x3 + 1)]; omega
       · exact ‹CT1 _ _› g a (by omega))
    | exact (ct2_no (f := x3) ‹GRI _ _ _ _ _ _ _› ‹CON _ _ _ _ _› (by omega) ‹GRD _ _ _ _ _ _ _ _ _ _› (by omega) (by omega) ‹CT2 _ _ _ _ _ _ _ _ _› (by omega)).elim
def o_Mo_cut_5 : or_T := (6, 8, [(0, (2, 0, 0, [165])), (3, (0, 0, 159, [])), (4, (0, 4, 160, [])), (5, (0, 4, 160, [])), (7, (0, 1, 160, []))], [(7, [5, 4], [3]), (20, [2], [60, 2, 5, 261, 31, 32, 33, 34, 35, 36, 37]), (20, [2], [60, 2, 3, 264, 31, 32, 33, 34, 35]), (20, [2], [50, 1, 0, 31, 0, 2, 0, 3, 2, 0, 31]), (20, [2], [60, 2, 8, 193, 32, 53, 33, 34, 35, 36, 37, 54, 56, 57]), (20, [2, 3, 4, 5], [60, 1, 5, 272, 32, 33, 34, 35, 56, 57]), (20, [3, 2], [30, -1, 1, 0, 0, -1, 1, 53]), (24, [0, 2], [])], [], [], [(20, [2, 7], [60, 0, 1, 271, 56])], [], [(7, 3, 1, 1)])
theorem oo_Mo_cut_5 {kA : Nat → ClassId} : or_ok PRD kA GG o_Mo_cut_5 := by
  refine or_mk fun A ta ws vs hD hth hl => ?_
  intro t0 r0 t3 k3 t4 k4 t5 k5 t7 k7 d0 f1 f3 f4 f5 f7 f9 f10 f11
  replace f1 := shm_2 f1
  replace f3 := shm_691 f3
  replace f4 := shm_656 f4
  replace f5 := shm_1821 f5
  replace f7 := shm_1134 f7
  replace f9 := shm_1826 f9
  replace f10 := shm_1827 f10
  replace f11 := shm_5 f11
  have q2 : n_v vs 2 = n_v vs 0 := f11.symm
  simp only [q2] at f3 f4 f5 f7 f9 f10
  have kz_0_31 := fdq_145 hD hth r0
  have kz_0_32 := fdq_140 hD hth r0
  have kz_0_53 := fdq_275 hD hth r0
  have nf0 : fc_1 PRD (20, [2, 7], [60, 0, 1, 271, 56]) ws (vs) := by
    refine ⟨nf_in hl rfl, sgq_1822 ?_⟩
    · show CT1 (w_ei ws (w_ar ws (n_v vs 2) 56)) (v_iv (n_v vs 7))
      rw [q2]
      exact vc_Mo_cut_5_0 (v_iv (n_v vs 3)) (v_iv (n_v vs 4)) (v_iv (n_v vs 5)) (v_iv (n_v vs 7)) (w_ei ws (w_ar ws (n_v vs 0) 33)) (w_ei ws (w_ar ws (n_v vs 0) 34)) (w_fi ws (n_v vs 0) 31) (w_fi ws (n_v vs 0) 32) (w_ei ws (w_ar ws (n_v vs 0) 35)) (w_ei ws (w_ar ws (n_v vs 0) 36)) (w_ei ws (w_ar ws (n_v vs 0) 37)) (w_ei ws (w_ar ws (n_v vs 0) 54)) (w_ei ws (w_ar ws (n_v vs 0) 56)) (w_ei ws (w_ar ws (n_v vs 0) 57)) (w_fi ws (n_v vs 0) 53) k3 k4 k5 k7 d0 f1 f3 f4 f5 f7 f9 f10 kz_0_31 kz_0_32 kz_0_53
  refine ⟨(fun _ h => (by cases h)), [], trivial, ?_, (fun _ h => (by cases h))⟩
  rw [List.append_nil]
  exact List.forall_mem_cons.mpr ⟨⟨show (20 : Nat) < 100 from by decide, nf0⟩, (fun _ h => (by cases h))⟩
set_option maxHeartbeats 4000000 in
theorem vc_Mo_cut_6_r0 (x1 : Int) (x3 : Int) (x4 : Int) (x5 : Int) (x9 : Int) (x10 : Int) (roundBegin_0 : Int → Int) (pt_0 : Int → Int) (ph_0 : Int → Int) (pn_0 : Int) (pm_0 : Int) (alive_0 : Int → Int) (rotMany_0 : Int → Int) (rot_0 : Int → Int) (roundOf_0 : Int → Int) (roundDart_0 : Int → Int) (rounds_0 : Int) (k1 : 0 ≤ x1 ∧ x1 ≤ 80) (k3 : 0 ≤ x3 ∧ x3 ≤ 159) (k4 : 4 ≤ x4 ∧ x4 ≤ 160) (k5 : 0 ≤ x5 ∧ x5 ≤ 159) (k9 : 0 ≤ x9 ∧ x9 ≤ 160) (k10 : 0 ≤ x10 ∧ x10 ≤ 319) (d3 : x4 + (-4294967296) ≤ x5 ∧ x5 ≤ x4 + (-1)) (f0 : x10 = x9 + x5) (h1 : x9 = roundBegin_0 (x3)) (f6 : GRI (pn_0) (pm_0) (pt_0) (ph_0) (alive_0) (rotMany_0) (rot_0)) (f7 : CON (pn_0) (pm_0) (pt_0) (ph_0) (alive_0)) (f8 : 3 ≤ pn_0) (f9 : pm_0 = x1) (f10 : GRD (pm_0) (rounds_0) (pt_0) (ph_0) (alive_0) (rotMany_0) (rot_0) (roundOf_0) (roundBegin_0) (roundDart_0)) (f12 : CT2 (pm_0) (pt_0) (ph_0) (alive_0) (roundBegin_0) (roundDart_0) (x3) (x4) (x5)) (f13 : 1 * x3 + ((-1) * rounds_0 + 0) ≤ (-1)) (kz_0_31 : 0 ≤ pn_0 ∧ pn_0 ≤ 25) (kz_0_32 : 0 ≤ pm_0 ∧ pm_0 ≤ 80) (kz_0_53 : 0 ≤ rounds_0 ∧ rounds_0 ≤ 160) : 0 ≤ x10 ∧ x10 ≤ 159 := by
  have h := rnd_3 (r := x3) ‹GRI _ _ _ _ _ _ _› ‹CON _ _ _ _ _› (by omega) ‹GRD _ _ _ _ _ _ _ _ _ _› (by omega) (by omega)
  have h1 := dst_le (m := pm_0) (by omega) ‹GRD _ _ _ _ _ _ _ _ _ _›.2.1
  have h2 := ‹CT2 _ _ _ _ _ _ _ _ _›.1.1
  omega
def o_Mo_cut_6 : or_T := (57, 11, [(0, (2, 0, 0, [165])), (1, (0, 0, 80, [])), (2, (2, 0, 0, [165])), (3, (0, 0, 159, [])), (4, (0, 4, 160, [])), (5, (0, 0, 159, [])), (7, (2, 0, 0, [199])), (8, (2, 0, 0, [198])), (9, (0, 0, 160, [])), (10, (0, 0, 319, []))], [(1, [10, 9, 5], []), (10, [9, 8, 3], []), (9, [8, 2], [56]), (9, [7, 2], [57]), (7, [5, 4], [2]), (20, [2], [60, 2, 2, 75, 31, 32, 33, 34]), (20, [2], [60, 2, 5, 261, 31, 32, 33, 34, 35, 36, 37]), (20, [2], [60, 2, 3, 264, 31, 32, 33, 34, 35]), (20, [2], [50, 1, 0, 31, 0, 2, 0, 3, 2, 0, 31]), (20, [2, 1], [50, 1, 0, 32, 1, 3, 2, 0, 32, 1, 1]), (20, [2], [60, 2, 8, 193, 32, 53, 33, 34, 35, 36, 37, 54, 56, 57]), (20, [2, 3], [60, 0, 1, 271, 56]), (20, [2, 3, 4, 5], [60, 1, 5, 272, 32, 33, 34, 35, 56, 57]), (20, [3, 2], [30, -1, 1, 0, 0, -1, 1, 53]), (24, [0, 2], [])], [(10, (0, 0, 159, []))], [], [], [], [(10, 5, 0, 160), (10, 4, -4294967296, 159), (10, 9, 0, 159), (5, 4, -4294967296, -1)])
theorem oo_Mo_cut_6 {kA : Nat → ClassId} : or_ok PRD kA GG o_Mo_cut_6 := by
  refine or_mk fun A ta ws vs hD hth hl => ?_
  intro t0 r0 t1 k1 t2 r2 t3 k3 t4 k4 t5 k5 t7 r7 t8 r8 t9 k9 t10 k10 d0 d1 d2 d3 f0 f1 f2 f3 f4 f5 f6 f7 f8 f9 f10 f11 f12 f13 f14
  replace f1 := shm_107 f1
  replace f2 := shm_1133 f2
  replace f6 := shm_691 f6
  replace f7 := shm_656 f7
  replace f8 := shm_1821 f8
  replace f9 := shm_657 f9
  replace f10 := shm_1134 f10
  replace f12 := shm_1826 f12
  replace f13 := shm_1827 f13
  replace f14 := shm_5 f14
  have q2 : n_v vs 2 = n_v vs 0 := f14.symm
  simp only [q2] at f2 f6 f7 f8 f9 f10 f12 f13
  have ad_8 : v_ad (n_v vs 8) = w_ar ws (n_v vs 0) 56 := congrArg v_ad f2
  simp only [ad_8] at f1
  have h1 : v_iv (n_v vs 9) = w_ei ws (w_ar ws (n_v vs 0) 56) (v_iv (n_v vs 3)) := f1
  have kz_0_31 := fdq_145 hD hth r0
  have kz_0_32 := fdq_140 hD hth r0
  have kz_0_53 := fdq_275 hD hth r0
  have hrf0 : 0 ≤ v_iv (n_v vs 10) ∧ v_iv (n_v vs 10) ≤ 159 := vc_Mo_cut_6_r0 (v_iv (n_v vs 1)) (v_iv (n_v vs 3)) (v_iv (n_v vs 4)) (v_iv (n_v vs 5)) (v_iv (n_v vs 9)) (v_iv (n_v vs 10)) (w_ei ws (w_ar ws (n_v vs 0) 56)) (w_ei ws (w_ar ws (n_v vs 0) 33)) (w_ei ws (w_ar ws (n_v vs 0) 34)) (w_fi ws (n_v vs 0) 31) (w_fi ws (n_v vs 0) 32) (w_ei ws (w_ar ws (n_v vs 0) 35)) (w_ei ws (w_ar ws (n_v vs 0) 36)) (w_ei ws (w_ar ws (n_v vs 0) 37)) (w_ei ws (w_ar ws (n_v vs 0) 54)) (w_ei ws (w_ar ws (n_v vs 0) 57)) (w_fi ws (n_v vs 0) 53) k1 k3 k4 k5 k9 k10 d3 (shm_12 f0) h1 f6 f7 f8 f9 f10 f12 f13 kz_0_31 kz_0_32 kz_0_53
  have rf10 : tv_ok ta (0, 0, 159, []) (n_v vs 10) := tv_in t10 (by first | omega | grind) (by first | omega | grind)
  refine ⟨List.forall_mem_cons.mpr ⟨rf10, (fun _ h => (by cases h))⟩, [], trivial, ?_, (fun _ h => (by cases h))⟩
  rw [List.append_nil]
  exact (fun _ h => (by cases h))
set_option maxHeartbeats 4000000 in
theorem vc_Mo_cut_7_r0 (x1 : Int) (x3 : Int) (x4 : Int) (x5 : Int) (x9 : Int) (x10 : Int) (x12 : Int) (x14 : Int) (x15 : Int) (x16 : Int) (roundBegin_0 : Int → Int) (roundDart_0 : Int → Int) (pt_0 : Int → Int) (ph_0 : Int → Int) (pn_0 : Int) (pm_0 : Int) (alive_0 : Int → Int) (rotMany_0 : Int → Int) (rot_0 : Int → Int) (roundOf_0 : Int → Int) (rounds_0 : Int) (k1 : 0 ≤ x1 ∧ x1 ≤ 80) (k3 : 0 ≤ x3 ∧ x3 ≤ 159) (k4 : 4 ≤ x4 ∧ x4 ≤ 160) (k5 : 0 ≤ x5 ∧ x5 ≤ 159) (k9 : 0 ≤ x9 ∧ x9 ≤ 160) (k10 : 0 ≤ x10 ∧ x10 ≤ 159) (k12 : 0 ≤ x12 ∧ x12 ≤ 160) (k14 : 1 ≤ x14 ∧ x14 ≤ 160) (k15 : 0 ≤ x15 ∧ x15 ≤ 159) (k16 : 0 ≤ x16 ∧ x16 ≤ 319) (d3 : x4 + (-4294967295) ≤ x15 ∧ x15 ≤ x4 + (-1)) (d4 : x5 + 1 ≤ x14 ∧ x14 ≤ x5 + 1) (d7 : x9 + 0 ≤ x10 ∧ x10 ≤ x9 + 159) (f0 : x16 = x12 + x15) (f1 : x15 = Int.tmod (x14) (x4)) (h3 : x12 = roundBegin_0 (x3)) (f7 : x10 = x9 + x5) (f9 : x5 < x4) (f11 : GRI (pn_0) (pm_0) (pt_0) (ph_0) (alive_0) (rotMany_0) (rot_0)) (f12 : CON (pn_0) (pm_0) (pt_0) (ph_0) (alive_0)) (f13 : 3 ≤ pn_0) (f14 : pm_0 = x1) (f15 : GRD (pm_0) (rounds_0) (pt_0) (ph_0) (alive_0) (rotMany_0) (rot_0) (roundOf_0) (roundBegin_0) (roundDart_0)) (f17 : CT2 (pm_0) (pt_0) (ph_0) (alive_0) (roundBegin_0) (roundDart_0) (x3) (x4) (x5)) (f18 : 1 * x3 + ((-1) * rounds_0 + 0) ≤ (-1)) (kz_0_31 : 0 ≤ pn_0 ∧ pn_0 ≤ 25) (kz_0_32 : 0 ≤ pm_0 ∧ pm_0 ≤ 80) (kz_0_53 : 0 ≤ rounds_0 ∧ rounds_0 ≤ 160) : 0 ≤ x16 ∧ x16 ≤ 159 := by
  have h := rnd_3 (r := x3) ‹GRI _ _ _ _ _ _ _› ‹CON _ _ _ _ _› (by omega) ‹GRD _ _ _ _ _ _ _ _ _ _› (by omega) (by omega)
  have h1 := dst_le (m := pm_0) (by omega) ‹GRD _ _ _ _ _ _ _ _ _ _›.2.1
  have h2 := ‹CT2 _ _ _ _ _ _ _ _ _›.1.1
  have e1 : x15 = nr x4 x5 := by
    rw [‹x15 = Int.tmod x14 x4›, Int.tmod_eq_emod_of_nonneg (by omega), show x14 = x5 + 1 by omega]; exact nr_m1 (by omega) (by omega)
  have e2 := nr_rng (L := x4) (k := x5) (by omega) (by omega)
  omega
def o_Mo_cut_7 : or_T := (76, 17, [(0, (2, 0, 0, [165])), (1, (0, 0, 80, [])), (2, (2, 0, 0, [165])), (3, (0, 0, 159, [])), (4, (0, 4, 160, [])), (5, (0, 0, 159, [])), (7, (2, 0, 0, [199])), (8, (2, 0, 0, [198])), (9, (0, 0, 160, [])), (10, (0, 0, 159, [])), (11, (0, 0, 159, [])), (12, (0, 0, 160, [])), (13, (0, 1, 1, [])), (14, (0, 1, 160, [])), (15, (0, 0, 159, [])), (16, (0, 0, 319, []))], [(1, [16, 12, 15], []), (5, [15, 14, 4], []), (1, [14, 5, 13], []), (10, [12, 8, 3], []), (9, [8, 2], [56]), (9, [7, 2], [57]), (10, [11, 7, 10], []), (1, [10, 9, 5], []), (10, [9, 8, 3], []), (7, [5, 4], [2]), (20, [2], [60, 2, 2, 75, 31, 32, 33, 34]), (20, [2], [60, 2, 5, 261, 31, 32, 33, 34, 35, 36, 37]), (20, [2], [60, 2, 3, 264, 31, 32, 33, 34, 35]), (20, [2], [50, 1, 0, 31, 0, 2, 0, 3, 2, 0, 31]), (20, [2, 1], [50, 1, 0, 32, 1, 3, 2, 0, 32, 1, 1]), (20, [2], [60, 2, 8, 193, 32, 53, 33, 34, 35, 36, 37, 54, 56, 57]), (20, [2, 3], [60, 0, 1, 271, 56]), (20, [2, 3, 4, 5], [60, 1, 5, 272, 32, 33, 34, 35, 56, 57]), (20, [3, 2], [30, -1, 1, 0, 0, -1, 1, 53]), (24, [0, 2], [])], [(16, (0, 0, 159, []))], [], [], [], [(16, 15, 0, 160), (16, 4, -4294967295, 159), (16, 12, 0, 159), (15, 4, -4294967295, -1), (14, 5, 1, 1), (14, 4, -4294967296, 0), (10, 5, 0, 160), (10, 9, 0, 159), (5, 4, -4294967296, -1)])
theorem oo_Mo_cut_7 {kA : Nat → ClassId} : or_ok PRD kA GG o_Mo_cut_7 := by
  refine or_mk fun A ta ws vs hD hth hl => ?_
  intro t0 r0 t1 k1 t2 r2 t3 k3 t4 k4 t5 k5 t7 r7 t8 r8 t9 k9 t10 k10 t11 k11 t12 k12 t13 k13 t14 k14 t15 k15 t16 k16 d0 d1 d2 d3 d4 d5 d6 d7 d8 f0 f1 f2 f3 f4 f5 f6 f7 f8 f9 f10 f11 f12 f13 f14 f15 f16 f17 f18 f19
  replace f3 := shm_107 f3
  replace f4 := shm_1133 f4
  replace f11 := shm_691 f11
  replace f12 := shm_656 f12
  replace f13 := shm_1821 f13
  replace f14 := shm_657 f14
  replace f15 := shm_1134 f15
  replace f17 := shm_1826 f17
  replace f18 := shm_1827 f18
  replace f19 := shm_5 f19
  have q2 : n_v vs 2 = n_v vs 0 := f19.symm
  simp only [q2] at f4 f11 f12 f13 f14 f15 f17 f18
  have ad_8 : v_ad (n_v vs 8) = w_ar ws (n_v vs 0) 56 := congrArg v_ad f4
  simp only [ad_8] at f3
  have h3 : v_iv (n_v vs 12) = w_ei ws (w_ar ws (n_v vs 0) 56) (v_iv (n_v vs 3)) := f3
  have kz_0_31 := fdq_145 hD hth r0
  have kz_0_32 := fdq_140 hD hth r0
  have kz_0_53 := fdq_275 hD hth r0
  have hrf0 : 0 ≤ v_iv (n_v vs 16) ∧ v_iv (n_v vs 16) ≤ 159 := vc_Mo_cut_7_r0 (v_iv (n_v vs 1)) (v_iv (n_v vs 3)) (v_iv (n_v vs 4)) (v_iv (n_v vs 5)) (v_iv (n_v vs 9)) (v_iv (n_v vs 10)) (v_iv (n_v vs 12)) (v_iv (n_v vs 14)) (v_iv (n_v vs 15)) (v_iv (n_v vs 16)) (w_ei ws (w_ar ws (n_v vs 0) 56)) (w_ei ws (w_ar ws (n_v vs 0) 57)) (w_ei ws (w_ar ws (n_v vs 0) 33)) (w_ei ws (w_ar ws (n_v vs 0) 34)) (w_fi ws (n_v vs 0) 31) (w_fi ws (n_v vs 0) 32) (w_ei ws (w_ar ws (n_v vs 0) 35)) (w_ei ws (w_ar ws (n_v vs 0) 36)) (w_ei ws (w_ar ws (n_v vs 0) 37)) (w_ei ws (w_ar ws (n_v vs 0) 54)) (w_fi ws (n_v vs 0) 53) k1 k3 k4 k5 k9 k10 k12 k14 k15 k16 d3 d4 d7 (shm_12 f0) (shm_468 f1) h3 (shm_12 f7) (shm_6 f9) f11 f12 f13 f14 f15 f17 f18 kz_0_31 kz_0_32 kz_0_53
  have rf16 : tv_ok ta (0, 0, 159, []) (n_v vs 16) := tv_in t16 (by first | omega | grind) (by first | omega | grind)
  refine ⟨List.forall_mem_cons.mpr ⟨rf16, (fun _ h => (by cases h))⟩, [], trivial, ?_, (fun _ h => (by cases h))⟩
  rw [List.append_nil]
  exact (fun _ h => (by cases h))
set_option maxHeartbeats 4000000 in
theorem vc_Mo_cut_8_0 (x3 : Int) (x4 : Int) (x5 : Int) (x9 : Int) (x10 : Int) (x11 : Int) (x12 : Int) (x14 : Int) (x15 : Int) (x16 : Int) (x17 : Int) (x18 : Int) (x19 : Int) (x20 : Int) (pt_0 : Int → Int) (ph_0 : Int → Int) (roundDart_0 : Int → Int) (roundBegin_0 : Int → Int) (pm_0 : Int) (alive_0 : Int → Int) (k3 : 0 ≤ x3 ∧ x3 ≤ 159) (k4 : 4 ≤ x4 ∧ x4 ≤ 160) (k5 : 0 ≤ x5 ∧ x5 ≤ 159) (k9 : 0 ≤ x9 ∧ x9 ≤ 160) (k10 : 0 ≤ x10 ∧ x10 ≤ 159) (k11 : 0 ≤ x11 ∧ x11 ≤ 159) (k12 : 0 ≤ x12 ∧ x12 ≤ 160) (k14 : 1 ≤ x14 ∧ x14 ≤ 160) (k15 : 0 ≤ x15 ∧ x15 ≤ 159) (k16 : 0 ≤ x16 ∧ x16 ≤ 159) (k17 : 0 ≤ x17 ∧ x17 ≤ 159) (k18 : 0 ≤ x18 ∧ x18 ≤ 24) (k19 : 0 ≤ x19 ∧ x19 ≤ 24) (k20 : 1 ≤ x20 ∧ x20 ≤ 160) (d0 : x5 + 1 ≤ x20 ∧ x20 ≤ x5 + 1) (d6 : x5 + 1 ≤ x14 ∧ x14 ≤ x5 + 1) (d9 : x9 + 0 ≤ x10 ∧ x10 ≤ x9 + 159) (f0 : x20 = x5 + 1) (f1 : x18 = x19) (f2 : DTO (pt_0) (ph_0) (x17) (x19)) (f3 : DFR (pt_0) (ph_0) (x11) (x18)) (h4 : x17 = roundDart_0 (x16)) (f5 : x16 = x12 + x15) (f6 : x15 = Int.tmod (x14) (x4)) (h8 : x12 = roundBegin_0 (x3)) (h11 : x11 = roundDart_0 (x10)) (f12 : x10 = x9 + x5) (h13 : x9 = roundBegin_0 (x3)) (f14 : x5 < x4) (f22 : CT2 (pm_0) (pt_0) (ph_0) (alive_0) (roundBegin_0) (roundDart_0) (x3) (x4) (x5)) (kz_0_32 : 0 ≤ pm_0 ∧ pm_0 ≤ 80) : CT2 (pm_0) (pt_0) (ph_0) (alive_0) (roundBegin_0) (roundDart_0) (x3) (x4) (x20) := by
  first
    | exact ⟨⟨by rw [← (by omega : x8 = x3 + 1)]; omega, by omega⟩, fun t a b => by exfalso; omega⟩
    | (have e1 : x15 = nr x4 x5 := by
         rw [‹x15 = Int.tmod x14 x4›, Int.tmod_eq_emod_of_nonneg (by omega), show x14 = x5 + 1 by omega]; exact nr_m1 (by omega) (by omega)
       exact ct2_next (d := x11) (x := x17) (r := 0) ‹CT2 _ _ _ _ _ _ _ _ _› (by omega) (by rw [← (by omega : x10 = roundBegin_0 x3 + x5)]; assumption) (by rw [← e1, ← (by omega : x16 = roundBegin_0 x3 + x15)]; assumption) ‹DFR _ _ _ _› ‹DTO _ _ _ _› (Or.inl (by omega)))
    | (have e1 : x15 = nr x4 x5 := by
         rw [‹x15 = Int.tmod x14 x4›, Int.tmod_eq_emod_of_nonneg (by omega), show x14 = x5 + 1 by omega]; exact nr_m1 (by omega) (by omega)
       exact ct2_next (d := x11) (x := x17) ‹CT2 _ _ _ _ _ _ _ _ _› (by omega) (by rw [← (by omega : x10 = roundBegin_0 x3 + x5)]; assumption) (by rw [← e1, ← (by omega : x16 = roundBegin_0 x3 + x15)]; assumption) ‹DFR _ _ _ _› ‹DTO _ _ _ _› (Or.inr ⟨‹EOF _ _ _ _ _ _ _›, by omega⟩))
def o_Mo_cut_8 : or_T := (40, 21, [(0, (2, 0, 0, [165])), (3, (0, 0, 159, [])), (4, (0, 4, 160, [])), (5, (0, 0, 159, [])), (9, (0, 0, 160, [])), (10, (0, 0, 159, [])), (11, (0, 0, 159, [])), (12, (0, 0, 160, [])), (14, (0, 1, 160, [])), (15, (0, 0, 159, [])), (16, (0, 0, 159, [])), (17, (0, 0, 159, [])), (18, (0, 0, 24, [])), (19, (0, 0, 24, [])), (20, (0, 1, 160, []))], [(6, [20, 5], [1]), (7, [18, 19], [0]), (20, [2, 17, 19], [60, 0, 2, 186, 33, 34]), (20, [2, 11, 18], [60, 0, 2, 185, 33, 34]), (10, [17, 7, 16], []), (1, [16, 12, 15], []), (5, [15, 14, 4], []), (10, [12, 8, 3], []), (9, [8, 2], [56]), (9, [7, 2], [57]), (10, [11, 7, 10], []), (1, [10, 9, 5], []), (10, [9, 8, 3], []), (7, [5, 4], [2]), (20, [2, 3, 4, 5], [60, 1, 5, 272, 32, 33, 34, 35, 56, 57]), (24, [0, 2], [])], [], [], [(20, [2, 3, 4, 20], [60, 1, 5, 272, 32, 33, 34, 35, 56, 57])], [], [(20, 5, 1, 1), (14, 5, 1, 1), (10, 9, 0, 159)])
theorem oo_Mo_cut_8 {kA : Nat → ClassId} : or_ok PRD kA GG o_Mo_cut_8 := by
  refine or_mk fun A ta ws vs hD hth hl => ?_
  intro t0 r0 t3 k3 t4 k4 t5 k5 t9 k9 t10 k10 t11 k11 t12 k12 t14 k14 t15 k15 t16 k16 t17 k17 t18 k18 t19 k19 t20 k20 d0 d6 d9 f0 f1 f2 f3 f4 f5 f6 f8 f9 f10 f11 f12 f13 f14 f22 f24
  replace f0 := shm_4 f0
  replace f1 := shm_37 f1
  replace f2 := shm_750 f2
  replace f3 := shm_586 f3
  replace f4 := shm_107 f4
  replace f5 := shm_12 f5
  replace f6 := shm_468 f6
  replace f8 := shm_107 f8
  replace f9 := shm_1133 f9
  replace f10 := shm_1138 f10
  replace f11 := shm_107 f11
  replace f12 := shm_12 f12
  replace f13 := shm_107 f13
  replace f14 := shm_6 f14
  replace f22 := shm_1826 f22
  replace f24 := shm_5 f24
  have q2 : n_v vs 2 = n_v vs 0 := f24.symm
  simp only [q2] at f2 f3 f9 f10 f22
  have ad_8 : v_ad (n_v vs 8) = w_ar ws (n_v vs 0) 56 := congrArg v_ad f9
  have ad_7 : v_ad (n_v vs 7) = w_ar ws (n_v vs 0) 57 := congrArg v_ad f10
  simp only [ad_7] at f4
  have h4 : v_iv (n_v vs 17) = w_ei ws (w_ar ws (n_v vs 0) 57) (v_iv (n_v vs 16)) := f4
  simp only [ad_8] at f8
  have h8 : v_iv (n_v vs 12) = w_ei ws (w_ar ws (n_v vs 0) 56) (v_iv (n_v vs 3)) := f8
  simp only [ad_7] at f11
  have h11 : v_iv (n_v vs 11) = w_ei ws (w_ar ws (n_v vs 0) 57) (v_iv (n_v vs 10)) := f11
  simp only [ad_8] at f13
  have h13 : v_iv (n_v vs 9) = w_ei ws (w_ar ws (n_v vs 0) 56) (v_iv (n_v vs 3)) := f13
  have kz_0_32 := fdq_140 hD hth r0
  have nf0 : fc_1 PRD (20, [2, 3, 4, 20], [60, 1, 5, 272, 32, 33, 34, 35, 56, 57]) ws (vs) := by
    refine ⟨nf_in hl rfl, sgq_1826 ?_⟩
    · show CT2 (w_fi ws (n_v vs 2) 32) (w_ei ws (w_ar ws (n_v vs 2) 33)) (w_ei ws (w_ar ws (n_v vs 2) 34)) (w_ei ws (w_ar ws (n_v vs 2) 35)) (w_ei ws (w_ar ws (n_v vs 2) 56)) (w_ei ws (w_ar ws (n_v vs 2) 57)) (v_iv (n_v vs 3)) (v_iv (n_v vs 4)) (v_iv (n_v vs 20))
      rw [q2]
      exact vc_Mo_cut_8_0 (v_iv (n_v vs 3)) (v_iv (n_v vs 4)) (v_iv (n_v vs 5)) (v_iv (n_v vs 9)) (v_iv (n_v vs 10)) (v_iv (n_v vs 11)) (v_iv (n_v vs 12)) (v_iv (n_v vs 14)) (v_iv (n_v vs 15)) (v_iv (n_v vs 16)) (v_iv (n_v vs 17)) (v_iv (n_v vs 18)) (v_iv (n_v vs 19)) (v_iv (n_v vs 20)) (w_ei ws (w_ar ws (n_v vs 0) 33)) (w_ei ws (w_ar ws (n_v vs 0) 34)) (w_ei ws (w_ar ws (n_v vs 0) 57)) (w_ei ws (w_ar ws (n_v vs 0) 56)) (w_fi ws (n_v vs 0) 32) (w_ei ws (w_ar ws (n_v vs 0) 35)) k3 k4 k5 k9 k10 k11 k12 k14 k15 k16 k17 k18 k19 k20 d0 d6 d9 f0 f1 f2 f3 h4 f5 f6 h8 h11 f12 h13 f14 f22 kz_0_32
  refine ⟨(fun _ h => (by cases h)), [], trivial, ?_, (fun _ h => (by cases h))⟩
  rw [List.append_nil]
  exact List.forall_mem_cons.mpr ⟨⟨show (20 : Nat) < 100 from by decide, nf0⟩, (fun _ h => (by cases h))⟩
set_option maxHeartbeats 4000000 in
theorem vc_Mo_cut_9_0 (x10 : Int) (x11 : Int) (roundDart_0 : Int → Int) (gx : Int) (k10 : 0 ≤ x10 ∧ x10 ≤ 159) (k11 : 0 ≤ x11 ∧ x11 ≤ 159) (h12 : x11 = roundDart_0 (x10)) (ex2 : gx = x11) : 1 * gx + ((-1) * x11 + 0) ≤ 0 := by
  first
    | omega
    | (have h := euler_m ‹GRI _ _ _ _ _ _ _› ‹CON _ _ _ _ _› (by omega) ‹GRD _ _ _ _ _ _ _ _ _ _›
       omega)
set_option maxHeartbeats 4000000 in
theorem vc_Mo_cut_9_1 (x10 : Int) (x11 : Int) (roundDart_0 : Int → Int) (gx : Int) (k10 : 0 ≤ x10 ∧ x10 ≤ 159) (k11 : 0 ≤ x11 ∧ x11 ≤ 159) (h12 : x11 = roundDart_0 (x10)) (ex2 : gx = x11) : (-1) * gx + (1 * x11 + 0) ≤ 0 := by
  first
    | omega
    | (have h := euler_m ‹GRI _ _ _ _ _ _ _› ‹CON _ _ _ _ _› (by omega) ‹GRD _ _ _ _ _ _ _ _ _ _›
       omega)
set_option maxHeartbeats 4000000 in
theorem vc_Mo_cut_9_2 (x16 : Int) (x17 : Int) (roundDart_0 : Int → Int) (gy : Int) (k16 : 0 ≤ x16 ∧ x16 ≤ 159) (k17 : 0 ≤ x17 ∧ x17 ≤ 159) (h5 : x17 = roundDart_0 (x16)) (ey2 : gy = x17) : 1 * gy + ((-1) * x17 + 0) ≤ 0 := by
  first
    | omega
    | (have h := euler_m ‹GRI _ _ _ _ _ _ _› ‹CON _ _ _ _ _› (by omega) ‹GRD _ _ _ _ _ _ _ _ _ _›
       omega)
set_option maxHeartbeats 4000000 in
theorem vc_Mo_cut_9_3 (x16 : Int) (x17 : Int) (roundDart_0 : Int → Int) (gy : Int) (k16 : 0 ≤ x16 ∧ x16 ≤ 159) (k17 : 0 ≤ x17 ∧ x17 ≤ 159) (h5 : x17 = roundDart_0 (x16)) (ey2 : gy = x17) : (-1) * gy + (1 * x17 + 0) ≤ 0 := by
  first
    | omega
    | (have h := euler_m ‹GRI _ _ _ _ _ _ _› ‹CON _ _ _ _ _› (by omega) ‹GRD _ _ _ _ _ _ _ _ _ _›
       omega)
set_option maxHeartbeats 4000000 in
theorem vc_Mo_cut_9_4 (x1 : Int) (pm_0 : Int) (gu : Int) (k1 : 0 ≤ x1 ∧ x1 ≤ 80) (f20 : pm_0 = x1) (kz_0_32 : 0 ≤ pm_0 ∧ pm_0 ≤ 80) (eu2 : gu = x1) : 1 * gu + ((-1) * x1 + 0) ≤ 0 := by
  first
    | omega
    | (have h := euler_m ‹GRI _ _ _ _ _ _ _› ‹CON _ _ _ _ _› (by omega) ‹GRD _ _ _ _ _ _ _ _ _ _›
       omega)
set_option maxHeartbeats 4000000 in
theorem vc_Mo_cut_9_5 (x1 : Int) (pm_0 : Int) (gu : Int) (k1 : 0 ≤ x1 ∧ x1 ≤ 80) (f20 : pm_0 = x1) (kz_0_32 : 0 ≤ pm_0 ∧ pm_0 ≤ 80) (eu2 : gu = x1) : (-1) * gu + (1 * x1 + 0) ≤ 0 := by
  first
    | omega
    | (have h := euler_m ‹GRI _ _ _ _ _ _ _› ‹CON _ _ _ _ _› (by omega) ‹GRD _ _ _ _ _ _ _ _ _ _›
       omega)
set_option maxHeartbeats 4000000 in
theorem vc_Mo_cut_9_6 (x1 : Int) (pt_0 : Int → Int) (ph_0 : Int → Int) (alive_0 : Int → Int) (pm_0 : Int) (roundDart_0 : Int → Int) (roundBegin_0 : Int → Int) (pn_0 : Int) (rotMany_0 : Int → Int) (rot_0 : Int → Int) (roundOf_0 : Int → Int) (rounds_0 : Int) (gu : Int) (k1 : 0 ≤ x1 ∧ x1 ≤ 80) (f17 : GRI (pn_0) (pm_0) (pt_0) (ph_0) (alive_0) (rotMany_0) (rot_0)) (f18 : CON (pn_0) (pm_0) (pt_0) (ph_0) (alive_0)) (f19 : 3 ≤ pn_0) (f20 : pm_0 = x1) (f21 : GRD (pm_0) (rounds_0) (pt_0) (ph_0) (alive_0) (rotMany_0) (rot_0) (roundOf_0) (roundBegin_0) (roundDart_0)) (kz_0_31 : 0 ≤ pn_0 ∧ pn_0 ≤ 25) (kz_0_32 : 0 ≤ pm_0 ∧ pm_0 ≤ 80) (kz_0_53 : 0 ≤ rounds_0 ∧ rounds_0 ≤ 160) (eu2 : gu = x1) : pm_0 ≤ 79 := by
  first
    | omega
    | (have h := euler_m ‹GRI _ _ _ _ _ _ _› ‹CON _ _ _ _ _› (by omega) ‹GRD _ _ _ _ _ _ _ _ _ _›
       omega)
set_option maxHeartbeats 4000000 in
theorem vc_Mo_cut_9_7 (x3 : Int) (x4 : Int) (x5 : Int) (x9 : Int) (x10 : Int) (x11 : Int) (x12 : Int) (x14 : Int) (x15 : Int) (x16 : Int) (x17 : Int) (x18 : Int) (x19 : Int) (x20 : Int) (pt_0 : Int → Int) (ph_0 : Int → Int) (alive_0 : Int → Int) (pm_0 : Int) (roundDart_0 : Int → Int) (roundBegin_0 : Int → Int) (pn_0 : Int) (rotMany_0 : Int → Int) (rot_0 : Int → Int) (roundOf_0 : Int → Int) (rounds_0 : Int) (gx : Int) (gy : Int) (k3 : 0 ≤ x3 ∧ x3 ≤ 159) (k4 : 4 ≤ x4 ∧ x4 ≤ 160) (k5 : 0 ≤ x5 ∧ x5 ≤ 159) (k9 : 0 ≤ x9 ∧ x9 ≤ 160) (k10 : 0 ≤ x10 ∧ x10 ≤ 159) (k11 : 0 ≤ x11 ∧ x11 ≤ 159) (k12 : 0 ≤ x12 ∧ x12 ≤ 160) (k14 : 1 ≤ x14 ∧ x14 ≤ 160) (k15 : 0 ≤ x15 ∧ x15 ≤ 159) (k16 : 0 ≤ x16 ∧ x16 ≤ 159) (k17 : 0 ≤ x17 ∧ x17 ≤ 159) (k18 : 0 ≤ x18 ∧ x18 ≤ 24) (k19 : 0 ≤ x19 ∧ x19 ≤ 24) (k20 : (-1) ≤ x20 ∧ x20 ≤ (-1)) (d3 : x5 + 1 ≤ x14 ∧ x14 ≤ x5 + 1) (d6 : x9 + 0 ≤ x10 ∧ x10 ≤ x9 + 159) (f0 : x20 < 0) (f1 : EOF (pm_0) (pt_0) (ph_0) (alive_0) (x18) (x19) (x20)) (f2 : x18 ≠ x19) (f3 : DTO (pt_0) (ph_0) (x17) (x19)) (f4 : DFR (pt_0) (ph_0) (x11) (x18)) (h5 : x17 = roundDart_0 (x16)) (f6 : x16 = x12 + x15) (f7 : x15 = Int.tmod (x14) (x4)) (h9 : x12 = roundBegin_0 (x3)) (h12 : x11 = roundDart_0 (x10)) (f13 : x10 = x9 + x5) (h14 : x9 = roundBegin_0 (x3)) (f15 : x5 < x4) (f17 : GRI (pn_0) (pm_0) (pt_0) (ph_0) (alive_0) (rotMany_0) (rot_0)) (f18 : CON (pn_0) (pm_0) (pt_0) (ph_0) (alive_0)) (f19 : 3 ≤ pn_0) (f21 : GRD (pm_0) (rounds_0) (pt_0) (ph_0) (alive_0) (rotMany_0) (rot_0) (roundOf_0) (roundBegin_0) (roundDart_0)) (f23 : CT2 (pm_0) (pt_0) (ph_0) (alive_0) (roundBegin_0) (roundDart_0) (x3) (x4) (x5)) (f24 : 1 * x3 + ((-1) * rounds_0 + 0) ≤ (-1)) (kz_0_31 : 0 ≤ pn_0 ∧ pn_0 ≤ 25) (kz_0_32 : 0 ≤ pm_0 ∧ pm_0 ≤ 80) (kz_0_53 : 0 ≤ rounds_0 ∧ rounds_0 ≤ 160) (ex2 : gx = x11) (ey2 : gy = x17) : PN3 (pn_0) (pm_0) (pt_0) (ph_0) (alive_0) (rotMany_0) (rot_0) (x18) (x19) (gx) (gy) := by
  rw [ex2, ey2]
  have e1 : x15 = nr x4 x5 := by
    rw [‹x15 = Int.tmod x14 x4›, Int.tmod_eq_emod_of_nonneg (by omega), show x14 = x5 + 1 by omega]; exact nr_m1 (by omega) (by omega)
  exact pn3_of (f := x3) (k := x5) (L := x4) ‹GRI _ _ _ _ _ _ _› ‹CON _ _ _ _ _› (by omega) ‹GRD _ _ _ _ _ _ _ _ _ _› (by omega) (by omega) (by omega) ‹CT2 _ _ _ _ _ _ _ _ _›.1.1 (by omega) (by rw [← (by omega : x10 = roundBegin_0 x3 + x5)]; assumption) (by rw [← e1, ← (by omega : x16 = roundBegin_0 x3 + x15)]; assumption) ‹DFR _ _ _ _› ‹DTO _ _ _ _› (by omega) ‹EOF _ _ _ _ _ _ _› (by omega)
set_option maxHeartbeats 4000000 in
theorem vc_Mo_cut_9_8 (pt_0 : Int → Int) (ph_0 : Int → Int) (alive_0 : Int → Int) (pm_0 : Int) (pn_0 : Int) (f18 : CON (pn_0) (pm_0) (pt_0) (ph_0) (alive_0)) (kz_0_31 : 0 ≤ pn_0 ∧ pn_0 ≤ 25) (kz_0_32 : 0 ≤ pm_0 ∧ pm_0 ≤ 80) : CON (pn_0) (pm_0) (pt_0) (ph_0) (alive_0) := by
  assumption
set_option maxHeartbeats 4000000 in
theorem vc_Mo_cut_9_9 (x1 : Int) (pm_0 : Int) (gu : Int) (k1 : 0 ≤ x1 ∧ x1 ≤ 80) (f20 : pm_0 = x1) (kz_0_32 : 0 ≤ pm_0 ∧ pm_0 ≤ 80) (eu2 : gu = x1) : pm_0 = gu := by
  first
    | omega
    | (have h := euler_m ‹GRI _ _ _ _ _ _ _› ‹CON _ _ _ _ _› (by omega) ‹GRD _ _ _ _ _ _ _ _ _ _›
       omega)
def o_Mo_cut_9 : or_T := (121, 21, [(0, (2, 0, 0, [165])), (1, (0, 0, 80, [])), (3, (0, 0, 159, [])), (4, (0, 4, 160, [])), (5, (0, 0, 159, [])), (9, (0, 0, 160, [])), (10, (0, 0, 159, [])), (11, (0, 0, 159, [])), (12, (0, 0, 160, [])), (14, (0, 1, 160, [])), (15, (0, 0, 159, [])), (16, (0, 0, 159, [])), (17, (0, 0, 159, [])), (18, (0, 0, 24, [])), (19, (0, 0, 24, [])), (20, (0, -1, -1, []))], [(8, [20], [2]), (20, [2, 18, 19, 20], [60, 1, 3, 85, 32, 33, 34, 35]), (7, [18, 19], [1]), (20, [2, 17, 19], [60, 0, 2, 186, 33, 34]), (20, [2, 11, 18], [60, 0, 2, 185, 33, 34]), (10, [17, 7, 16], []), (1, [16, 12, 15], []), (5, [15, 14, 4], []), (10, [12, 8, 3], []), (9, [8, 2], [56]), (9, [7, 2], [57]), (10, [11, 7, 10], []), (1, [10, 9, 5], []), (10, [9, 8, 3], []), (7, [5, 4], [2]), (20, [2], [60, 2, 5, 261, 31, 32, 33, 34, 35, 36, 37]), (20, [2], [60, 2, 3, 264, 31, 32, 33, 34, 35]), (20, [2], [50, 1, 0, 31, 0, 2, 0, 3, 2, 0, 31]), (20, [2, 1], [50, 1, 0, 32, 1, 3, 2, 0, 32, 1, 1]), (20, [2], [60, 2, 8, 193, 32, 53, 33, 34, 35, 36, 37, 54, 56, 57]), (20, [2, 3, 4, 5], [60, 1, 5, 272, 32, 33, 34, 35, 56, 57]), (20, [3, 2], [30, -1, 1, 0, 0, -1, 1, 53]), (24, [0, 2], [])], [], [(0, 0, 159, []), (0, 0, 159, []), (0, 0, 80, [])], [(23, [21, 11], [0, 1, -1]), (23, [21, 11], [0, -1, 1]), (23, [22, 17], [0, 1, -1]), (23, [22, 17], [0, -1, 1]), (23, [23, 1], [0, 1, -1]), (23, [23, 1], [0, -1, 1]), (20, [2], [50, 1, 0, 32, 0, 3, 2, 0, 32, 0, 79]), (20, [2, 18, 19, 21, 22], [60, 2, 5, 246, 31, 32, 33, 34, 35, 36, 37]), (20, [2], [60, 2, 3, 264, 31, 32, 33, 34, 35]), (20, [2, 23], [50, 1, 0, 32, 1, 3, 2, 0, 32, 1, 1])], [], [(14, 5, 1, 1), (10, 9, 0, 159)])
theorem oo_Mo_cut_9 {kA : Nat → ClassId} : or_ok PRD kA GG o_Mo_cut_9 := by
  refine or_mk fun A ta ws vs hD hth hl => ?_
  intro t0 r0 t1 k1 t3 k3 t4 k4 t5 k5 t9 k9 t10 k10 t11 k11 t12 k12 t14 k14 t15 k15 t16 k16 t17 k17 t18 k18 t19 k19 t20 k20 d3 d6 f0 f1 f2 f3 f4 f5 f6 f7 f9 f10 f11 f12 f13 f14 f15 f17 f18 f19 f20 f21 f23 f24 f25
  replace f0 := shm_39 f0
  replace f1 := shm_990 f1
  replace f2 := shm_40 f2
  replace f3 := shm_750 f3
  replace f4 := shm_586 f4
  replace f5 := shm_107 f5
  replace f6 := shm_12 f6
  replace f7 := shm_468 f7
  replace f9 := shm_107 f9
  replace f10 := shm_1133 f10
  replace f11 := shm_1138 f11
  replace f12 := shm_107 f12
  replace f13 := shm_12 f13
  replace f14 := shm_107 f14
  replace f15 := shm_6 f15
  replace f17 := shm_691 f17
  replace f18 := shm_656 f18
  replace f19 := shm_1821 f19
  replace f20 := shm_657 f20
  replace f21 := shm_1134 f21
  replace f23 := shm_1826 f23
  replace f24 := shm_1827 f24
  replace f25 := shm_5 f25
  have q2 : n_v vs 2 = n_v vs 0 := f25.symm
  simp only [q2] at f1 f3 f4 f10 f11 f17 f18 f19 f20 f21 f23 f24
  have ad_8 : v_ad (n_v vs 8) = w_ar ws (n_v vs 0) 56 := congrArg v_ad f10
  have ad_7 : v_ad (n_v vs 7) = w_ar ws (n_v vs 0) 57 := congrArg v_ad f11
  simp only [ad_7] at f5
  have h5 : v_iv (n_v vs 17) = w_ei ws (w_ar ws (n_v vs 0) 57) (v_iv (n_v vs 16)) := f5
  simp only [ad_8] at f9
  have h9 : v_iv (n_v vs 12) = w_ei ws (w_ar ws (n_v vs 0) 56) (v_iv (n_v vs 3)) := f9
  simp only [ad_7] at f12
  have h12 : v_iv (n_v vs 11) = w_ei ws (w_ar ws (n_v vs 0) 57) (v_iv (n_v vs 10)) := f12
  simp only [ad_8] at f14
  have h14 : v_iv (n_v vs 9) = w_ei ws (w_ar ws (n_v vs 0) 56) (v_iv (n_v vs 3)) := f14
  have kz_0_31 := fdq_145 hD hth r0
  have kz_0_32 := fdq_140 hD hth r0
  have kz_0_53 := fdq_275 hD hth r0
  obtain ⟨x, ex, hx⟩ := iv_ex (ta := ta) (lo := 0) (hi := 159) (z := v_iv (n_v vs 11)) (by omega) (by omega) (by omega) (by omega)
  have ex2 : v_iv (Value.int x) = v_iv (n_v vs 11) := ex
  have ex3 : 0 ≤ v_iv (Value.int x) ∧ v_iv (Value.int x) ≤ 159 := tv_rng hx
  obtain ⟨y, ey, hy⟩ := iv_ex (ta := ta) (lo := 0) (hi := 159) (z := v_iv (n_v vs 17)) (by omega) (by omega) (by omega) (by omega)
  have ey2 : v_iv (Value.int y) = v_iv (n_v vs 17) := ey
  have ey3 : 0 ≤ v_iv (Value.int y) ∧ v_iv (Value.int y) ≤ 159 := tv_rng hy
  obtain ⟨u, eu, hu⟩ := iv_ex (ta := ta) (lo := 0) (hi := 80) (z := v_iv (n_v vs 1)) (by omega) (by omega) (by omega) (by omega)
  have eu2 : v_iv (Value.int u) = v_iv (n_v vs 1) := eu
  have eu3 : 0 ≤ v_iv (Value.int u) ∧ v_iv (Value.int u) ≤ 80 := tv_rng hu
  have e_1 : n_v (vs ++ [Value.int x, Value.int y, Value.int u]) 1 = n_v vs 1 := n_v_old (by rw [hl]; decide)
  have e_2 : n_v (vs ++ [Value.int x, Value.int y, Value.int u]) 2 = n_v vs 2 := n_v_old (by rw [hl]; decide)
  have e_11 : n_v (vs ++ [Value.int x, Value.int y, Value.int u]) 11 = n_v vs 11 := n_v_old (by rw [hl]; decide)
  have e_17 : n_v (vs ++ [Value.int x, Value.int y, Value.int u]) 17 = n_v vs 17 := n_v_old (by rw [hl]; decide)
  have e_18 : n_v (vs ++ [Value.int x, Value.int y, Value.int u]) 18 = n_v vs 18 := n_v_old (by rw [hl]; decide)
  have e_19 : n_v (vs ++ [Value.int x, Value.int y, Value.int u]) 19 = n_v vs 19 := n_v_old (by rw [hl]; decide)
  have e_21 : n_v (vs ++ [Value.int x, Value.int y, Value.int u]) 21 = Value.int x := n_v_newk (k := 0) hl rfl
  have e_22 : n_v (vs ++ [Value.int x, Value.int y, Value.int u]) 22 = Value.int y := n_v_newk (k := 1) hl rfl
  have e_23 : n_v (vs ++ [Value.int x, Value.int y, Value.int u]) 23 = Value.int u := n_v_newk (k := 2) hl rfl
  have nf0 : fc_1 PRD (23, [21, 11], [0, 1, -1]) ws (vs ++ [Value.int x, Value.int y, Value.int u]) := by
    refine ⟨nf_inA hl rfl, sgq_7 ?_⟩
    · show 1 * v_iv (n_v (vs ++ [Value.int x, Value.int y, Value.int u]) 21) + ((-1) * v_iv (n_v (vs ++ [Value.int x, Value.int y, Value.int u]) 11) + 0) ≤ 0
      simp only [e_11, e_21]
      exact vc_Mo_cut_9_0 (v_iv (n_v vs 10)) (v_iv (n_v vs 11)) (w_ei ws (w_ar ws (n_v vs 0) 57)) (v_iv (Value.int x)) k10 k11 h12 ex2
  have nf1 : fc_1 PRD (23, [21, 11], [0, -1, 1]) ws (vs ++ [Value.int x, Value.int y, Value.int u]) := by
    refine ⟨nf_inA hl rfl, sgq_22 ?_⟩
    · show (-1) * v_iv (n_v (vs ++ [Value.int x, Value.int y, Value.int u]) 21) + (1 * v_iv (n_v (vs ++ [Value.int x, Value.int y, Value.int u]) 11) + 0) ≤ 0
      simp only [e_11, e_21]
      exact vc_Mo_cut_9_1 (v_iv (n_v vs 10)) (v_iv (n_v vs 11)) (w_ei ws (w_ar ws (n_v vs 0) 57)) (v_iv (Value.int x)) k10 k11 h12 ex2
  have nf2 : fc_1 PRD (23, [22, 17], [0, 1, -1]) ws (vs ++ [Value.int x, Value.int y, Value.int u]) := by
    refine ⟨nf_inA hl rfl, sgq_7 ?_⟩
    · show 1 * v_iv (n_v (vs ++ [Value.int x, Value.int y, Value.int u]) 22) + ((-1) * v_iv (n_v (vs ++ [Value.int x, Value.int y, Value.int u]) 17) + 0) ≤ 0
      simp only [e_17, e_22]
      exact vc_Mo_cut_9_2 (v_iv (n_v vs 16)) (v_iv (n_v vs 17)) (w_ei ws (w_ar ws (n_v vs 0) 57)) (v_iv (Value.int y)) k16 k17 h5 ey2
  have nf3 : fc_1 PRD (23, [22, 17], [0, -1, 1]) ws (vs ++ [Value.int x, Value.int y, Value.int u]) := by
    refine ⟨nf_inA hl rfl, sgq_22 ?_⟩
    · show (-1) * v_iv (n_v (vs ++ [Value.int x, Value.int y, Value.int u]) 22) + (1 * v_iv (n_v (vs ++ [Value.int x, Value.int y, Value.int u]) 17) + 0) ≤ 0
      simp only [e_17, e_22]
      exact vc_Mo_cut_9_3 (v_iv (n_v vs 16)) (v_iv (n_v vs 17)) (w_ei ws (w_ar ws (n_v vs 0) 57)) (v_iv (Value.int y)) k16 k17 h5 ey2
  have nf4 : fc_1 PRD (23, [23, 1], [0, 1, -1]) ws (vs ++ [Value.int x, Value.int y, Value.int u]) := by
    refine ⟨nf_inA hl rfl, sgq_7 ?_⟩
    · show 1 * v_iv (n_v (vs ++ [Value.int x, Value.int y, Value.int u]) 23) + ((-1) * v_iv (n_v (vs ++ [Value.int x, Value.int y, Value.int u]) 1) + 0) ≤ 0
      simp only [e_1, e_23]
      exact vc_Mo_cut_9_4 (v_iv (n_v vs 1)) (w_fi ws (n_v vs 0) 32) (v_iv (Value.int u)) k1 f20 kz_0_32 eu2
  have nf5 : fc_1 PRD (23, [23, 1], [0, -1, 1]) ws (vs ++ [Value.int x, Value.int y, Value.int u]) := by
    refine ⟨nf_inA hl rfl, sgq_22 ?_⟩
    · show (-1) * v_iv (n_v (vs ++ [Value.int x, Value.int y, Value.int u]) 23) + (1 * v_iv (n_v (vs ++ [Value.int x, Value.int y, Value.int u]) 1) + 0) ≤ 0
      simp only [e_1, e_23]
      exact vc_Mo_cut_9_5 (v_iv (n_v vs 1)) (w_fi ws (n_v vs 0) 32) (v_iv (Value.int u)) k1 f20 kz_0_32 eu2
  have nf6 : fc_1 PRD (20, [2], [50, 1, 0, 32, 0, 3, 2, 0, 32, 0, 79]) ws (vs ++ [Value.int x, Value.int y, Value.int u]) := by
    refine ⟨nf_inA hl rfl, sgq_648 ?_⟩
    · show w_fi ws (n_v (vs ++ [Value.int x, Value.int y, Value.int u]) 2) 32 ≤ 79
      simp only [e_2, q2]
      exact vc_Mo_cut_9_6 (v_iv (n_v vs 1)) (w_ei ws (w_ar ws (n_v vs 0) 33)) (w_ei ws (w_ar ws (n_v vs 0) 34)) (w_ei ws (w_ar ws (n_v vs 0) 35)) (w_fi ws (n_v vs 0) 32) (w_ei ws (w_ar ws (n_v vs 0) 57)) (w_ei ws (w_ar ws (n_v vs 0) 56)) (w_fi ws (n_v vs 0) 31) (w_ei ws (w_ar ws (n_v vs 0) 36)) (w_ei ws (w_ar ws (n_v vs 0) 37)) (w_ei ws (w_ar ws (n_v vs 0) 54)) (w_fi ws (n_v vs 0) 53) (v_iv (Value.int u)) k1 f17 f18 f19 f20 f21 kz_0_31 kz_0_32 kz_0_53 eu2
  have nf7 : fc_1 PRD (20, [2, 18, 19, 21, 22], [60, 2, 5, 246, 31, 32, 33, 34, 35, 36, 37]) ws (vs ++ [Value.int x, Value.int y, Value.int u]) := by
    refine ⟨nf_inA hl rfl, sgq_655 ?_⟩
    · show PN3 (w_fi ws (n_v (vs ++ [Value.int x, Value.int y, Value.int u]) 2) 31) (w_fi ws (n_v (vs ++ [Value.int x, Value.int y, Value.int u]) 2) 32) (w_ei ws (w_ar ws (n_v (vs ++ [Value.int x, Value.int y, Value.int u]) 2) 33)) (w_ei ws (w_ar ws (n_v (vs ++ [Value.int x, Value.int y, Value.int u]) 2) 34)) (w_ei ws (w_ar ws (n_v (vs ++ [Value.int x, Value.int y, Value.int u]) 2) 35)) (w_ei ws (w_ar ws (n_v (vs ++ [Value.int x, Value.int y, Value.int u]) 2) 36)) (w_ei ws (w_ar ws (n_v (vs ++ [Value.int x, Value.int y, Value.int u]) 2) 37)) (v_iv (n_v (vs ++ [Value.int x, Value.int y, Value.int u]) 18)) (v_iv (n_v (vs ++ [Value.int x, Value.int y, Value.int u]) 19)) (v_iv (n_v (vs ++ [Value.int x, Value.int y, Value.int u]) 21)) (v_iv (n_v (vs ++ [Value.int x, Value.int y, Value.int u]) 22))
      simp only [e_2, e_18, e_19, e_21, e_22, q2]
      exact vc_Mo_cut_9_7 (v_iv (n_v vs 3)) (v_iv (n_v vs 4)) (v_iv (n_v vs 5)) (v_iv (n_v vs 9)) (v_iv (n_v vs 10)) (v_iv (n_v vs 11)) (v_iv (n_v vs 12)) (v_iv (n_v vs 14)) (v_iv (n_v vs 15)) (v_iv (n_v vs 16)) (v_iv (n_v vs 17)) (v_iv (n_v vs 18)) (v_iv (n_v vs 19)) (v_iv (n_v vs 20)) (w_ei ws (w_ar ws (n_v vs 0) 33)) (w_ei ws (w_ar ws (n_v vs 0) 34)) (w_ei ws (w_ar ws (n_v vs 0) 35)) (w_fi ws (n_v vs 0) 32) (w_ei ws (w_ar ws (n_v vs 0) 57)) (w_ei ws (w_ar ws (n_v vs 0) 56)) (w_fi ws (n_v vs 0) 31) (w_ei ws (w_ar ws (n_v vs 0) 36)) (w_ei ws (w_ar ws (n_v vs 0) 37)) (w_ei ws (w_ar ws (n_v vs 0) 54)) (w_fi ws (n_v vs 0) 53) (v_iv (Value.int x)) (v_iv (Value.int y)) k3 k4 k5 k9 k10 k11 k12 k14 k15 k16 k17 k18 k19 k20 d3 d6 f0 f1 f2 f3 f4 h5 f6 f7 h9 h12 f13 h14 f15 f17 f18 f19 f21 f23 f24 kz_0_31 kz_0_32 kz_0_53 ex2 ey2
  have nf8 : fc_1 PRD (20, [2], [60, 2, 3, 264, 31, 32, 33, 34, 35]) ws (vs ++ [Value.int x, Value.int y, Value.int u]) := by
    refine ⟨nf_inA hl rfl, sgq_656 ?_⟩
    · show CON (w_fi ws (n_v (vs ++ [Value.int x, Value.int y, Value.int u]) 2) 31) (w_fi ws (n_v (vs ++ [Value.int x, Value.int y, Value.int u]) 2) 32) (w_ei ws (w_ar ws (n_v (vs ++ [Value.int x, Value.int y, Value.int u]) 2) 33)) (w_ei ws (w_ar ws (n_v (vs ++ [Value.int x, Value.int y, Value.int u]) 2) 34)) (w_ei ws (w_ar ws (n_v (vs ++ [Value.int x, Value.int y, Value.int u]) 2) 35))
      simp only [e_2, q2]
      exact vc_Mo_cut_9_8 (w_ei ws (w_ar ws (n_v vs 0) 33)) (w_ei ws (w_ar ws (n_v vs 0) 34)) (w_ei ws (w_ar ws (n_v vs 0) 35)) (w_fi ws (n_v vs 0) 32) (w_fi ws (n_v vs 0) 31) f18 kz_0_31 kz_0_32
  have nf9 : fc_1 PRD (20, [2, 23], [50, 1, 0, 32, 1, 3, 2, 0, 32, 1, 1]) ws (vs ++ [Value.int x, Value.int y, Value.int u]) := by
    refine ⟨nf_inA hl rfl, sgq_657 ?_⟩
    · show w_fi ws (n_v (vs ++ [Value.int x, Value.int y, Value.int u]) 2) 32 = v_iv (n_v (vs ++ [Value.int x, Value.int y, Value.int u]) 23)
      simp only [e_2, e_23, q2]
      exact vc_Mo_cut_9_9 (v_iv (n_v vs 1)) (w_fi ws (n_v vs 0) 32) (v_iv (Value.int u)) k1 f20 kz_0_32 eu2
  exact ⟨(fun _ h => (by cases h)), [Value.int x, Value.int y, Value.int u], ag_three hx hy hu, List.forall_mem_cons.mpr ⟨⟨show (23 : Nat) < 100 from by decide, nf0⟩, List.forall_mem_cons.mpr ⟨⟨show (23 : Nat) < 100 from by decide, nf1⟩, List.forall_mem_cons.mpr ⟨⟨show (23 : Nat) < 100 from by decide, nf2⟩, List.forall_mem_cons.mpr ⟨⟨show (23 : Nat) < 100 from by decide, nf3⟩, List.forall_mem_cons.mpr ⟨⟨show (23 : Nat) < 100 from by decide, nf4⟩, List.forall_mem_cons.mpr ⟨⟨show (23 : Nat) < 100 from by decide, nf5⟩, List.forall_mem_cons.mpr ⟨⟨show (20 : Nat) < 100 from by decide, nf6⟩, List.forall_mem_cons.mpr ⟨⟨show (20 : Nat) < 100 from by decide, nf7⟩, List.forall_mem_cons.mpr ⟨⟨show (20 : Nat) < 100 from by decide, nf8⟩, List.forall_mem_cons.mpr ⟨⟨show (20 : Nat) < 100 from by decide, nf9⟩, (fun _ h => (by cases h))⟩⟩⟩⟩⟩⟩⟩⟩⟩⟩, (fun _ h => (by cases h))⟩
set_option maxHeartbeats 4000000 in
theorem vc_Mo_cut_10_0 (x19 : Int) (gx : Int) (k19 : 0 ≤ x19 ∧ x19 ≤ 24) (ex2 : gx = x19) : 1 * gx + ((-1) * x19 + 0) ≤ 0 := by
  first
    | omega
    | (have h := euler_m ‹GRI _ _ _ _ _ _ _› ‹CON _ _ _ _ _› (by omega) ‹GRD _ _ _ _ _ _ _ _ _ _›
       omega)
set_option maxHeartbeats 4000000 in
theorem vc_Mo_cut_10_1 (x19 : Int) (gx : Int) (k19 : 0 ≤ x19 ∧ x19 ≤ 24) (ex2 : gx = x19) : (-1) * gx + (1 * x19 + 0) ≤ 0 := by
  first
    | omega
    | (have h := euler_m ‹GRI _ _ _ _ _ _ _› ‹CON _ _ _ _ _› (by omega) ‹GRD _ _ _ _ _ _ _ _ _ _›
       omega)
set_option maxHeartbeats 4000000 in
theorem vc_Mo_cut_10_2 (x11 : Int) (x21 : Int) (gy : Int) (k11 : 0 ≤ x11 ∧ x11 ≤ 159) (k21 : 0 ≤ x21 ∧ x21 ≤ 159) (f2 : 1 * x21 + ((-1) * x11 + 0) ≤ 0) (f3 : (-1) * x21 + (1 * x11 + 0) ≤ 0) (ey2 : gy = x11) : 1 * gy + ((-1) * x11 + 0) ≤ 0 := by
  first
    | omega
    | (have h := euler_m ‹GRI _ _ _ _ _ _ _› ‹CON _ _ _ _ _› (by omega) ‹GRD _ _ _ _ _ _ _ _ _ _›
       omega)
set_option maxHeartbeats 4000000 in
theorem vc_Mo_cut_10_3 (x11 : Int) (x21 : Int) (gy : Int) (k11 : 0 ≤ x11 ∧ x11 ≤ 159) (k21 : 0 ≤ x21 ∧ x21 ≤ 159) (f2 : 1 * x21 + ((-1) * x11 + 0) ≤ 0) (f3 : (-1) * x21 + (1 * x11 + 0) ≤ 0) (ey2 : gy = x11) : (-1) * gy + (1 * x11 + 0) ≤ 0 := by
  first
    | omega
    | (have h := euler_m ‹GRI _ _ _ _ _ _ _› ‹CON _ _ _ _ _› (by omega) ‹GRD _ _ _ _ _ _ _ _ _ _›
       omega)
set_option maxHeartbeats 4000000 in
theorem vc_Mo_cut_10_4 (x17 : Int) (x22 : Int) (gu : Int) (k17 : 0 ≤ x17 ∧ x17 ≤ 159) (k22 : 0 ≤ x22 ∧ x22 ≤ 159) (f4 : 1 * x22 + ((-1) * x17 + 0) ≤ 0) (f5 : (-1) * x22 + (1 * x17 + 0) ≤ 0) (eu2 : gu = x17) : 1 * gu + ((-1) * x17 + 0) ≤ 0 := by
  first
    | omega
    | (have h := euler_m ‹GRI _ _ _ _ _ _ _› ‹CON _ _ _ _ _› (by omega) ‹GRD _ _ _ _ _ _ _ _ _ _›
       omega)
set_option maxHeartbeats 4000000 in
theorem vc_Mo_cut_10_5 (x17 : Int) (x22 : Int) (gu : Int) (k17 : 0 ≤ x17 ∧ x17 ≤ 159) (k22 : 0 ≤ x22 ∧ x22 ≤ 159) (f4 : 1 * x22 + ((-1) * x17 + 0) ≤ 0) (f5 : (-1) * x22 + (1 * x17 + 0) ≤ 0) (eu2 : gu = x17) : (-1) * gu + (1 * x17 + 0) ≤ 0 := by
  first
    | omega
    | (have h := euler_m ‹GRI _ _ _ _ _ _ _› ‹CON _ _ _ _ _› (by omega) ‹GRD _ _ _ _ _ _ _ _ _ _›
       omega)
set_option maxHeartbeats 4000000 in
theorem vc_Mo_cut_10_6 (x11 : Int) (x17 : Int) (x18 : Int) (x19 : Int) (x21 : Int) (x22 : Int) (x24 : Int) (x27 : Int) (pn_0 : Int) (pt_0 : Int → Int) (ph_0 : Int → Int) (alive_0 : Int → Int) (rotMany_0 : Int → Int) (rot_0 : Int → Int) (pm_0 : Int) (gx : Int) (gy : Int) (gu : Int) (k11 : 0 ≤ x11 ∧ x11 ≤ 159) (k17 : 0 ≤ x17 ∧ x17 ≤ 159) (k18 : 0 ≤ x18 ∧ x18 ≤ 24) (k19 : 0 ≤ x19 ∧ x19 ≤ 24) (k21 : 0 ≤ x21 ∧ x21 ≤ 159) (k22 : 0 ≤ x22 ∧ x22 ≤ 159) (k24 : 0 ≤ x24 ∧ x24 ≤ 79) (k27 : 0 ≤ x27 ∧ x27 ≤ 79) (f0 : x27 = x11 / 2) (f2 : 1 * x21 + ((-1) * x11 + 0) ≤ 0) (f3 : (-1) * x21 + (1 * x11 + 0) ≤ 0) (f4 : 1 * x22 + ((-1) * x17 + 0) ≤ 0) (f5 : (-1) * x22 + (1 * x17 + 0) ≤ 0) (f12 : PUc (pn_0) (pm_0) (pt_0) (ph_0) (alive_0) (rotMany_0) (rot_0) (x18) (x19) (x21) (x22) (x24)) (kz_0_31 : 0 ≤ pn_0 ∧ pn_0 ≤ 25) (kz_0_32 : 0 ≤ pm_0 ∧ pm_0 ≤ 80) (ex2 : gx = x19) (ey2 : gy = x11) (eu2 : gu = x17) : PHA (pn_0) (pm_0) (pt_0) (ph_0) (alive_0) (rotMany_0) (rot_0) (x18) (x24) (x27) (gx) (gy) (gu) := by
  rw [ex2, ey2, eu2]
  refine ⟨?_, by omega⟩
  rw [show x11 = x21 by omega, show x17 = x22 by omega]; exact ‹PUc _ _ _ _ _ _ _ _ _ _ _ _›
def o_Mo_cut_10 : or_T := (135, 28, [(0, (2, 0, 0, [165])), (11, (0, 0, 159, [])), (17, (0, 0, 159, [])), (18, (0, 0, 24, [])), (19, (0, 0, 24, [])), (21, (0, 0, 159, [])), (22, (0, 0, 159, [])), (24, (0, 0, 79, [])), (27, (0, 0, 79, []))], [(11, [27, 11], [2]), (23, [21, 11], [0, 1, -1]), (23, [21, 11], [0, -1, 1]), (23, [22, 17], [0, 1, -1]), (23, [22, 17], [0, -1, 1]), (24, [0, 2], []), (20, [2, 18, 19, 21, 22, 24], [60, 2, 5, 249, 31, 32, 33, 34, 35, 36, 37])], [], [(0, 0, 24, []), (0, 0, 159, []), (0, 0, 159, [])], [(23, [28, 19], [0, 1, -1]), (23, [28, 19], [0, -1, 1]), (23, [29, 11], [0, 1, -1]), (23, [29, 11], [0, -1, 1]), (23, [30, 17], [0, 1, -1]), (23, [30, 17], [0, -1, 1]), (20, [2, 18, 24, 27, 28, 29, 30], [60, 2, 5, 259, 31, 32, 33, 34, 35, 36, 37])], [], [])
theorem oo_Mo_cut_10 {kA : Nat → ClassId} : or_ok PRD kA GG o_Mo_cut_10 := by
  refine or_mk fun A ta ws vs hD hth hl => ?_
  intro t0 r0 t11 k11 t17 k17 t18 k18 t19 k19 t21 k21 t22 k22 t24 k24 t27 k27 f0 f2 f3 f4 f5 f11 f12
  replace f0 := shm_585 f0
  replace f2 := shm_7 f2
  replace f3 := shm_22 f3
  replace f4 := shm_7 f4
  replace f5 := shm_22 f5
  replace f11 := shm_5 f11
  replace f12 := shm_658 f12
  have q2 : n_v vs 2 = n_v vs 0 := f11.symm
  simp only [q2] at f12
  have kz_0_31 := fdq_145 hD hth r0
  have kz_0_32 := fdq_140 hD hth r0
  obtain ⟨x, ex, hx⟩ := iv_ex (ta := ta) (lo := 0) (hi := 24) (z := v_iv (n_v vs 19)) (by omega) (by omega) (by omega) (by omega)
  have ex2 : v_iv (Value.int x) = v_iv (n_v vs 19) := ex
  have ex3 : 0 ≤ v_iv (Value.int x) ∧ v_iv (Value.int x) ≤ 24 := tv_rng hx
  obtain ⟨y, ey, hy⟩ := iv_ex (ta := ta) (lo := 0) (hi := 159) (z := v_iv (n_v vs 11)) (by omega) (by omega) (by omega) (by omega)
  have ey2 : v_iv (Value.int y) = v_iv (n_v vs 11) := ey
  have ey3 : 0 ≤ v_iv (Value.int y) ∧ v_iv (Value.int y) ≤ 159 := tv_rng hy
  obtain ⟨u, eu, hu⟩ := iv_ex (ta := ta) (lo := 0) (hi := 159) (z := v_iv (n_v vs 17)) (by omega) (by omega) (by omega) (by omega)
  have eu2 : v_iv (Value.int u) = v_iv (n_v vs 17) := eu
  have eu3 : 0 ≤ v_iv (Value.int u) ∧ v_iv (Value.int u) ≤ 159 := tv_rng hu
  have e_2 : n_v (vs ++ [Value.int x, Value.int y, Value.int u]) 2 = n_v vs 2 := n_v_old (by rw [hl]; decide)
  have e_11 : n_v (vs ++ [Value.int x, Value.int y, Value.int u]) 11 = n_v vs 11 := n_v_old (by rw [hl]; decide)
  have e_17 : n_v (vs ++ [Value.int x, Value.int y, Value.int u]) 17 = n_v vs 17 := n_v_old (by rw [hl]; decide)
  have e_18 : n_v (vs ++ [Value.int x, Value.int y, Value.int u]) 18 = n_v vs 18 := n_v_old (by rw [hl]; decide)
  have e_19 : n_v (vs ++ [Value.int x, Value.int y, Value.int u]) 19 = n_v vs 19 := n_v_old (by rw [hl]; decide)
  have e_24 : n_v (vs ++ [Value.int x, Value.int y, Value.int u]) 24 = n_v vs 24 := n_v_old (by rw [hl]; decide)
  have e_27 : n_v (vs ++ [Value.int x, Value.int y, Value.int u]) 27 = n_v vs 27 := n_v_old (by rw [hl]; decide)
  have e_28 : n_v (vs ++ [Value.int x, Value.int y, Value.int u]) 28 = Value.int x := n_v_newk (k := 0) hl rfl
  have e_29 : n_v (vs ++ [Value.int x, Value.int y, Value.int u]) 29 = Value.int y := n_v_newk (k := 1) hl rfl
  have e_30 : n_v (vs ++ [Value.int x, Value.int y, Value.int u]) 30 = Value.int u := n_v_newk (k := 2) hl rfl
  have nf0 : fc_1 PRD (23, [28, 19], [0, 1, -1]) ws (vs ++ [Value.int x, Value.int y, Value.int u]) := by
    refine ⟨nf_inA hl rfl, sgq_7 ?_⟩
    · show 1 * v_iv (n_v (vs ++ [Value.int x, Value.int y, Value.int u]) 28) + ((-1) * v_iv (n_v (vs ++ [Value.int x, Value.int y, Value.int u]) 19) + 0) ≤ 0
      simp only [e_19, e_28]
      exact vc_Mo_cut_10_0 (v_iv (n_v vs 19)) (v_iv (Value.int x)) k19 ex2
  have nf1 : fc_1 PRD (23, [28, 19], [0, -1, 1]) ws (vs ++ [Value.int x, Value.int y, Value.int u]) := by
    refine ⟨nf_inA hl rfl, sgq_22 ?_⟩
    · show (-1) * v_iv (n_v (vs ++ [Value.int x, Value.int y, Value.int u]) 28) + (1 * v_iv (n_v (vs ++ [Value.int x, Value.int y, Value.int u]) 19) + 0) ≤ 0
      simp only [e_19, e_28]
      exact vc_Mo_cut_10_1 (v_iv (n_v vs 19)) (v_iv (Value.int x)) k19 ex2
  have nf2 : fc_1 PRD (23, [29, 11], [0, 1, -1]) ws (vs ++ [Value.int x, Value.int y, Value.int u]) := by
    refine ⟨nf_inA hl rfl, sgq_7 ?_⟩
    · show 1 * v_iv (n_v (vs ++ [Value.int x, Value.int y, Value.int u]) 29) + ((-1) * v_iv (n_v (vs ++ [Value.int x, Value.int y, Value.int u]) 11) + 0) ≤ 0
      simp only [e_11, e_29]
      exact vc_Mo_cut_10_2 (v_iv (n_v vs 11)) (v_iv (n_v vs 21)) (v_iv (Value.int y)) k11 k21 f2 f3 ey2
  have nf3 : fc_1 PRD (23, [29, 11], [0, -1, 1]) ws (vs ++ [Value.int x, Value.int y, Value.int u]) := by
    refine ⟨nf_inA hl rfl, sgq_22 ?_⟩
    · show (-1) * v_iv (n_v (vs ++ [Value.int x, Value.int y, Value.int u]) 29) + (1 * v_iv (n_v (vs ++ [Value.int x, Value.int y, Value.int u]) 11) + 0) ≤ 0
      simp only [e_11, e_29]
      exact vc_Mo_cut_10_3 (v_iv (n_v vs 11)) (v_iv (n_v vs 21)) (v_iv (Value.int y)) k11 k21 f2 f3 ey2
  have nf4 : fc_1 PRD (23, [30, 17], [0, 1, -1]) ws (vs ++ [Value.int x, Value.int y, Value.int u]) := by
    refine ⟨nf_inA hl rfl, sgq_7 ?_⟩
    · show 1 * v_iv (n_v (vs ++ [Value.int x, Value.int y, Value.int u]) 30) + ((-1) * v_iv (n_v (vs ++ [Value.int x, Value.int y, Value.int u]) 17) + 0) ≤ 0
      simp only [e_17, e_30]
      exact vc_Mo_cut_10_4 (v_iv (n_v vs 17)) (v_iv (n_v vs 22)) (v_iv (Value.int u)) k17 k22 f4 f5 eu2
  have nf5 : fc_1 PRD (23, [30, 17], [0, -1, 1]) ws (vs ++ [Value.int x, Value.int y, Value.int u]) := by
    refine ⟨nf_inA hl rfl, sgq_22 ?_⟩
    · show (-1) * v_iv (n_v (vs ++ [Value.int x, Value.int y, Value.int u]) 30) + (1 * v_iv (n_v (vs ++ [Value.int x, Value.int y, Value.int u]) 17) + 0) ≤ 0
      simp only [e_17, e_30]
      exact vc_Mo_cut_10_5 (v_iv (n_v vs 17)) (v_iv (n_v vs 22)) (v_iv (Value.int u)) k17 k22 f4 f5 eu2
  have nf6 : fc_1 PRD (20, [2, 18, 24, 27, 28, 29, 30], [60, 2, 5, 259, 31, 32, 33, 34, 35, 36, 37]) ws (vs ++ [Value.int x, Value.int y, Value.int u]) := by
    refine ⟨nf_inA hl rfl, sgq_1016 ?_⟩
    · show PHA (w_fi ws (n_v (vs ++ [Value.int x, Value.int y, Value.int u]) 2) 31) (w_fi ws (n_v (vs ++ [Value.int x, Value.int y, Value.int u]) 2) 32) (w_ei ws (w_ar ws (n_v (vs ++ [Value.int x, Value.int y, Value.int u]) 2) 33)) (w_ei ws (w_ar ws (n_v (vs ++ [Value.int x, Value.int y, Value.int u]) 2) 34)) (w_ei ws (w_ar ws (n_v (vs ++ [Value.int x, Value.int y, Value.int u]) 2) 35)) (w_ei ws (w_ar ws (n_v (vs ++ [Value.int x, Value.int y, Value.int u]) 2) 36)) (w_ei ws (w_ar ws (n_v (vs ++ [Value.int x, Value.int y, Value.int u]) 2) 37)) (v_iv (n_v (vs ++ [Value.int x, Value.int y, Value.int u]) 18)) (v_iv (n_v (vs ++ [Value.int x, Value.int y, Value.int u]) 24)) (v_iv (n_v (vs ++ [Value.int x, Value.int y, Value.int u]) 27)) (v_iv (n_v (vs ++ [Value.int x, Value.int y, Value.int u]) 28)) (v_iv (n_v (vs ++ [Value.int x, Value.int y, Value.int u]) 29)) (v_iv (n_v (vs ++ [Value.int x, Value.int y, Value.int u]) 30))
      simp only [e_2, e_18, e_24, e_27, e_28, e_29, e_30, q2]
      exact vc_Mo_cut_10_6 (v_iv (n_v vs 11)) (v_iv (n_v vs 17)) (v_iv (n_v vs 18)) (v_iv (n_v vs 19)) (v_iv (n_v vs 21)) (v_iv (n_v vs 22)) (v_iv (n_v vs 24)) (v_iv (n_v vs 27)) (w_fi ws (n_v vs 0) 31) (w_ei ws (w_ar ws (n_v vs 0) 33)) (w_ei ws (w_ar ws (n_v vs 0) 34)) (w_ei ws (w_ar ws (n_v vs 0) 35)) (w_ei ws (w_ar ws (n_v vs 0) 36)) (w_ei ws (w_ar ws (n_v vs 0) 37)) (w_fi ws (n_v vs 0) 32) (v_iv (Value.int x)) (v_iv (Value.int y)) (v_iv (Value.int u)) k11 k17 k18 k19 k21 k22 k24 k27 f0 f2 f3 f4 f5 f12 kz_0_31 kz_0_32 ex2 ey2 eu2
  exact ⟨(fun _ h => (by cases h)), [Value.int x, Value.int y, Value.int u], ag_three hx hy hu, List.forall_mem_cons.mpr ⟨⟨show (23 : Nat) < 100 from by decide, nf0⟩, List.forall_mem_cons.mpr ⟨⟨show (23 : Nat) < 100 from by decide, nf1⟩, List.forall_mem_cons.mpr ⟨⟨show (23 : Nat) < 100 from by decide, nf2⟩, List.forall_mem_cons.mpr ⟨⟨show (23 : Nat) < 100 from by decide, nf3⟩, List.forall_mem_cons.mpr ⟨⟨show (23 : Nat) < 100 from by decide, nf4⟩, List.forall_mem_cons.mpr ⟨⟨show (23 : Nat) < 100 from by decide, nf5⟩, List.forall_mem_cons.mpr ⟨⟨show (20 : Nat) < 100 from by decide, nf6⟩, (fun _ h => (by cases h))⟩⟩⟩⟩⟩⟩⟩, (fun _ h => (by cases h))⟩
set_option maxHeartbeats 4000000 in
theorem vc_Mo_cut_11_0 (x18 : Int) (gx : Int) (k18 : 0 ≤ x18 ∧ x18 ≤ 24) (ex2 : gx = x18) : 1 * gx + ((-1) * x18 + 0) ≤ 0 := by
  first
    | omega
    | (have h := euler_m ‹GRI _ _ _ _ _ _ _› ‹CON _ _ _ _ _› (by omega) ‹GRD _ _ _ _ _ _ _ _ _ _›
       omega)
set_option maxHeartbeats 4000000 in
theorem vc_Mo_cut_11_1 (x18 : Int) (gx : Int) (k18 : 0 ≤ x18 ∧ x18 ≤ 24) (ex2 : gx = x18) : (-1) * gx + (1 * x18 + 0) ≤ 0 := by
  first
    | omega
    | (have h := euler_m ‹GRI _ _ _ _ _ _ _› ‹CON _ _ _ _ _› (by omega) ‹GRD _ _ _ _ _ _ _ _ _ _›
       omega)
set_option maxHeartbeats 4000000 in
theorem vc_Mo_cut_11_2 (x11 : Int) (x29 : Int) (gy : Int) (k11 : 0 ≤ x11 ∧ x11 ≤ 159) (k29 : 0 ≤ x29 ∧ x29 ≤ 159) (f4 : 1 * x29 + ((-1) * x11 + 0) ≤ 0) (f5 : (-1) * x29 + (1 * x11 + 0) ≤ 0) (ey2 : gy = x11) : 1 * gy + ((-1) * x11 + 0) ≤ 0 := by
  first
    | omega
    | (have h := euler_m ‹GRI _ _ _ _ _ _ _› ‹CON _ _ _ _ _› (by omega) ‹GRD _ _ _ _ _ _ _ _ _ _›
       omega)
set_option maxHeartbeats 4000000 in
theorem vc_Mo_cut_11_3 (x11 : Int) (x29 : Int) (gy : Int) (k11 : 0 ≤ x11 ∧ x11 ≤ 159) (k29 : 0 ≤ x29 ∧ x29 ≤ 159) (f4 : 1 * x29 + ((-1) * x11 + 0) ≤ 0) (f5 : (-1) * x29 + (1 * x11 + 0) ≤ 0) (ey2 : gy = x11) : (-1) * gy + (1 * x11 + 0) ≤ 0 := by
  first
    | omega
    | (have h := euler_m ‹GRI _ _ _ _ _ _ _› ‹CON _ _ _ _ _› (by omega) ‹GRD _ _ _ _ _ _ _ _ _ _›
       omega)
set_option maxHeartbeats 4000000 in
theorem vc_Mo_cut_11_4 (x17 : Int) (x30 : Int) (gu : Int) (k17 : 0 ≤ x17 ∧ x17 ≤ 159) (k30 : 0 ≤ x30 ∧ x30 ≤ 159) (f6 : 1 * x30 + ((-1) * x17 + 0) ≤ 0) (f7 : (-1) * x30 + (1 * x17 + 0) ≤ 0) (eu2 : gu = x17) : 1 * gu + ((-1) * x17 + 0) ≤ 0 := by
  first
    | omega
    | (have h := euler_m ‹GRI _ _ _ _ _ _ _› ‹CON _ _ _ _ _› (by omega) ‹GRD _ _ _ _ _ _ _ _ _ _›
       omega)
set_option maxHeartbeats 4000000 in
theorem vc_Mo_cut_11_5 (x17 : Int) (x30 : Int) (gu : Int) (k17 : 0 ≤ x17 ∧ x17 ≤ 159) (k30 : 0 ≤ x30 ∧ x30 ≤ 159) (f6 : 1 * x30 + ((-1) * x17 + 0) ≤ 0) (f7 : (-1) * x30 + (1 * x17 + 0) ≤ 0) (eu2 : gu = x17) : (-1) * gu + (1 * x17 + 0) ≤ 0 := by
  first
    | omega
    | (have h := euler_m ‹GRI _ _ _ _ _ _ _› ‹CON _ _ _ _ _› (by omega) ‹GRD _ _ _ _ _ _ _ _ _ _›
       omega)
set_option maxHeartbeats 4000000 in
theorem vc_Mo_cut_11_6 (x11 : Int) (x17 : Int) (x18 : Int) (x19 : Int) (x24 : Int) (x28 : Int) (x29 : Int) (x30 : Int) (x32 : Int) (pn_0 : Int) (pt_0 : Int → Int) (ph_0 : Int → Int) (alive_0 : Int → Int) (pm_0 : Int) (rotMany_0 : Int → Int) (rot_0 : Int → Int) (gx : Int) (gy : Int) (gu : Int) (k11 : 0 ≤ x11 ∧ x11 ≤ 159) (k17 : 0 ≤ x17 ∧ x17 ≤ 159) (k18 : 0 ≤ x18 ∧ x18 ≤ 24) (k19 : 0 ≤ x19 ∧ x19 ≤ 24) (k24 : 0 ≤ x24 ∧ x24 ≤ 79) (k28 : 0 ≤ x28 ∧ x28 ≤ 24) (k29 : 0 ≤ x29 ∧ x29 ≤ 159) (k30 : 0 ≤ x30 ∧ x30 ≤ 159) (k32 : 0 ≤ x32 ∧ x32 ≤ 79) (f0 : x32 = x17 / 2) (f2 : 1 * x28 + ((-1) * x19 + 0) ≤ 0) (f3 : (-1) * x28 + (1 * x19 + 0) ≤ 0) (f4 : 1 * x29 + ((-1) * x11 + 0) ≤ 0) (f5 : (-1) * x29 + (1 * x11 + 0) ≤ 0) (f6 : 1 * x30 + ((-1) * x17 + 0) ≤ 0) (f7 : (-1) * x30 + (1 * x17 + 0) ≤ 0) (f20 : PUd (pn_0) (pm_0) (pt_0) (ph_0) (alive_0) (rotMany_0) (rot_0) (x18) (x28) (x29) (x30) (x24)) (kz_0_31 : 0 ≤ pn_0 ∧ pn_0 ≤ 25) (kz_0_32 : 0 ≤ pm_0 ∧ pm_0 ≤ 80) (ex2 : gx = x18) (ey2 : gy = x11) (eu2 : gu = x17) : PHB (pn_0) (pm_0) (pt_0) (ph_0) (alive_0) (rotMany_0) (rot_0) (x19) (x24) (x32) (gx) (gy) (gu) := by
  rw [ex2, ey2, eu2]
  refine ⟨?_, by omega⟩
  rw [show x19 = x28 by omega, show x11 = x29 by omega, show x17 = x30 by omega]; exact ‹PUd _ _ _ _ _ _ _ _ _ _ _ _›
def o_Mo_cut_11 : or_T := (147, 33, [(0, (2, 0, 0, [165])), (11, (0, 0, 159, [])), (17, (0, 0, 159, [])), (18, (0, 0, 24, [])), (19, (0, 0, 24, [])), (24, (0, 0, 79, [])), (28, (0, 0, 24, [])), (29, (0, 0, 159, [])), (30, (0, 0, 159, [])), (32, (0, 0, 79, []))], [(11, [32, 17], [2]), (23, [28, 19], [0, 1, -1]), (23, [28, 19], [0, -1, 1]), (23, [29, 11], [0, 1, -1]), (23, [29, 11], [0, -1, 1]), (23, [30, 17], [0, 1, -1]), (23, [30, 17], [0, -1, 1]), (24, [0, 2], []), (20, [2, 18, 28, 29, 30, 24], [60, 2, 5, 250, 31, 32, 33, 34, 35, 36, 37])], [], [(0, 0, 24, []), (0, 0, 159, []), (0, 0, 159, [])], [(23, [33, 18], [0, 1, -1]), (23, [33, 18], [0, -1, 1]), (23, [34, 11], [0, 1, -1]), (23, [34, 11], [0, -1, 1]), (23, [35, 17], [0, 1, -1]), (23, [35, 17], [0, -1, 1]), (20, [2, 19, 24, 32, 33, 34, 35], [60, 2, 5, 260, 31, 32, 33, 34, 35, 36, 37])], [], [])
theorem oo_Mo_cut_11 {kA : Nat → ClassId} : or_ok PRD kA GG o_Mo_cut_11 := by
  refine or_mk fun A ta ws vs hD hth hl => ?_
  intro t0 r0 t11 k11 t17 k17 t18 k18 t19 k19 t24 k24 t28 k28 t29 k29 t30 k30 t32 k32 f0 f2 f3 f4 f5 f6 f7 f17 f20
  replace f0 := shm_585 f0
  replace f2 := shm_7 f2
  replace f3 := shm_22 f3
  replace f4 := shm_7 f4
  replace f5 := shm_22 f5
  replace f6 := shm_7 f6
  replace f7 := shm_22 f7
  replace f17 := shm_5 f17
  replace f20 := shm_694 f20
  have q2 : n_v vs 2 = n_v vs 0 := f17.symm
  simp only [q2] at f20
  have kz_0_31 := fdq_145 hD hth r0
  have kz_0_32 := fdq_140 hD hth r0
  obtain ⟨x, ex, hx⟩ := iv_ex (ta := ta) (lo := 0) (hi := 24) (z := v_iv (n_v vs 18)) (by omega) (by omega) (by omega) (by omega)
  have ex2 : v_iv (Value.int x) = v_iv (n_v vs 18) := ex
  have ex3 : 0 ≤ v_iv (Value.int x) ∧ v_iv (Value.int x) ≤ 24 := tv_rng hx
  obtain ⟨y, ey, hy⟩ := iv_ex (ta := ta) (lo := 0) (hi := 159) (z := v_iv (n_v vs 11)) (by omega) (by omega) (by omega) (by omega)
  have ey2 : v_iv (Value.int y) = v_iv (n_v vs 11) := ey
  have ey3 : 0 ≤ v_iv (Value.int y) ∧ v_iv (Value.int y) ≤ 159 := tv_rng hy
  obtain ⟨u, eu, hu⟩ := iv_ex (ta := ta) (lo := 0) (hi := 159) (z := v_iv (n_v vs 17)) (by omega) (by omega) (by omega) (by omega)
  have eu2 : v_iv (Value.int u) = v_iv (n_v vs 17) := eu
  have eu3 : 0 ≤ v_iv (Value.int u) ∧ v_iv (Value.int u) ≤ 159 := tv_rng hu
  have e_2 : n_v (vs ++ [Value.int x, Value.int y, Value.int u]) 2 = n_v vs 2 := n_v_old (by rw [hl]; decide)
  have e_11 : n_v (vs ++ [Value.int x, Value.int y, Value.int u]) 11 = n_v vs 11 := n_v_old (by rw [hl]; decide)
  have e_17 : n_v (vs ++ [Value.int x, Value.int y, Value.int u]) 17 = n_v vs 17 := n_v_old (by rw [hl]; decide)
  have e_18 : n_v (vs ++ [Value.int x, Value.int y, Value.int u]) 18 = n_v vs 18 := n_v_old (by rw [hl]; decide)
  have e_19 : n_v (vs ++ [Value.int x, Value.int y, Value.int u]) 19 = n_v vs 19 := n_v_old (by rw [hl]; decide)
  have e_24 : n_v (vs ++ [Value.int x, Value.int y, Value.int u]) 24 = n_v vs 24 := n_v_old (by rw [hl]; decide)
  have e_32 : n_v (vs ++ [Value.int x, Value.int y, Value.int u]) 32 = n_v vs 32 := n_v_old (by rw [hl]; decide)
  have e_33 : n_v (vs ++ [Value.int x, Value.int y, Value.int u]) 33 = Value.int x := n_v_newk (k := 0) hl rfl
  have e_34 : n_v (vs ++ [Value.int x, Value.int y, Value.int u]) 34 = Value.int y := n_v_newk (k := 1) hl rfl
  have e_35 : n_v (vs ++ [Value.int x, Value.int y, Value.int u]) 35 = Value.int u := n_v_newk (k := 2) hl rfl
  have nf0 : fc_1 PRD (23, [33, 18], [0, 1, -1]) ws (vs ++ [Value.int x, Value.int y, Value.int u]) := by
    refine ⟨nf_inA hl rfl, sgq_7 ?_⟩
    · show 1 * v_iv (n_v (vs ++ [Value.int x, Value.int y, Value.int u]) 33) + ((-1) * v_iv (n_v (vs ++ [Value.int x, Value.int y, Value.int u]) 18) + 0) ≤ 0
      simp only [e_18, e_33]
      exact vc_Mo_cut_11_0 (v_iv (n_v vs 18)) (v_iv (Value.int x)) k18 ex2
  have nf1 : fc_1 PRD (23, [33, 18], [0, -1, 1]) ws (vs ++ [Value.int x, Value.int y, Value.int u]) := by
    refine ⟨nf_inA hl rfl, sgq_22 ?_⟩
    · show (-1) * v_iv (n_v (vs ++ [Value.int x, Value.int y, Value.int u]) 33) + (1 * v_iv (n_v (vs ++ [Value.int x, Value.int y, Value.int u]) 18) + 0) ≤ 0
      simp only [e_18, e_33]
      exact vc_Mo_cut_11_1 (v_iv (n_v vs 18)) (v_iv (Value.int x)) k18 ex2
  have nf2 : fc_1 PRD (23, [34, 11], [0, 1, -1]) ws (vs ++ [Value.int x, Value.int y, Value.int u]) := by
    refine ⟨nf_inA hl rfl, sgq_7 ?_⟩
    · show 1 * v_iv (n_v (vs ++ [Value.int x, Value.int y, Value.int u]) 34) + ((-1) * v_iv (n_v (vs ++ [Value.int x, Value.int y, Value.int u]) 11) + 0) ≤ 0
      simp only [e_11, e_34]
      exact vc_Mo_cut_11_2 (v_iv (n_v vs 11)) (v_iv (n_v vs 29)) (v_iv (Value.int y)) k11 k29 f4 f5 ey2
  have nf3 : fc_1 PRD (23, [34, 11], [0, -1, 1]) ws (vs ++ [Value.int x, Value.int y, Value.int u]) := by
    refine ⟨nf_inA hl rfl, sgq_22 ?_⟩
    · show (-1) * v_iv (n_v (vs ++ [Value.int x, Value.int y, Value.int u]) 34) + (1 * v_iv (n_v (vs ++ [Value.int x, Value.int y, Value.int u]) 11) + 0) ≤ 0
      simp only [e_11, e_34]
      exact vc_Mo_cut_11_3 (v_iv (n_v vs 11)) (v_iv (n_v vs 29)) (v_iv (Value.int y)) k11 k29 f4 f5 ey2
  have nf4 : fc_1 PRD (23, [35, 17], [0, 1, -1]) ws (vs ++ [Value.int x, Value.int y, Value.int u]) := by
    refine ⟨nf_inA hl rfl, sgq_7 ?_⟩
    · show 1 * v_iv (n_v (vs ++ [Value.int x, Value.int y, Value.int u]) 35) + ((-1) * v_iv (n_v (vs ++ [Value.int x, Value.int y, Value.int u]) 17) + 0) ≤ 0
      simp only [e_17, e_35]
      exact vc_Mo_cut_11_4 (v_iv (n_v vs 17)) (v_iv (n_v vs 30)) (v_iv (Value.int u)) k17 k30 f6 f7 eu2
  have nf5 : fc_1 PRD (23, [35, 17], [0, -1, 1]) ws (vs ++ [Value.int x, Value.int y, Value.int u]) := by
    refine ⟨nf_inA hl rfl, sgq_22 ?_⟩
    · show (-1) * v_iv (n_v (vs ++ [Value.int x, Value.int y, Value.int u]) 35) + (1 * v_iv (n_v (vs ++ [Value.int x, Value.int y, Value.int u]) 17) + 0) ≤ 0
      simp only [e_17, e_35]
      exact vc_Mo_cut_11_5 (v_iv (n_v vs 17)) (v_iv (n_v vs 30)) (v_iv (Value.int u)) k17 k30 f6 f7 eu2
  have nf6 : fc_1 PRD (20, [2, 19, 24, 32, 33, 34, 35], [60, 2, 5, 260, 31, 32, 33, 34, 35, 36, 37]) ws (vs ++ [Value.int x, Value.int y, Value.int u]) := by
    refine ⟨nf_inA hl rfl, sgq_1018 ?_⟩
    · show PHB (w_fi ws (n_v (vs ++ [Value.int x, Value.int y, Value.int u]) 2) 31) (w_fi ws (n_v (vs ++ [Value.int x, Value.int y, Value.int u]) 2) 32) (w_ei ws (w_ar ws (n_v (vs ++ [Value.int x, Value.int y, Value.int u]) 2) 33)) (w_ei ws (w_ar ws (n_v (vs ++ [Value.int x, Value.int y, Value.int u]) 2) 34)) (w_ei ws (w_ar ws (n_v (vs ++ [Value.int x, Value.int y, Value.int u]) 2) 35)) (w_ei ws (w_ar ws (n_v (vs ++ [Value.int x, Value.int y, Value.int u]) 2) 36)) (w_ei ws (w_ar ws (n_v (vs ++ [Value.int x, Value.int y, Value.int u]) 2) 37)) (v_iv (n_v (vs ++ [Value.int x, Value.int y, Value.int u]) 19)) (v_iv (n_v (vs ++ [Value.int x, Value.int y, Value.int u]) 24)) (v_iv (n_v (vs ++ [Value.int x, Value.int y, Value.int u]) 32)) (v_iv (n_v (vs ++ [Value.int x, Value.int y, Value.int u]) 33)) (v_iv (n_v (vs ++ [Value.int x, Value.int y, Value.int u]) 34)) (v_iv (n_v (vs ++ [Value.int x, Value.int y, Value.int u]) 35))
      simp only [e_2, e_19, e_24, e_32, e_33, e_34, e_35, q2]
      exact vc_Mo_cut_11_6 (v_iv (n_v vs 11)) (v_iv (n_v vs 17)) (v_iv (n_v vs 18)) (v_iv (n_v vs 19)) (v_iv (n_v vs 24)) (v_iv (n_v vs 28)) (v_iv (n_v vs 29)) (v_iv (n_v vs 30)) (v_iv (n_v vs 32)) (w_fi ws (n_v vs 0) 31) (w_ei ws (w_ar ws (n_v vs 0) 33)) (w_ei ws (w_ar ws (n_v vs 0) 34)) (w_ei ws (w_ar ws (n_v vs 0) 35)) (w_fi ws (n_v vs 0) 32) (w_ei ws (w_ar ws (n_v vs 0) 36)) (w_ei ws (w_ar ws (n_v vs 0) 37)) (v_iv (Value.int x)) (v_iv (Value.int y)) (v_iv (Value.int u)) k11 k17 k18 k19 k24 k28 k29 k30 k32 f0 f2 f3 f4 f5 f6 f7 f20 kz_0_31 kz_0_32 ex2 ey2 eu2
  exact ⟨(fun _ h => (by cases h)), [Value.int x, Value.int y, Value.int u], ag_three hx hy hu, List.forall_mem_cons.mpr ⟨⟨show (23 : Nat) < 100 from by decide, nf0⟩, List.forall_mem_cons.mpr ⟨⟨show (23 : Nat) < 100 from by decide, nf1⟩, List.forall_mem_cons.mpr ⟨⟨show (23 : Nat) < 100 from by decide, nf2⟩, List.forall_mem_cons.mpr ⟨⟨show (23 : Nat) < 100 from by decide, nf3⟩, List.forall_mem_cons.mpr ⟨⟨show (23 : Nat) < 100 from by decide, nf4⟩, List.forall_mem_cons.mpr ⟨⟨show (23 : Nat) < 100 from by decide, nf5⟩, List.forall_mem_cons.mpr ⟨⟨show (20 : Nat) < 100 from by decide, nf6⟩, (fun _ h => (by cases h))⟩⟩⟩⟩⟩⟩⟩, (fun _ h => (by cases h))⟩
set_option maxHeartbeats 4000000 in
theorem vc_Mo_cut_12_0 (pn_0 : Int) (pt_0 : Int → Int) (ph_0 : Int → Int) (alive_0 : Int → Int) (pm_0 : Int) (rotMany_0 : Int → Int) (rot_0 : Int → Int) (f8 : GRI (pn_0) (pm_0) (pt_0) (ph_0) (alive_0) (rotMany_0) (rot_0)) (kz_0_31 : 0 ≤ pn_0 ∧ pn_0 ≤ 25) (kz_0_32 : 0 ≤ pm_0 ∧ pm_0 ≤ 80) : GRI (pn_0) (pm_0) (pt_0) (ph_0) (alive_0) (rotMany_0) (rot_0) := by
  assumption
set_option maxHeartbeats 4000000 in
theorem vc_Mo_cut_12_1 (pn_0 : Int) (pt_0 : Int → Int) (ph_0 : Int → Int) (alive_0 : Int → Int) (pm_0 : Int) (f6 : CON (pn_0) (pm_0) (pt_0) (ph_0) (alive_0)) (kz_0_31 : 0 ≤ pn_0 ∧ pn_0 ≤ 25) (kz_0_32 : 0 ≤ pm_0 ∧ pm_0 ≤ 80) : CON (pn_0) (pm_0) (pt_0) (ph_0) (alive_0) := by
  assumption
set_option maxHeartbeats 4000000 in
theorem vc_Mo_cut_12_2 (x36 : Int) (pt_0 : Int → Int) (ph_0 : Int → Int) (alive_0 : Int → Int) (pm_0 : Int) (rotMany_0 : Int → Int) (rot_0 : Int → Int) (k36 : 1 ≤ x36 ∧ x36 ≤ 1) (kz_0_32 : 0 ≤ pm_0 ∧ pm_0 ≤ 80) : CUA (pm_0) (pt_0) (ph_0) (alive_0) (rotMany_0) (rot_0) (x36) := by
  first
    | exact fun _ => ftr_of ‹GRI _ _ _ _ _ _ _› ‹CON _ _ _ _ _› (by omega) ‹GRD _ _ _ _ _ _ _ _ _ _› ‹CT1 _ _› (by omega)
    | (intro z; exfalso; omega)
set_option maxHeartbeats 4000000 in
theorem vc_Mo_cut_12_3 (x1 : Int) (x23 : Int) (x36 : Int) (pm_0 : Int) (k1 : 0 ≤ x1 ∧ x1 ≤ 80) (k23 : 0 ≤ x23 ∧ x23 ≤ 80) (k36 : 1 ≤ x36 ∧ x36 ≤ 1) (f0 : 1 * x23 + ((-1) * x1 + 0) ≤ 0) (f1 : (-1) * x23 + (1 * x1 + 0) ≤ 0) (f7 : pm_0 = (x23 + 1)) (kz_0_32 : 0 ≤ pm_0 ∧ pm_0 ≤ 80) : (x36 ≠ 0) → (pm_0 = (x1 + 1)) := by
  first
    | omega
    | (have h := euler_m ‹GRI _ _ _ _ _ _ _› ‹CON _ _ _ _ _› (by omega) ‹GRD _ _ _ _ _ _ _ _ _ _›
       omega)
set_option maxHeartbeats 4000000 in
theorem vc_Mo_cut_12_4 (x1 : Int) (x36 : Int) (pm_0 : Int) (k1 : 0 ≤ x1 ∧ x1 ≤ 80) (k36 : 1 ≤ x36 ∧ x36 ≤ 1) (kz_0_32 : 0 ≤ pm_0 ∧ pm_0 ≤ 80) : (x36 = 0) → (pm_0 = x1) := by
  first
    | omega
    | (have h := euler_m ‹GRI _ _ _ _ _ _ _› ‹CON _ _ _ _ _› (by omega) ‹GRD _ _ _ _ _ _ _ _ _ _›
       omega)
def o_Mo_cut_12 : or_T := (151, 37, [(0, (2, 0, 0, [165])), (1, (0, 0, 80, [])), (23, (0, 0, 80, [])), (36, (0, 1, 1, []))], [(23, [23, 1], [0, 1, -1]), (23, [23, 1], [0, -1, 1]), (24, [0, 2], []), (20, [2], [60, 2, 3, 264, 31, 32, 33, 34, 35]), (20, [2, 23], [50, 1, 0, 32, 1, 3, 2, 0, 32, 4, 2, 1, 1, 0, 1]), (20, [2], [60, 2, 5, 261, 31, 32, 33, 34, 35, 36, 37])], [], [], [(20, [0], [60, 2, 5, 261, 31, 32, 33, 34, 35, 36, 37]), (20, [0], [60, 2, 3, 264, 31, 32, 33, 34, 35]), (20, [0, 36], [60, 1, 5, 273, 32, 33, 34, 35, 36, 37]), (20, [36, 0, 1], [50, 1, 0, 1032, 4, 6, 7, 2, 1, 0, 0, 0, 1, 3, 2, 1, 32, 4, 2, 1, 2, 0, 1]), (20, [36, 0, 1], [50, 1, 0, 1032, 4, 6, 1, 2, 1, 0, 0, 0, 1, 3, 2, 1, 32, 1, 2])], [], [])
theorem oo_Mo_cut_12 {kA : Nat → ClassId} : or_ok PRD kA GG o_Mo_cut_12 := by
  refine or_mk fun A ta ws vs hD hth hl => ?_
  intro t0 r0 t1 k1 t23 k23 t36 k36 f0 f1 f5 f6 f7 f8
  replace f5 := shm_5 f5
  replace f6 := shm_656 f6
  replace f7 := shm_659 f7
  replace f8 := shm_691 f8
  have q2 : n_v vs 2 = n_v vs 0 := f5.symm
  simp only [q2] at f6 f7 f8
  have kz_0_31 := fdq_145 hD hth r0
  have kz_0_32 := fdq_140 hD hth r0
  have nf0 : fc_1 PRD (20, [0], [60, 2, 5, 261, 31, 32, 33, 34, 35, 36, 37]) ws (vs) := ⟨nf_in hl rfl, sgq_691 (vc_Mo_cut_12_0 (w_fi ws (n_v vs 0) 31) (w_ei ws (w_ar ws (n_v vs 0) 33)) (w_ei ws (w_ar ws (n_v vs 0) 34)) (w_ei ws (w_ar ws (n_v vs 0) 35)) (w_fi ws (n_v vs 0) 32) (w_ei ws (w_ar ws (n_v vs 0) 36)) (w_ei ws (w_ar ws (n_v vs 0) 37)) f8 kz_0_31 kz_0_32)⟩
  have nf1 : fc_1 PRD (20, [0], [60, 2, 3, 264, 31, 32, 33, 34, 35]) ws (vs) := ⟨nf_in hl rfl, sgq_656 (vc_Mo_cut_12_1 (w_fi ws (n_v vs 0) 31) (w_ei ws (w_ar ws (n_v vs 0) 33)) (w_ei ws (w_ar ws (n_v vs 0) 34)) (w_ei ws (w_ar ws (n_v vs 0) 35)) (w_fi ws (n_v vs 0) 32) f6 kz_0_31 kz_0_32)⟩
  have nf2 : fc_1 PRD (20, [0, 36], [60, 1, 5, 273, 32, 33, 34, 35, 36, 37]) ws (vs) := ⟨nf_in hl rfl, sgq_1823 (vc_Mo_cut_12_2 (v_iv (n_v vs 36)) (w_ei ws (w_ar ws (n_v vs 0) 33)) (w_ei ws (w_ar ws (n_v vs 0) 34)) (w_ei ws (w_ar ws (n_v vs 0) 35)) (w_fi ws (n_v vs 0) 32) (w_ei ws (w_ar ws (n_v vs 0) 36)) (w_ei ws (w_ar ws (n_v vs 0) 37)) k36 kz_0_32)⟩
  have nf3 : fc_1 PRD (20, [36, 0, 1], [50, 1, 0, 1032, 4, 6, 7, 2, 1, 0, 0, 0, 1, 3, 2, 1, 32, 4, 2, 1, 2, 0, 1]) ws (vs) := ⟨nf_in hl rfl, sgq_1824 (vc_Mo_cut_12_3 (v_iv (n_v vs 1)) (v_iv (n_v vs 23)) (v_iv (n_v vs 36)) (w_fi ws (n_v vs 0) 32) k1 k23 k36 (shm_7 f0) (shm_22 f1) f7 kz_0_32)⟩
  have nf4 : fc_1 PRD (20, [36, 0, 1], [50, 1, 0, 1032, 4, 6, 1, 2, 1, 0, 0, 0, 1, 3, 2, 1, 32, 1, 2]) ws (vs) := ⟨nf_in hl rfl, sgq_1825 (vc_Mo_cut_12_4 (v_iv (n_v vs 1)) (v_iv (n_v vs 36)) (w_fi ws (n_v vs 0) 32) k1 k36 kz_0_32)⟩
  refine ⟨(fun _ h => (by cases h)), [], trivial, ?_, (fun _ h => (by cases h))⟩
  rw [List.append_nil]
  exact List.forall_mem_cons.mpr ⟨⟨show (20 : Nat) < 100 from by decide, nf0⟩, List.forall_mem_cons.mpr ⟨⟨show (20 : Nat) < 100 from by decide, nf1⟩, List.forall_mem_cons.mpr ⟨⟨show (20 : Nat) < 100 from by decide, nf2⟩, List.forall_mem_cons.mpr ⟨⟨show (20 : Nat) < 100 from by decide, nf3⟩, List.forall_mem_cons.mpr ⟨⟨show (20 : Nat) < 100 from by decide, nf4⟩, (fun _ h => (by cases h))⟩⟩⟩⟩⟩
set_option maxHeartbeats 4000000 in
theorem vc_Mo_cut_13_0 (x3 : Int) (x4 : Int) (x5 : Int) (x9 : Int) (x10 : Int) (x11 : Int) (x12 : Int) (x14 : Int) (x15 : Int) (x16 : Int) (x17 : Int) (x18 : Int) (x19 : Int) (x20 : Int) (x21 : Int) (pt_0 : Int → Int) (ph_0 : Int → Int) (alive_0 : Int → Int) (pm_0 : Int) (roundDart_0 : Int → Int) (roundBegin_0 : Int → Int) (k3 : 0 ≤ x3 ∧ x3 ≤ 159) (k4 : 4 ≤ x4 ∧ x4 ≤ 160) (k5 : 0 ≤ x5 ∧ x5 ≤ 159) (k9 : 0 ≤ x9 ∧ x9 ≤ 160) (k10 : 0 ≤ x10 ∧ x10 ≤ 159) (k11 : 0 ≤ x11 ∧ x11 ≤ 159) (k12 : 0 ≤ x12 ∧ x12 ≤ 160) (k14 : 1 ≤ x14 ∧ x14 ≤ 160) (k15 : 0 ≤ x15 ∧ x15 ≤ 159) (k16 : 0 ≤ x16 ∧ x16 ≤ 159) (k17 : 0 ≤ x17 ∧ x17 ≤ 159) (k18 : 0 ≤ x18 ∧ x18 ≤ 24) (k19 : 0 ≤ x19 ∧ x19 ≤ 24) (k20 : 0 ≤ x20 ∧ x20 ≤ 79) (k21 : 1 ≤ x21 ∧ x21 ≤ 160) (d0 : x5 + 1 ≤ x21 ∧ x21 ≤ x5 + 1) (d5 : x5 + 1 ≤ x14 ∧ x14 ≤ x5 + 1) (f0 : x21 = x5 + 1) (f1 : 0 ≤ x20) (f2 : EOF (pm_0) (pt_0) (ph_0) (alive_0) (x18) (x19) (x20)) (f4 : DTO (pt_0) (ph_0) (x17) (x19)) (f5 : DFR (pt_0) (ph_0) (x11) (x18)) (h6 : x17 = roundDart_0 (x16)) (f7 : x16 = x12 + x15) (f8 : x15 = Int.tmod (x14) (x4)) (h10 : x12 = roundBegin_0 (x3)) (h13 : x11 = roundDart_0 (x10)) (f14 : x10 = x9 + x5) (h15 : x9 = roundBegin_0 (x3)) (f16 : x5 < x4) (f24 : CT2 (pm_0) (pt_0) (ph_0) (alive_0) (roundBegin_0) (roundDart_0) (x3) (x4) (x5)) (kz_0_32 : 0 ≤ pm_0 ∧ pm_0 ≤ 80) : CT2 (pm_0) (pt_0) (ph_0) (alive_0) (roundBegin_0) (roundDart_0) (x3) (x4) (x21) := by
  first
    | exact ⟨⟨by rw [← (by omega : x8 = x3 + 1)]; omega, by omega⟩, fun t a b => by exfalso; omega⟩
    | (have e1 : x15 = nr x4 x5 := by
         rw [‹x15 = Int.tmod x14 x4›, Int.tmod_eq_emod_of_nonneg (by omega), show x14 = x5 + 1 by omega]; exact nr_m1 (by omega) (by omega)
       exact ct2_next (d := x11) (x := x17) (r := 0) ‹CT2 _ _ _ _ _ _ _ _ _› (by omega) (by rw [← (by omega : x10 = roundBegin_0 x3 + x5)]; assumption) (by rw [← e1, ← (by omega : x16 = roundBegin_0 x3 + x15)]; assumption) ‹DFR _ _ _ _› ‹DTO _ _ _ _› (Or.inl (by omega)))
    | (have e1 : x15 = nr x4 x5 := by
         rw [‹x15 = Int.tmod x14 x4›, Int.tmod_eq_emod_of_nonneg (by omega), show x14 = x5 + 1 by omega]; exact nr_m1 (by omega) (by omega)
       exact ct2_next (d := x11) (x := x17) ‹CT2 _ _ _ _ _ _ _ _ _› (by omega) (by rw [← (by omega : x10 = roundBegin_0 x3 + x5)]; assumption) (by rw [← e1, ← (by omega : x16 = roundBegin_0 x3 + x15)]; assumption) ‹DFR _ _ _ _› ‹DTO _ _ _ _› (Or.inr ⟨‹EOF _ _ _ _ _ _ _›, by omega⟩))
def o_Mo_cut_13 : or_T := (40, 22, [(0, (2, 0, 0, [165])), (3, (0, 0, 159, [])), (4, (0, 4, 160, [])), (5, (0, 0, 159, [])), (9, (0, 0, 160, [])), (10, (0, 0, 159, [])), (11, (0, 0, 159, [])), (12, (0, 0, 160, [])), (14, (0, 1, 160, [])), (15, (0, 0, 159, [])), (16, (0, 0, 159, [])), (17, (0, 0, 159, [])), (18, (0, 0, 24, [])), (19, (0, 0, 24, [])), (20, (0, 0, 79, [])), (21, (0, 1, 160, []))], [(6, [21, 5], [1]), (8, [20], [3]), (20, [2, 18, 19, 20], [60, 1, 3, 85, 32, 33, 34, 35]), (20, [2, 17, 19], [60, 0, 2, 186, 33, 34]), (20, [2, 11, 18], [60, 0, 2, 185, 33, 34]), (10, [17, 7, 16], []), (1, [16, 12, 15], []), (5, [15, 14, 4], []), (10, [12, 8, 3], []), (9, [8, 2], [56]), (9, [7, 2], [57]), (10, [11, 7, 10], []), (1, [10, 9, 5], []), (10, [9, 8, 3], []), (7, [5, 4], [2]), (20, [2, 3, 4, 5], [60, 1, 5, 272, 32, 33, 34, 35, 56, 57]), (24, [0, 2], [])], [], [], [(20, [2, 3, 4, 21], [60, 1, 5, 272, 32, 33, 34, 35, 56, 57])], [], [(21, 5, 1, 1), (14, 5, 1, 1)])
theorem oo_Mo_cut_13 {kA : Nat → ClassId} : or_ok PRD kA GG o_Mo_cut_13 := by
  refine or_mk fun A ta ws vs hD hth hl => ?_
  intro t0 r0 t3 k3 t4 k4 t5 k5 t9 k9 t10 k10 t11 k11 t12 k12 t14 k14 t15 k15 t16 k16 t17 k17 t18 k18 t19 k19 t20 k20 t21 k21 d0 d5 f0 f1 f2 f4 f5 f6 f7 f8 f10 f11 f12 f13 f14 f15 f16 f24 f26
  replace f0 := shm_4 f0
  replace f1 := shm_32 f1
  replace f2 := shm_990 f2
  replace f4 := shm_750 f4
  replace f5 := shm_586 f5
  replace f6 := shm_107 f6
  replace f7 := shm_12 f7
  replace f8 := shm_468 f8
  replace f10 := shm_107 f10
  replace f11 := shm_1133 f11
  replace f12 := shm_1138 f12
  replace f13 := shm_107 f13
  replace f14 := shm_12 f14
  replace f15 := shm_107 f15
  replace f16 := shm_6 f16
  replace f24 := shm_1826 f24
  replace f26 := shm_5 f26
  have q2 : n_v vs 2 = n_v vs 0 := f26.symm
  simp only [q2] at f2 f4 f5 f11 f12 f24
  have ad_8 : v_ad (n_v vs 8) = w_ar ws (n_v vs 0) 56 := congrArg v_ad f11
  have ad_7 : v_ad (n_v vs 7) = w_ar ws (n_v vs 0) 57 := congrArg v_ad f12
  simp only [ad_7] at f6
  have h6 : v_iv (n_v vs 17) = w_ei ws (w_ar ws (n_v vs 0) 57) (v_iv (n_v vs 16)) := f6
  simp only [ad_8] at f10
  have h10 : v_iv (n_v vs 12) = w_ei ws (w_ar ws (n_v vs 0) 56) (v_iv (n_v vs 3)) := f10
  simp only [ad_7] at f13
  have h13 : v_iv (n_v vs 11) = w_ei ws (w_ar ws (n_v vs 0) 57) (v_iv (n_v vs 10)) := f13
  simp only [ad_8] at f15
  have h15 : v_iv (n_v vs 9) = w_ei ws (w_ar ws (n_v vs 0) 56) (v_iv (n_v vs 3)) := f15
  have kz_0_32 := fdq_140 hD hth r0
  have nf0 : fc_1 PRD (20, [2, 3, 4, 21], [60, 1, 5, 272, 32, 33, 34, 35, 56, 57]) ws (vs) := by
    refine ⟨nf_in hl rfl, sgq_1826 ?_⟩
    · show CT2 (w_fi ws (n_v vs 2) 32) (w_ei ws (w_ar ws (n_v vs 2) 33)) (w_ei ws (w_ar ws (n_v vs 2) 34)) (w_ei ws (w_ar ws (n_v vs 2) 35)) (w_ei ws (w_ar ws (n_v vs 2) 56)) (w_ei ws (w_ar ws (n_v vs 2) 57)) (v_iv (n_v vs 3)) (v_iv (n_v vs 4)) (v_iv (n_v vs 21))
      rw [q2]
      exact vc_Mo_cut_13_0 (v_iv (n_v vs 3)) (v_iv (n_v vs 4)) (v_iv (n_v vs 5)) (v_iv (n_v vs 9)) (v_iv (n_v vs 10)) (v_iv (n_v vs 11)) (v_iv (n_v vs 12)) (v_iv (n_v vs 14)) (v_iv (n_v vs 15)) (v_iv (n_v vs 16)) (v_iv (n_v vs 17)) (v_iv (n_v vs 18)) (v_iv (n_v vs 19)) (v_iv (n_v vs 20)) (v_iv (n_v vs 21)) (w_ei ws (w_ar ws (n_v vs 0) 33)) (w_ei ws (w_ar ws (n_v vs 0) 34)) (w_ei ws (w_ar ws (n_v vs 0) 35)) (w_fi ws (n_v vs 0) 32) (w_ei ws (w_ar ws (n_v vs 0) 57)) (w_ei ws (w_ar ws (n_v vs 0) 56)) k3 k4 k5 k9 k10 k11 k12 k14 k15 k16 k17 k18 k19 k20 k21 d0 d5 f0 f1 f2 f4 f5 h6 f7 f8 h10 h13 f14 h15 f16 f24 kz_0_32
  refine ⟨(fun _ h => (by cases h)), [], trivial, ?_, (fun _ h => (by cases h))⟩
  rw [List.append_nil]
  exact List.forall_mem_cons.mpr ⟨⟨show (20 : Nat) < 100 from by decide, nf0⟩, (fun _ h => (by cases h))⟩
def n_Mo_cut_an : List an_T := [(6, [(0, (2, 0, 0, [165])), (1, (0, 0, 160, []))], [], (0, 0), [(0, 0, 99994), (1, 3, 160), (0, 0, 100000), (0, 0, 0), (0, 0, 0)], [], [((0, 32), (0, 0, 80, []))], [(2, 0, 0, [165]), (0, 0, 80, [])], 0, [], [(20, [2], [60, 2, 2, 75, 31, 32, 33, 34]), (20, [2], [60, 2, 5, 261, 31, 32, 33, 34, 35, 36, 37]), (20, [2], [60, 2, 3, 264, 31, 32, 33, 34, 35]), (20, [2], [50, 1, 0, 31, 0, 2, 0, 3, 2, 0, 31]), (20, [2, 1], [50, 1, 0, 32, 1, 3, 2, 0, 32, 1, 1]), (20, [2], [60, 2, 8, 193, 32, 53, 33, 34, 35, 36, 37, 54, 56, 57]), (20, [2, 3], [60, 0, 1, 271, 56]), (24, [0, 2], [])]), (40, [(0, (2, 0, 0, [165])), (1, (0, 0, 159, [])), (2, (0, 4, 160, [])), (3, (0, 0, 160, []))], [], (0, 0), [(0, 0, 99994), (1, 3, 160), (0, 0, 99960), (1, 5, 160), (0, 0, 100000)], [], [((0, 32), (0, 0, 80, []))], [(2, 0, 0, [165]), (0, 0, 80, [])], 0, [], [(20, [2], [60, 2, 2, 75, 31, 32, 33, 34]), (20, [2], [60, 2, 5, 261, 31, 32, 33, 34, 35, 36, 37]), (20, [2], [60, 2, 3, 264, 31, 32, 33, 34, 35]), (20, [2], [50, 1, 0, 31, 0, 2, 0, 3, 2, 0, 31]), (20, [2, 1], [50, 1, 0, 32, 1, 3, 2, 0, 32, 1, 1]), (20, [2], [60, 2, 8, 193, 32, 53, 33, 34, 35, 36, 37, 54, 56, 57]), (20, [2, 3], [60, 0, 1, 271, 56]), (20, [2, 3, 4, 5], [60, 1, 5, 272, 32, 33, 34, 35, 56, 57]), (20, [3, 2], [30, (Int.negSucc 0), 1, 0, 0, (Int.negSucc 0), 1, 53]), (24, [0, 2], [])])]
def t_Mo_cut_ct : ct_L := [(1, 646, e_Mo_edgeOf), (1, 680, e_Mo_toOf), (1, 707, e_Mo_goRound), (1, 713, e_Mo_fromOf), (1, 898, e_Mo_putAhead), (1, 901, e_Mo_putBehind), (367, 886, e_Mo_newLine_at_g3)]
set_option maxRecDepth 100000 in
theorem c_Mo_cut {l : Launch} {D : va_G} {kA : Nat → ClassId} (h_Mo_edgeOf : ct_ok PRD l D kA GG y_Mo_edgeOf z_Mo_edgeOf e_Mo_edgeOf) (h_Mo_fromOf : ct_ok PRD l D kA GG y_Mo_fromOf z_Mo_fromOf e_Mo_fromOf) (h_Mo_goRound : ct_ok PRD l D kA GG y_Mo_goRound z_Mo_goRound e_Mo_goRound) (h_Mo_newLine_at_g3 : ct_ok PRD l D kA GG y_Mo_newLine_at_g3 z_Mo_newLine_at_g3 e_Mo_newLine_at_g3) (h_Mo_putAhead : ct_ok PRD l D kA GG y_Mo_putAhead z_Mo_putAhead e_Mo_putAhead) (h_Mo_putBehind : ct_ok PRD l D kA GG y_Mo_putBehind z_Mo_putBehind e_Mo_putBehind) (h_Mo_toOf : ct_ok PRD l D kA GG y_Mo_toOf z_Mo_toOf e_Mo_toOf) : ct_ok PRD l D kA GG y_Mo_cut z_Mo_cut e_Mo_cut := chk_all_ok (FT := [(111, 13, 56), (114, 13, 57), (683, 13, 53)]) (PT := []) (CT := t_Mo_cut_ct) (KT := []) (NT := []) (AN := n_Mo_cut_an) (OT := [o_Mo_cut_0, o_Mo_cut_1, o_Mo_cut_2, o_Mo_cut_3, o_Mo_cut_4, o_Mo_cut_5, o_Mo_cut_6, o_Mo_cut_7, o_Mo_cut_8, o_Mo_cut_9, o_Mo_cut_10, o_Mo_cut_11, o_Mo_cut_12, o_Mo_cut_13]) 5 404 (List.forall_mem_cons.mpr ⟨oo_Mo_cut_0, List.forall_mem_cons.mpr ⟨oo_Mo_cut_1, List.forall_mem_cons.mpr ⟨oo_Mo_cut_2, List.forall_mem_cons.mpr ⟨oo_Mo_cut_3, List.forall_mem_cons.mpr ⟨oo_Mo_cut_4, List.forall_mem_cons.mpr ⟨oo_Mo_cut_5, List.forall_mem_cons.mpr ⟨oo_Mo_cut_6, List.forall_mem_cons.mpr ⟨oo_Mo_cut_7, List.forall_mem_cons.mpr ⟨oo_Mo_cut_8, List.forall_mem_cons.mpr ⟨oo_Mo_cut_9, List.forall_mem_cons.mpr ⟨oo_Mo_cut_10, List.forall_mem_cons.mpr ⟨oo_Mo_cut_11, List.forall_mem_cons.mpr ⟨oo_Mo_cut_12, List.forall_mem_cons.mpr ⟨oo_Mo_cut_13, List.forall_mem_nil _⟩⟩⟩⟩⟩⟩⟩⟩⟩⟩⟩⟩⟩⟩) (by decide +kernel) ⟨List.forall_mem_cons.mpr ⟨gf_Mo_111, List.forall_mem_cons.mpr ⟨gf_Mo_114, List.forall_mem_cons.mpr ⟨gf_Mo_683, List.forall_mem_nil _⟩⟩⟩, List.forall_mem_nil _, List.forall_mem_cons.mpr ⟨cl_virtual (y := y_Mo_edgeOf) (ci := 13) rfl rfl ⟨_, _, rfl⟩ (by decide +kernel) h_Mo_edgeOf wm_3195 wm_9 wm_3192 wm_3194 wv_15_7 ⟨by decide, by decide, by decide +kernel⟩ (by decide), List.forall_mem_cons.mpr ⟨cl_virtual (y := y_Mo_toOf) (ci := 13) rfl rfl ⟨_, _, rfl⟩ (by decide +kernel) h_Mo_toOf wm_3263 wm_9 wm_3260 wm_3262 wv_16_8 ⟨by decide, by decide, by decide +kernel⟩ (by decide), List.forall_mem_cons.mpr ⟨cl_virtual (y := y_Mo_goRound) (ci := 13) rfl rfl ⟨_, _, rfl⟩ (by decide +kernel) h_Mo_goRound wm_3255 wm_9 wm_3252 wm_3254 wv_16_6 ⟨by decide, by decide, by decide +kernel⟩ (by decide), List.forall_mem_cons.mpr ⟨cl_virtual (y := y_Mo_fromOf) (ci := 13) rfl rfl ⟨_, _, rfl⟩ (by decide +kernel) h_Mo_fromOf wm_3275 wm_9 wm_3272 wm_3274 wv_16_10 ⟨by decide, by decide, by decide +kernel⟩ (by decide), List.forall_mem_cons.mpr ⟨cl_virtual (y := y_Mo_putAhead) (ci := 13) rfl rfl ⟨_, _, rfl⟩ (by decide +kernel) h_Mo_putAhead wm_3498 wm_9 wm_3495 wm_3497 wv_19_10 ⟨by decide, by decide, by decide +kernel⟩ (by decide), List.forall_mem_cons.mpr ⟨cl_virtual (y := y_Mo_putBehind) (ci := 13) rfl rfl ⟨_, _, rfl⟩ (by decide +kernel) h_Mo_putBehind wm_3502 wm_9 wm_3499 wm_3501 wv_19_11 ⟨by decide, by decide, by decide +kernel⟩ (by decide), List.forall_mem_cons.mpr ⟨cl_virtual (y := y_Mo_newLine_at_g3) (ci := 13) rfl rfl ⟨_, _, rfl⟩ (by decide +kernel) h_Mo_newLine_at_g3 wm_3486 wm_9 wm_3483 wm_3485 wv_19_7 ⟨by decide, by decide, by decide +kernel⟩ (by decide), List.forall_mem_nil _⟩⟩⟩⟩⟩⟩⟩, List.forall_mem_nil _, List.forall_mem_nil _, GG_pl⟩ (by decide +kernel)
set_option maxHeartbeats 4000000 in
theorem vc_Re_isWord_at_s5000_0_0 (x2 : Int) (x3 : Int) (x4 : Int) (kind_0 : Int) (tape_0 : Int → Int) (next_0 : Int) (begin_0 : Int) (k2 : (-128) ≤ x2 ∧ x2 ≤ 127) (k3 : 2 ≤ x3 ∧ x3 ≤ 2) (k4 : 0 ≤ x4 ∧ x4 ≤ 0) (f0 : x2 ≠ x3) (g1 : x2 = kind_0) (kz_0_6 : 0 ≤ next_0 ∧ next_0 ≤ 2000) (kz_0_7 : (-128) ≤ kind_0 ∧ kind_0 ≤ 127) (kz_0_8 : 0 ≤ begin_0 ∧ begin_0 ≤ 2000) : CWn (kind_0) (next_0) (begin_0) (tape_0) (x4) := by
  first | subst g1 | skip
  first
    | (right
       refine ⟨by omega, fun w => ?_⟩
       obtain ⟨w0, w1, w2, v0, v1, v2, v3⟩ := w
       try (rw [show x5 = x11 by omega] at v0)
       try (rw [show x5 + 1 = x16 by omega] at v1)
       try (rw [show x5 + 2 = x21 by omega] at v2)
       try (rw [show x5 + 3 = x26 by omega] at v3)
       omega)
    | (left; exact ⟨by omega, by omega, rfl, by omega, by rw [show x5 = x11 by omega]; omega, by rw [show x5 + 1 = x16 by omega]; omega, by rw [show x5 + 2 = x21 by omega]; omega, by rw [show x5 + 3 = x26 by omega]; omega⟩)
def o_Re_isWord_at_s5000_0 : or_T := (25, 5, [(0, (2, 0, 0, [8])), (2, (0, -128, 127, [])), (3, (0, 2, 2, [])), (4, (0, 0, 0, []))], [(7, [2, 3], [1]), (9, [2, 0], [7])], [], [], [(20, [0, 4], [60, 3, 1, 1080, 7, 6, 8, 0])], [], [])
theorem oo_Re_isWord_at_s5000_0 {kA : Nat → ClassId} : or_ok PRD kA GG o_Re_isWord_at_s5000_0 := by
  refine or_mk fun A ta ws vs hD hth hl => ?_
  intro t0 r0 t2 k2 t3 k3 t4 k4 f0 f1
  replace f1 := shm_198 f1
  have g1 : v_iv (n_v vs 2) = w_fi ws (n_v vs 0) 7 := congrArg v_iv f1
  have kz_0_6 := fdq_208 hD hth r0
  have kz_0_7 := fdq_297 hD hth r0
  have kz_0_8 := fdq_99 hD hth r0
  have nf0 : fc_1 PRD (20, [0, 4], [60, 3, 1, 1080, 7, 6, 8, 0]) ws (vs) := ⟨nf_in hl rfl, sgq_1828 (vc_Re_isWord_at_s5000_0_0 (v_iv (n_v vs 2)) (v_iv (n_v vs 3)) (v_iv (n_v vs 4)) (w_fi ws (n_v vs 0) 7) (w_ei ws (w_ar ws (n_v vs 0) 0)) (w_fi ws (n_v vs 0) 6) (w_fi ws (n_v vs 0) 8) k2 k3 k4 (shm_40 f0) g1 kz_0_6 kz_0_7 kz_0_8)⟩
  refine ⟨(fun _ h => (by cases h)), [], trivial, ?_, (fun _ h => (by cases h))⟩
  rw [List.append_nil]
  exact List.forall_mem_cons.mpr ⟨⟨show (20 : Nat) < 100 from by decide, nf0⟩, (fun _ h => (by cases h))⟩
set_option maxHeartbeats 4000000 in
theorem vc_Re_isWord_at_s5000_1_r0 (x4 : Int) (x5 : Int) (x6 : Int) (x11 : Int) (begin_0 : Int) (next_0 : Int) (k4 : 4 ≤ x4 ∧ x4 ≤ 2000) (k5 : 0 ≤ x5 ∧ x5 ≤ 2000) (k6 : 4 ≤ x6 ∧ x6 ≤ 4) (k11 : 0 ≤ x11 ∧ x11 ≤ 2000) (d0 : x5 + 0 ≤ x11 ∧ x11 ≤ x5 + 0) (g1 : x5 = begin_0) (f4 : x6 = x4 - x5) (g5 : x4 = next_0) (kz_0_6 : 0 ≤ next_0 ∧ next_0 ≤ 2000) (kz_0_8 : 0 ≤ begin_0 ∧ begin_0 ≤ 2000) : 0 ≤ x11 ∧ x11 ≤ 1999 := by
  omega
def o_Re_isWord_at_s5000_1 : or_T := (46, 12, [(0, (2, 0, 0, [8])), (4, (0, 4, 2000, [])), (5, (0, 0, 2000, [])), (6, (0, 4, 4, [])), (7, (0, 4, 4, [])), (8, (0, 0, 0, [])), (9, (0, 4, 4, [])), (11, (0, 0, 2000, []))], [(1, [11, 5, 8], []), (9, [5, 0], [8]), (7, [8, 9], [2]), (7, [6, 7], [0]), (2, [6, 4, 5], []), (9, [4, 0], [6])], [(11, (0, 0, 1999, []))], [], [], [], [(11, 5, 0, 0)])
theorem oo_Re_isWord_at_s5000_1 {kA : Nat → ClassId} : or_ok PRD kA GG o_Re_isWord_at_s5000_1 := by
  refine or_mk fun A ta ws vs hD hth hl => ?_
  intro t0 r0 t4 k4 t5 k5 t6 k6 t7 k7 t8 k8 t9 k9 t11 k11 d0 f0 f1 f2 f3 f4 f5
  replace f1 := shm_293 f1
  replace f5 := shm_111 f5
  have g1 : v_iv (n_v vs 5) = w_fi ws (n_v vs 0) 8 := congrArg v_iv f1
  have g5 : v_iv (n_v vs 4) = w_fi ws (n_v vs 0) 6 := congrArg v_iv f5
  have kz_0_6 := fdq_208 hD hth r0
  have kz_0_8 := fdq_99 hD hth r0
  have hrf0 : 0 ≤ v_iv (n_v vs 11) ∧ v_iv (n_v vs 11) ≤ 1999 := vc_Re_isWord_at_s5000_1_r0 (v_iv (n_v vs 4)) (v_iv (n_v vs 5)) (v_iv (n_v vs 6)) (v_iv (n_v vs 11)) (w_fi ws (n_v vs 0) 8) (w_fi ws (n_v vs 0) 6) k4 k5 k6 k11 d0 g1 (shm_14 f4) g5 kz_0_6 kz_0_8
  have rf11 : tv_ok ta (0, 0, 1999, []) (n_v vs 11) := tv_in t11 (by omega) (by omega)
  refine ⟨List.forall_mem_cons.mpr ⟨rf11, (fun _ h => (by cases h))⟩, [], trivial, ?_, (fun _ h => (by cases h))⟩
  rw [List.append_nil]
  exact (fun _ h => (by cases h))
set_option maxHeartbeats 4000000 in
theorem vc_Re_isWord_at_s5000_2_r0 (x4 : Int) (x5 : Int) (x6 : Int) (x16 : Int) (begin_0 : Int) (next_0 : Int) (k4 : 4 ≤ x4 ∧ x4 ≤ 2000) (k5 : 0 ≤ x5 ∧ x5 ≤ 2000) (k6 : 4 ≤ x6 ∧ x6 ≤ 4) (k16 : 1 ≤ x16 ∧ x16 ≤ 2001) (d0 : x5 + 1 ≤ x16 ∧ x16 ≤ x5 + 1) (g1 : x5 = begin_0) (f7 : x6 = x4 - x5) (g8 : x4 = next_0) (kz_0_6 : 0 ≤ next_0 ∧ next_0 ≤ 2000) (kz_0_8 : 0 ≤ begin_0 ∧ begin_0 ≤ 2000) : 1 ≤ x16 ∧ x16 ≤ 1999 := by
  omega
def o_Re_isWord_at_s5000_2 : or_T := (46, 17, [(0, (2, 0, 0, [8])), (4, (0, 4, 2000, [])), (5, (0, 0, 2000, [])), (6, (0, 4, 4, [])), (7, (0, 4, 4, [])), (8, (0, 0, 0, [])), (9, (0, 4, 4, [])), (11, (0, 0, 1999, [])), (14, (0, 1, 1, [])), (15, (0, 4, 4, [])), (16, (0, 1, 2001, []))], [(1, [16, 5, 14], []), (9, [5, 0], [8]), (7, [14, 15], [2]), (6, [14, 8], [1]), (1, [11, 5, 8], []), (7, [8, 9], [2]), (7, [6, 7], [0]), (2, [6, 4, 5], []), (9, [4, 0], [6])], [(16, (0, 1, 1999, []))], [], [], [], [(16, 5, 1, 1), (11, 5, 0, 0)])
theorem oo_Re_isWord_at_s5000_2 {kA : Nat → ClassId} : or_ok PRD kA GG o_Re_isWord_at_s5000_2 := by
  refine or_mk fun A ta ws vs hD hth hl => ?_
  intro t0 r0 t4 k4 t5 k5 t6 k6 t7 k7 t8 k8 t9 k9 t11 k11 t14 k14 t15 k15 t16 k16 d0 d1 f0 f1 f2 f3 f4 f5 f6 f7 f8
  replace f1 := shm_293 f1
  replace f8 := shm_111 f8
  have g1 : v_iv (n_v vs 5) = w_fi ws (n_v vs 0) 8 := congrArg v_iv f1
  have g8 : v_iv (n_v vs 4) = w_fi ws (n_v vs 0) 6 := congrArg v_iv f8
  have kz_0_6 := fdq_208 hD hth r0
  have kz_0_8 := fdq_99 hD hth r0
  have hrf0 : 1 ≤ v_iv (n_v vs 16) ∧ v_iv (n_v vs 16) ≤ 1999 := vc_Re_isWord_at_s5000_2_r0 (v_iv (n_v vs 4)) (v_iv (n_v vs 5)) (v_iv (n_v vs 6)) (v_iv (n_v vs 16)) (w_fi ws (n_v vs 0) 8) (w_fi ws (n_v vs 0) 6) k4 k5 k6 k16 d0 g1 (shm_14 f7) g8 kz_0_6 kz_0_8
  have rf16 : tv_ok ta (0, 1, 1999, []) (n_v vs 16) := tv_in t16 (by omega) (by omega)
  refine ⟨List.forall_mem_cons.mpr ⟨rf16, (fun _ h => (by cases h))⟩, [], trivial, ?_, (fun _ h => (by cases h))⟩
  rw [List.append_nil]
  exact (fun _ h => (by cases h))
set_option maxHeartbeats 4000000 in
theorem vc_Re_isWord_at_s5000_3_r0 (x4 : Int) (x5 : Int) (x6 : Int) (x21 : Int) (begin_0 : Int) (next_0 : Int) (k4 : 4 ≤ x4 ∧ x4 ≤ 2000) (k5 : 0 ≤ x5 ∧ x5 ≤ 2000) (k6 : 4 ≤ x6 ∧ x6 ≤ 4) (k21 : 2 ≤ x21 ∧ x21 ≤ 2002) (d0 : x5 + 2 ≤ x21 ∧ x21 ≤ x5 + 2) (g1 : x5 = begin_0) (f10 : x6 = x4 - x5) (g11 : x4 = next_0) (kz_0_6 : 0 ≤ next_0 ∧ next_0 ≤ 2000) (kz_0_8 : 0 ≤ begin_0 ∧ begin_0 ≤ 2000) : 2 ≤ x21 ∧ x21 ≤ 1999 := by
  omega
def o_Re_isWord_at_s5000_3 : or_T := (46, 22, [(0, (2, 0, 0, [8])), (4, (0, 4, 2000, [])), (5, (0, 0, 2000, [])), (6, (0, 4, 4, [])), (7, (0, 4, 4, [])), (8, (0, 0, 0, [])), (9, (0, 4, 4, [])), (11, (0, 0, 1999, [])), (14, (0, 1, 1, [])), (15, (0, 4, 4, [])), (16, (0, 1, 1999, [])), (19, (0, 2, 2, [])), (20, (0, 4, 4, [])), (21, (0, 2, 2002, []))], [(1, [21, 5, 19], []), (9, [5, 0], [8]), (7, [19, 20], [2]), (6, [19, 14], [1]), (1, [16, 5, 14], []), (7, [14, 15], [2]), (6, [14, 8], [1]), (1, [11, 5, 8], []), (7, [8, 9], [2]), (7, [6, 7], [0]), (2, [6, 4, 5], []), (9, [4, 0], [6])], [(21, (0, 2, 1999, []))], [], [], [], [(21, 5, 2, 2), (16, 5, 1, 1), (11, 5, 0, 0)])
theorem oo_Re_isWord_at_s5000_3 {kA : Nat → ClassId} : or_ok PRD kA GG o_Re_isWord_at_s5000_3 := by
  refine or_mk fun A ta ws vs hD hth hl => ?_
  intro t0 r0 t4 k4 t5 k5 t6 k6 t7 k7 t8 k8 t9 k9 t11 k11 t14 k14 t15 k15 t16 k16 t19 k19 t20 k20 t21 k21 d0 d1 d2 f0 f1 f2 f3 f4 f5 f6 f7 f8 f9 f10 f11
  replace f1 := shm_293 f1
  replace f11 := shm_111 f11
  have g1 : v_iv (n_v vs 5) = w_fi ws (n_v vs 0) 8 := congrArg v_iv f1
  have g11 : v_iv (n_v vs 4) = w_fi ws (n_v vs 0) 6 := congrArg v_iv f11
  have kz_0_6 := fdq_208 hD hth r0
  have kz_0_8 := fdq_99 hD hth r0
  have hrf0 : 2 ≤ v_iv (n_v vs 21) ∧ v_iv (n_v vs 21) ≤ 1999 := vc_Re_isWord_at_s5000_3_r0 (v_iv (n_v vs 4)) (v_iv (n_v vs 5)) (v_iv (n_v vs 6)) (v_iv (n_v vs 21)) (w_fi ws (n_v vs 0) 8) (w_fi ws (n_v vs 0) 6) k4 k5 k6 k21 d0 g1 (shm_14 f10) g11 kz_0_6 kz_0_8
  have rf21 : tv_ok ta (0, 2, 1999, []) (n_v vs 21) := tv_in t21 (by omega) (by omega)
  refine ⟨List.forall_mem_cons.mpr ⟨rf21, (fun _ h => (by cases h))⟩, [], trivial, ?_, (fun _ h => (by cases h))⟩
  rw [List.append_nil]
  exact (fun _ h => (by cases h))
set_option maxHeartbeats 4000000 in
theorem vc_Re_isWord_at_s5000_4_r0 (x4 : Int) (x5 : Int) (x6 : Int) (x26 : Int) (begin_0 : Int) (next_0 : Int) (k4 : 4 ≤ x4 ∧ x4 ≤ 2000) (k5 : 0 ≤ x5 ∧ x5 ≤ 2000) (k6 : 4 ≤ x6 ∧ x6 ≤ 4) (k26 : 3 ≤ x26 ∧ x26 ≤ 2003) (d0 : x5 + 3 ≤ x26 ∧ x26 ≤ x5 + 3) (g1 : x5 = begin_0) (f13 : x6 = x4 - x5) (g14 : x4 = next_0) (kz_0_6 : 0 ≤ next_0 ∧ next_0 ≤ 2000) (kz_0_8 : 0 ≤ begin_0 ∧ begin_0 ≤ 2000) : 3 ≤ x26 ∧ x26 ≤ 1999 := by
  omega
def o_Re_isWord_at_s5000_4 : or_T := (46, 27, [(0, (2, 0, 0, [8])), (4, (0, 4, 2000, [])), (5, (0, 0, 2000, [])), (6, (0, 4, 4, [])), (7, (0, 4, 4, [])), (8, (0, 0, 0, [])), (9, (0, 4, 4, [])), (11, (0, 0, 1999, [])), (14, (0, 1, 1, [])), (15, (0, 4, 4, [])), (16, (0, 1, 1999, [])), (19, (0, 2, 2, [])), (20, (0, 4, 4, [])), (21, (0, 2, 1999, [])), (24, (0, 3, 3, [])), (25, (0, 4, 4, [])), (26, (0, 3, 2003, []))], [(1, [26, 5, 24], []), (9, [5, 0], [8]), (7, [24, 25], [2]), (6, [24, 19], [1]), (1, [21, 5, 19], []), (7, [19, 20], [2]), (6, [19, 14], [1]), (1, [16, 5, 14], []), (7, [14, 15], [2]), (6, [14, 8], [1]), (1, [11, 5, 8], []), (7, [8, 9], [2]), (7, [6, 7], [0]), (2, [6, 4, 5], []), (9, [4, 0], [6])], [(26, (0, 3, 1999, []))], [], [], [], [(26, 5, 3, 3), (21, 5, 2, 2), (16, 5, 1, 1), (11, 5, 0, 0)])
theorem oo_Re_isWord_at_s5000_4 {kA : Nat → ClassId} : or_ok PRD kA GG o_Re_isWord_at_s5000_4 := by
  refine or_mk fun A ta ws vs hD hth hl => ?_
  intro t0 r0 t4 k4 t5 k5 t6 k6 t7 k7 t8 k8 t9 k9 t11 k11 t14 k14 t15 k15 t16 k16 t19 k19 t20 k20 t21 k21 t24 k24 t25 k25 t26 k26 d0 d1 d2 d3 f0 f1 f2 f3 f4 f5 f6 f7 f8 f9 f10 f11 f12 f13 f14
  replace f1 := shm_293 f1
  replace f14 := shm_111 f14
  have g1 : v_iv (n_v vs 5) = w_fi ws (n_v vs 0) 8 := congrArg v_iv f1
  have g14 : v_iv (n_v vs 4) = w_fi ws (n_v vs 0) 6 := congrArg v_iv f14
  have kz_0_6 := fdq_208 hD hth r0
  have kz_0_8 := fdq_99 hD hth r0
  have hrf0 : 3 ≤ v_iv (n_v vs 26) ∧ v_iv (n_v vs 26) ≤ 1999 := vc_Re_isWord_at_s5000_4_r0 (v_iv (n_v vs 4)) (v_iv (n_v vs 5)) (v_iv (n_v vs 6)) (v_iv (n_v vs 26)) (w_fi ws (n_v vs 0) 8) (w_fi ws (n_v vs 0) 6) k4 k5 k6 k26 d0 g1 (shm_14 f13) g14 kz_0_6 kz_0_8
  have rf26 : tv_ok ta (0, 3, 1999, []) (n_v vs 26) := tv_in t26 (by omega) (by omega)
  refine ⟨List.forall_mem_cons.mpr ⟨rf26, (fun _ h => (by cases h))⟩, [], trivial, ?_, (fun _ h => (by cases h))⟩
  rw [List.append_nil]
  exact (fun _ h => (by cases h))
set_option maxHeartbeats 4000000 in
theorem vc_Re_isWord_at_s5000_5_0 (x2 : Int) (x4 : Int) (x5 : Int) (x6 : Int) (x11 : Int) (x12 : Int) (x13 : Int) (x16 : Int) (x17 : Int) (x18 : Int) (x21 : Int) (x22 : Int) (x23 : Int) (x26 : Int) (x27 : Int) (x28 : Int) (x31 : Int) (tape_0 : Int → Int) (begin_0 : Int) (next_0 : Int) (kind_0 : Int) (k2 : 2 ≤ x2 ∧ x2 ≤ 2) (k4 : 4 ≤ x4 ∧ x4 ≤ 2000) (k5 : 0 ≤ x5 ∧ x5 ≤ 2000) (k6 : 4 ≤ x6 ∧ x6 ≤ 4) (k11 : 0 ≤ x11 ∧ x11 ≤ 1999) (k12 : 0 ≤ x12 ∧ x12 ≤ 127) (k13 : 0 ≤ x13 ∧ x13 ≤ 127) (k16 : 1 ≤ x16 ∧ x16 ≤ 1999) (k17 : 0 ≤ x17 ∧ x17 ≤ 127) (k18 : 0 ≤ x18 ∧ x18 ≤ 127) (k21 : 2 ≤ x21 ∧ x21 ≤ 1999) (k22 : 0 ≤ x22 ∧ x22 ≤ 127) (k23 : 0 ≤ x23 ∧ x23 ≤ 127) (k26 : 3 ≤ x26 ∧ x26 ≤ 1999) (k27 : 0 ≤ x27 ∧ x27 ≤ 127) (k28 : 0 ≤ x28 ∧ x28 ≤ 127) (k31 : 1 ≤ x31 ∧ x31 ≤ 1) (d0 : x28 + 0 ≤ x27 ∧ x27 ≤ x28 + 0) (d1 : x5 + 3 ≤ x26 ∧ x26 ≤ x5 + 3) (d2 : x23 + 0 ≤ x22 ∧ x22 ≤ x23 + 0) (d3 : x5 + 2 ≤ x21 ∧ x21 ≤ x5 + 2) (d4 : x18 + 0 ≤ x17 ∧ x17 ≤ x18 + 0) (d5 : x5 + 1 ≤ x16 ∧ x16 ≤ x5 + 1) (d6 : x13 + 0 ≤ x12 ∧ x12 ≤ x13 + 0) (d7 : x5 + 0 ≤ x11 ∧ x11 ≤ x5 + 0) (f1 : 1 * x28 + 0 ≤ 101) (f2 : (-1) * x28 + 0 ≤ (-101)) (h3 : x27 = tape_0 (x26)) (g5 : x5 = begin_0) (f10 : 1 * x23 + 0 ≤ 100) (f11 : (-1) * x23 + 0 ≤ (-100)) (h12 : x22 = tape_0 (x21)) (f17 : 1 * x18 + 0 ≤ 111) (f18 : (-1) * x18 + 0 ≤ (-111)) (h19 : x17 = tape_0 (x16)) (f24 : 1 * x13 + 0 ≤ 110) (f25 : (-1) * x13 + 0 ≤ (-110)) (h26 : x12 = tape_0 (x11)) (f30 : x6 = x4 - x5) (g31 : x4 = next_0) (g33 : x2 = kind_0) (kz_0_6 : 0 ≤ next_0 ∧ next_0 ≤ 2000) (kz_0_7 : (-128) ≤ kind_0 ∧ kind_0 ≤ 127) (kz_0_8 : 0 ≤ begin_0 ∧ begin_0 ≤ 2000) : CWn (kind_0) (next_0) (begin_0) (tape_0) (x31) := by
  first | subst g5 | skip
  first | subst g31 | skip
  first | subst g33 | skip
  first
    | (right
       refine ⟨by omega, fun w => ?_⟩
       obtain ⟨w0, w1, w2, v0, v1, v2, v3⟩ := w
       try (rw [show x5 = x11 by omega] at v0)
       try (rw [show x5 + 1 = x16 by omega] at v1)
       try (rw [show x5 + 2 = x21 by omega] at v2)
       try (rw [show x5 + 3 = x26 by omega] at v3)
       omega)
    | (left; exact ⟨by omega, by omega, rfl, by omega, by rw [show x5 = x11 by omega]; omega, by rw [show x5 + 1 = x16 by omega]; omega, by rw [show x5 + 2 = x21 by omega]; omega, by rw [show x5 + 3 = x26 by omega]; omega⟩)
def o_Re_isWord_at_s5000_5 : or_T := (64, 32, [(0, (2, 0, 0, [8])), (2, (0, 2, 2, [])), (4, (0, 4, 2000, [])), (5, (0, 0, 2000, [])), (6, (0, 4, 4, [])), (11, (0, 0, 1999, [])), (12, (0, 0, 127, [])), (13, (0, 0, 127, [])), (16, (0, 1, 1999, [])), (17, (0, 0, 127, [])), (18, (0, 0, 127, [])), (21, (0, 2, 1999, [])), (22, (0, 0, 127, [])), (23, (0, 0, 127, [])), (26, (0, 3, 1999, [])), (27, (0, 0, 127, [])), (28, (0, 0, 127, [])), (31, (0, 1, 1, []))], [(23, [28], [101, 1]), (23, [28], [-101, -1]), (10, [27, 10, 26], []), (9, [5, 0], [8]), (9, [10, 0], [0]), (23, [23], [100, 1]), (23, [23], [-100, -1]), (10, [22, 10, 21], []), (23, [18], [111, 1]), (23, [18], [-111, -1]), (10, [17, 10, 16], []), (23, [13], [110, 1]), (23, [13], [-110, -1]), (10, [12, 10, 11], []), (2, [6, 4, 5], []), (9, [4, 0], [6]), (9, [2, 0], [7])], [], [], [(20, [0, 31], [60, 3, 1, 1080, 7, 6, 8, 0])], [], [(27, 28, 0, 0), (26, 5, 3, 3), (22, 23, 0, 0), (21, 5, 2, 2), (17, 18, 0, 0), (16, 5, 1, 1), (12, 13, 0, 0), (11, 5, 0, 0)])
theorem oo_Re_isWord_at_s5000_5 {kA : Nat → ClassId} : or_ok PRD kA GG o_Re_isWord_at_s5000_5 := by
  refine or_mk fun A ta ws vs hD hth hl => ?_
  intro t0 r0 t2 k2 t4 k4 t5 k5 t6 k6 t11 k11 t12 k12 t13 k13 t16 k16 t17 k17 t18 k18 t21 k21 t22 k22 t23 k23 t26 k26 t27 k27 t28 k28 t31 k31 d0 d1 d2 d3 d4 d5 d6 d7 f1 f2 f3 f5 f6 f10 f11 f12 f17 f18 f19 f24 f25 f26 f30 f31 f33
  replace f3 := shm_107 f3
  replace f5 := shm_293 f5
  replace f6 := shm_163 f6
  replace f12 := shm_107 f12
  replace f19 := shm_107 f19
  replace f26 := shm_107 f26
  replace f31 := shm_111 f31
  replace f33 := shm_198 f33
  have ad_10 : v_ad (n_v vs 10) = w_ar ws (n_v vs 0) 0 := congrArg v_ad f6
  simp only [ad_10] at f3
  have h3 : v_iv (n_v vs 27) = w_ei ws (w_ar ws (n_v vs 0) 0) (v_iv (n_v vs 26)) := f3
  have g5 : v_iv (n_v vs 5) = w_fi ws (n_v vs 0) 8 := congrArg v_iv f5
  simp only [ad_10] at f12
  have h12 : v_iv (n_v vs 22) = w_ei ws (w_ar ws (n_v vs 0) 0) (v_iv (n_v vs 21)) := f12
  simp only [ad_10] at f19
  have h19 : v_iv (n_v vs 17) = w_ei ws (w_ar ws (n_v vs 0) 0) (v_iv (n_v vs 16)) := f19
  simp only [ad_10] at f26
  have h26 : v_iv (n_v vs 12) = w_ei ws (w_ar ws (n_v vs 0) 0) (v_iv (n_v vs 11)) := f26
  have g31 : v_iv (n_v vs 4) = w_fi ws (n_v vs 0) 6 := congrArg v_iv f31
  have g33 : v_iv (n_v vs 2) = w_fi ws (n_v vs 0) 7 := congrArg v_iv f33
  have kz_0_6 := fdq_208 hD hth r0
  have kz_0_7 := fdq_297 hD hth r0
  have kz_0_8 := fdq_99 hD hth r0
  have nf0 : fc_1 PRD (20, [0, 31], [60, 3, 1, 1080, 7, 6, 8, 0]) ws (vs) := ⟨nf_in hl rfl, sgq_1828 (vc_Re_isWord_at_s5000_5_0 (v_iv (n_v vs 2)) (v_iv (n_v vs 4)) (v_iv (n_v vs 5)) (v_iv (n_v vs 6)) (v_iv (n_v vs 11)) (v_iv (n_v vs 12)) (v_iv (n_v vs 13)) (v_iv (n_v vs 16)) (v_iv (n_v vs 17)) (v_iv (n_v vs 18)) (v_iv (n_v vs 21)) (v_iv (n_v vs 22)) (v_iv (n_v vs 23)) (v_iv (n_v vs 26)) (v_iv (n_v vs 27)) (v_iv (n_v vs 28)) (v_iv (n_v vs 31)) (w_ei ws (w_ar ws (n_v vs 0) 0)) (w_fi ws (n_v vs 0) 8) (w_fi ws (n_v vs 0) 6) (w_fi ws (n_v vs 0) 7) k2 k4 k5 k6 k11 k12 k13 k16 k17 k18 k21 k22 k23 k26 k27 k28 k31 d0 d1 d2 d3 d4 d5 d6 d7 (shm_59 f1) (shm_60 f2) h3 g5 (shm_57 f10) (shm_58 f11) h12 (shm_55 f17) (shm_56 f18) h19 (shm_53 f24) (shm_54 f25) h26 (shm_14 f30) g31 g33 kz_0_6 kz_0_7 kz_0_8)⟩
  refine ⟨(fun _ h => (by cases h)), [], trivial, ?_, (fun _ h => (by cases h))⟩
  rw [List.append_nil]
  exact List.forall_mem_cons.mpr ⟨⟨show (20 : Nat) < 100 from by decide, nf0⟩, (fun _ h => (by cases h))⟩
set_option maxHeartbeats 4000000 in
theorem vc_Re_isWord_at_s5000_6_0 (x2 : Int) (x4 : Int) (x5 : Int) (x11 : Int) (x16 : Int) (x21 : Int) (x26 : Int) (x27 : Int) (x28 : Int) (x29 : Int) (tape_0 : Int → Int) (begin_0 : Int) (next_0 : Int) (kind_0 : Int) (k2 : 2 ≤ x2 ∧ x2 ≤ 2) (k4 : 4 ≤ x4 ∧ x4 ≤ 2000) (k5 : 0 ≤ x5 ∧ x5 ≤ 2000) (k26 : 3 ≤ x26 ∧ x26 ≤ 1999) (k27 : (-128) ≤ x27 ∧ x27 ≤ 127) (k28 : 0 ≤ x28 ∧ x28 ≤ 65535) (k29 : 0 ≤ x29 ∧ x29 ≤ 0) (d0 : x5 + 3 ≤ x26 ∧ x26 ≤ x5 + 3) (f0 : x27 ≠ x28) (f1 : 1 * x28 + 0 ≤ 101) (f2 : (-1) * x28 + 0 ≤ (-101)) (h3 : x27 = tape_0 (x26)) (g5 : x5 = begin_0) (g31 : x4 = next_0) (g33 : x2 = kind_0) (kz_0_6 : 0 ≤ next_0 ∧ next_0 ≤ 2000) (kz_0_7 : (-128) ≤ kind_0 ∧ kind_0 ≤ 127) (kz_0_8 : 0 ≤ begin_0 ∧ begin_0 ≤ 2000) : CWn (kind_0) (next_0) (begin_0) (tape_0) (x29) := by
  first | subst g5 | skip
  first | subst g31 | skip
  first | subst g33 | skip
  first
    | (right
       refine ⟨by omega, fun w => ?_⟩
       obtain ⟨w0, w1, w2, v0, v1, v2, v3⟩ := w
       try (rw [show x5 = x11 by omega] at v0)
       try (rw [show x5 + 1 = x16 by omega] at v1)
       try (rw [show x5 + 2 = x21 by omega] at v2)
       try (rw [show x5 + 3 = x26 by omega] at v3)
       omega)
    | (left; exact ⟨by omega, by omega, rfl, by omega, by rw [show x5 = x11 by omega]; omega, by rw [show x5 + 1 = x16 by omega]; omega, by rw [show x5 + 2 = x21 by omega]; omega, by rw [show x5 + 3 = x26 by omega]; omega⟩)
def o_Re_isWord_at_s5000_6 : or_T := (56, 30, [(0, (2, 0, 0, [8])), (2, (0, 2, 2, [])), (4, (0, 4, 2000, [])), (5, (0, 0, 2000, [])), (26, (0, 3, 1999, [])), (27, (0, -128, 127, [])), (28, (0, 0, 65535, [])), (29, (0, 0, 0, []))], [(7, [27, 28], [1]), (23, [28], [101, 1]), (23, [28], [-101, -1]), (10, [27, 10, 26], []), (9, [5, 0], [8]), (9, [10, 0], [0]), (9, [4, 0], [6]), (9, [2, 0], [7])], [], [], [(20, [0, 29], [60, 3, 1, 1080, 7, 6, 8, 0])], [], [(26, 5, 3, 3)])
theorem oo_Re_isWord_at_s5000_6 {kA : Nat → ClassId} : or_ok PRD kA GG o_Re_isWord_at_s5000_6 := by
  refine or_mk fun A ta ws vs hD hth hl => ?_
  intro t0 r0 t2 k2 t4 k4 t5 k5 t26 k26 t27 k27 t28 k28 t29 k29 d0 f0 f1 f2 f3 f5 f6 f31 f33
  replace f3 := shm_107 f3
  replace f5 := shm_293 f5
  replace f6 := shm_163 f6
  replace f31 := shm_111 f31
  replace f33 := shm_198 f33
  have ad_10 : v_ad (n_v vs 10) = w_ar ws (n_v vs 0) 0 := congrArg v_ad f6
  simp only [ad_10] at f3
  have h3 : v_iv (n_v vs 27) = w_ei ws (w_ar ws (n_v vs 0) 0) (v_iv (n_v vs 26)) := f3
  have g5 : v_iv (n_v vs 5) = w_fi ws (n_v vs 0) 8 := congrArg v_iv f5
  have g31 : v_iv (n_v vs 4) = w_fi ws (n_v vs 0) 6 := congrArg v_iv f31
  have g33 : v_iv (n_v vs 2) = w_fi ws (n_v vs 0) 7 := congrArg v_iv f33
  have kz_0_6 := fdq_208 hD hth r0
  have kz_0_7 := fdq_297 hD hth r0
  have kz_0_8 := fdq_99 hD hth r0
  have nf0 : fc_1 PRD (20, [0, 29], [60, 3, 1, 1080, 7, 6, 8, 0]) ws (vs) := ⟨nf_in hl rfl, sgq_1828 (vc_Re_isWord_at_s5000_6_0 (v_iv (n_v vs 2)) (v_iv (n_v vs 4)) (v_iv (n_v vs 5)) (v_iv (n_v vs 11)) (v_iv (n_v vs 16)) (v_iv (n_v vs 21)) (v_iv (n_v vs 26)) (v_iv (n_v vs 27)) (v_iv (n_v vs 28)) (v_iv (n_v vs 29)) (w_ei ws (w_ar ws (n_v vs 0) 0)) (w_fi ws (n_v vs 0) 8) (w_fi ws (n_v vs 0) 6) (w_fi ws (n_v vs 0) 7) k2 k4 k5 k26 k27 k28 k29 d0 (shm_40 f0) (shm_59 f1) (shm_60 f2) h3 g5 g31 g33 kz_0_6 kz_0_7 kz_0_8)⟩
  refine ⟨(fun _ h => (by cases h)), [], trivial, ?_, (fun _ h => (by cases h))⟩
  rw [List.append_nil]
  exact List.forall_mem_cons.mpr ⟨⟨show (20 : Nat) < 100 from by decide, nf0⟩, (fun _ h => (by cases h))⟩
set_option maxHeartbeats 4000000 in
theorem vc_Re_isWord_at_s5000_7_0 (x2 : Int) (x4 : Int) (x5 : Int) (x11 : Int) (x16 : Int) (x21 : Int) (x22 : Int) (x23 : Int) (x24 : Int) (tape_0 : Int → Int) (begin_0 : Int) (next_0 : Int) (kind_0 : Int) (k2 : 2 ≤ x2 ∧ x2 ≤ 2) (k4 : 4 ≤ x4 ∧ x4 ≤ 2000) (k5 : 0 ≤ x5 ∧ x5 ≤ 2000) (k21 : 2 ≤ x21 ∧ x21 ≤ 1999) (k22 : (-128) ≤ x22 ∧ x22 ≤ 127) (k23 : 0 ≤ x23 ∧ x23 ≤ 65535) (k24 : 0 ≤ x24 ∧ x24 ≤ 0) (d0 : x5 + 2 ≤ x21 ∧ x21 ≤ x5 + 2) (f0 : x22 ≠ x23) (f1 : 1 * x23 + 0 ≤ 100) (f2 : (-1) * x23 + 0 ≤ (-100)) (h3 : x22 = tape_0 (x21)) (g5 : x5 = begin_0) (g24 : x4 = next_0) (g26 : x2 = kind_0) (kz_0_6 : 0 ≤ next_0 ∧ next_0 ≤ 2000) (kz_0_7 : (-128) ≤ kind_0 ∧ kind_0 ≤ 127) (kz_0_8 : 0 ≤ begin_0 ∧ begin_0 ≤ 2000) : CWn (kind_0) (next_0) (begin_0) (tape_0) (x24) := by
  first | subst g5 | skip
  first | subst g24 | skip
  first | subst g26 | skip
  first
    | (right
       refine ⟨by omega, fun w => ?_⟩
       obtain ⟨w0, w1, w2, v0, v1, v2, v3⟩ := w
       try (rw [show x5 = x11 by omega] at v0)
       try (rw [show x5 + 1 = x16 by omega] at v1)
       try (rw [show x5 + 2 = x21 by omega] at v2)
       try (rw [show x5 + 3 = x26 by omega] at v3)
       omega)
    | (left; exact ⟨by omega, by omega, rfl, by omega, by rw [show x5 = x11 by omega]; omega, by rw [show x5 + 1 = x16 by omega]; omega, by rw [show x5 + 2 = x21 by omega]; omega, by rw [show x5 + 3 = x26 by omega]; omega⟩)
def o_Re_isWord_at_s5000_7 : or_T := (56, 25, [(0, (2, 0, 0, [8])), (2, (0, 2, 2, [])), (4, (0, 4, 2000, [])), (5, (0, 0, 2000, [])), (21, (0, 2, 1999, [])), (22, (0, -128, 127, [])), (23, (0, 0, 65535, [])), (24, (0, 0, 0, []))], [(7, [22, 23], [1]), (23, [23], [100, 1]), (23, [23], [-100, -1]), (10, [22, 10, 21], []), (9, [5, 0], [8]), (9, [10, 0], [0]), (9, [4, 0], [6]), (9, [2, 0], [7])], [], [], [(20, [0, 24], [60, 3, 1, 1080, 7, 6, 8, 0])], [], [(21, 5, 2, 2)])
theorem oo_Re_isWord_at_s5000_7 {kA : Nat → ClassId} : or_ok PRD kA GG o_Re_isWord_at_s5000_7 := by
  refine or_mk fun A ta ws vs hD hth hl => ?_
  intro t0 r0 t2 k2 t4 k4 t5 k5 t21 k21 t22 k22 t23 k23 t24 k24 d0 f0 f1 f2 f3 f5 f6 f24 f26
  replace f3 := shm_107 f3
  replace f5 := shm_293 f5
  replace f6 := shm_163 f6
  replace f24 := shm_111 f24
  replace f26 := shm_198 f26
  have ad_10 : v_ad (n_v vs 10) = w_ar ws (n_v vs 0) 0 := congrArg v_ad f6
  simp only [ad_10] at f3
  have h3 : v_iv (n_v vs 22) = w_ei ws (w_ar ws (n_v vs 0) 0) (v_iv (n_v vs 21)) := f3
  have g5 : v_iv (n_v vs 5) = w_fi ws (n_v vs 0) 8 := congrArg v_iv f5
  have g24 : v_iv (n_v vs 4) = w_fi ws (n_v vs 0) 6 := congrArg v_iv f24
  have g26 : v_iv (n_v vs 2) = w_fi ws (n_v vs 0) 7 := congrArg v_iv f26
  have kz_0_6 := fdq_208 hD hth r0
  have kz_0_7 := fdq_297 hD hth r0
  have kz_0_8 := fdq_99 hD hth r0
  have nf0 : fc_1 PRD (20, [0, 24], [60, 3, 1, 1080, 7, 6, 8, 0]) ws (vs) := ⟨nf_in hl rfl, sgq_1828 (vc_Re_isWord_at_s5000_7_0 (v_iv (n_v vs 2)) (v_iv (n_v vs 4)) (v_iv (n_v vs 5)) (v_iv (n_v vs 11)) (v_iv (n_v vs 16)) (v_iv (n_v vs 21)) (v_iv (n_v vs 22)) (v_iv (n_v vs 23)) (v_iv (n_v vs 24)) (w_ei ws (w_ar ws (n_v vs 0) 0)) (w_fi ws (n_v vs 0) 8) (w_fi ws (n_v vs 0) 6) (w_fi ws (n_v vs 0) 7) k2 k4 k5 k21 k22 k23 k24 d0 (shm_40 f0) (shm_57 f1) (shm_58 f2) h3 g5 g24 g26 kz_0_6 kz_0_7 kz_0_8)⟩
  refine ⟨(fun _ h => (by cases h)), [], trivial, ?_, (fun _ h => (by cases h))⟩
  rw [List.append_nil]
  exact List.forall_mem_cons.mpr ⟨⟨show (20 : Nat) < 100 from by decide, nf0⟩, (fun _ h => (by cases h))⟩
set_option maxHeartbeats 4000000 in
theorem vc_Re_isWord_at_s5000_8_0 (x2 : Int) (x4 : Int) (x5 : Int) (x11 : Int) (x16 : Int) (x17 : Int) (x18 : Int) (x19 : Int) (tape_0 : Int → Int) (begin_0 : Int) (next_0 : Int) (kind_0 : Int) (k2 : 2 ≤ x2 ∧ x2 ≤ 2) (k4 : 4 ≤ x4 ∧ x4 ≤ 2000) (k5 : 0 ≤ x5 ∧ x5 ≤ 2000) (k16 : 1 ≤ x16 ∧ x16 ≤ 1999) (k17 : (-128) ≤ x17 ∧ x17 ≤ 127) (k18 : 0 ≤ x18 ∧ x18 ≤ 65535) (k19 : 0 ≤ x19 ∧ x19 ≤ 0) (d0 : x5 + 1 ≤ x16 ∧ x16 ≤ x5 + 1) (f0 : x17 ≠ x18) (f1 : 1 * x18 + 0 ≤ 111) (f2 : (-1) * x18 + 0 ≤ (-111)) (h3 : x17 = tape_0 (x16)) (g5 : x5 = begin_0) (g17 : x4 = next_0) (g19 : x2 = kind_0) (kz_0_6 : 0 ≤ next_0 ∧ next_0 ≤ 2000) (kz_0_7 : (-128) ≤ kind_0 ∧ kind_0 ≤ 127) (kz_0_8 : 0 ≤ begin_0 ∧ begin_0 ≤ 2000) : CWn (kind_0) (next_0) (begin_0) (tape_0) (x19) := by
  first | subst g5 | skip
  first | subst g17 | skip
  first | subst g19 | skip
  first
    | (right
       refine ⟨by omega, fun w => ?_⟩
       obtain ⟨w0, w1, w2, v0, v1, v2, v3⟩ := w
       try (rw [show x5 = x11 by omega] at v0)
       try (rw [show x5 + 1 = x16 by omega] at v1)
       try (rw [show x5 + 2 = x21 by omega] at v2)
       try (rw [show x5 + 3 = x26 by omega] at v3)
       omega)
    | (left; exact ⟨by omega, by omega, rfl, by omega, by rw [show x5 = x11 by omega]; omega, by rw [show x5 + 1 = x16 by omega]; omega, by rw [show x5 + 2 = x21 by omega]; omega, by rw [show x5 + 3 = x26 by omega]; omega⟩)
def o_Re_isWord_at_s5000_8 : or_T := (56, 20, [(0, (2, 0, 0, [8])), (2, (0, 2, 2, [])), (4, (0, 4, 2000, [])), (5, (0, 0, 2000, [])), (16, (0, 1, 1999, [])), (17, (0, -128, 127, [])), (18, (0, 0, 65535, [])), (19, (0, 0, 0, []))], [(7, [17, 18], [1]), (23, [18], [111, 1]), (23, [18], [-111, -1]), (10, [17, 10, 16], []), (9, [5, 0], [8]), (9, [10, 0], [0]), (9, [4, 0], [6]), (9, [2, 0], [7])], [], [], [(20, [0, 19], [60, 3, 1, 1080, 7, 6, 8, 0])], [], [(16, 5, 1, 1)])
theorem oo_Re_isWord_at_s5000_8 {kA : Nat → ClassId} : or_ok PRD kA GG o_Re_isWord_at_s5000_8 := by
  refine or_mk fun A ta ws vs hD hth hl => ?_
  intro t0 r0 t2 k2 t4 k4 t5 k5 t16 k16 t17 k17 t18 k18 t19 k19 d0 f0 f1 f2 f3 f5 f6 f17 f19
  replace f3 := shm_107 f3
  replace f5 := shm_293 f5
  replace f6 := shm_163 f6
  replace f17 := shm_111 f17
  replace f19 := shm_198 f19
  have ad_10 : v_ad (n_v vs 10) = w_ar ws (n_v vs 0) 0 := congrArg v_ad f6
  simp only [ad_10] at f3
  have h3 : v_iv (n_v vs 17) = w_ei ws (w_ar ws (n_v vs 0) 0) (v_iv (n_v vs 16)) := f3
  have g5 : v_iv (n_v vs 5) = w_fi ws (n_v vs 0) 8 := congrArg v_iv f5
  have g17 : v_iv (n_v vs 4) = w_fi ws (n_v vs 0) 6 := congrArg v_iv f17
  have g19 : v_iv (n_v vs 2) = w_fi ws (n_v vs 0) 7 := congrArg v_iv f19
  have kz_0_6 := fdq_208 hD hth r0
  have kz_0_7 := fdq_297 hD hth r0
  have kz_0_8 := fdq_99 hD hth r0
  have nf0 : fc_1 PRD (20, [0, 19], [60, 3, 1, 1080, 7, 6, 8, 0]) ws (vs) := ⟨nf_in hl rfl, sgq_1828 (vc_Re_isWord_at_s5000_8_0 (v_iv (n_v vs 2)) (v_iv (n_v vs 4)) (v_iv (n_v vs 5)) (v_iv (n_v vs 11)) (v_iv (n_v vs 16)) (v_iv (n_v vs 17)) (v_iv (n_v vs 18)) (v_iv (n_v vs 19)) (w_ei ws (w_ar ws (n_v vs 0) 0)) (w_fi ws (n_v vs 0) 8) (w_fi ws (n_v vs 0) 6) (w_fi ws (n_v vs 0) 7) k2 k4 k5 k16 k17 k18 k19 d0 (shm_40 f0) (shm_55 f1) (shm_56 f2) h3 g5 g17 g19 kz_0_6 kz_0_7 kz_0_8)⟩
  refine ⟨(fun _ h => (by cases h)), [], trivial, ?_, (fun _ h => (by cases h))⟩
  rw [List.append_nil]
  exact List.forall_mem_cons.mpr ⟨⟨show (20 : Nat) < 100 from by decide, nf0⟩, (fun _ h => (by cases h))⟩
set_option maxHeartbeats 4000000 in
theorem vc_Re_isWord_at_s5000_9_0 (x2 : Int) (x4 : Int) (x5 : Int) (x11 : Int) (x12 : Int) (x13 : Int) (x14 : Int) (tape_0 : Int → Int) (begin_0 : Int) (next_0 : Int) (kind_0 : Int) (k2 : 2 ≤ x2 ∧ x2 ≤ 2) (k4 : 4 ≤ x4 ∧ x4 ≤ 2000) (k5 : 0 ≤ x5 ∧ x5 ≤ 2000) (k11 : 0 ≤ x11 ∧ x11 ≤ 1999) (k12 : (-128) ≤ x12 ∧ x12 ≤ 127) (k13 : 0 ≤ x13 ∧ x13 ≤ 65535) (k14 : 0 ≤ x14 ∧ x14 ≤ 0) (d0 : x5 + 0 ≤ x11 ∧ x11 ≤ x5 + 0) (f0 : x12 ≠ x13) (f1 : 1 * x13 + 0 ≤ 110) (f2 : (-1) * x13 + 0 ≤ (-110)) (h3 : x12 = tape_0 (x11)) (g5 : x5 = begin_0) (g10 : x4 = next_0) (g12 : x2 = kind_0) (kz_0_6 : 0 ≤ next_0 ∧ next_0 ≤ 2000) (kz_0_7 : (-128) ≤ kind_0 ∧ kind_0 ≤ 127) (kz_0_8 : 0 ≤ begin_0 ∧ begin_0 ≤ 2000) : CWn (kind_0) (next_0) (begin_0) (tape_0) (x14) := by
  first | subst g5 | skip
  first | subst g10 | skip
  first | subst g12 | skip
  first
    | (right
       refine ⟨by omega, fun w => ?_⟩
       obtain ⟨w0, w1, w2, v0, v1, v2, v3⟩ := w
       try (rw [show x5 = x11 by omega] at v0)
       try (rw [show x5 + 1 = x16 by omega] at v1)
       try (rw [show x5 + 2 = x21 by omega] at v2)
       try (rw [show x5 + 3 = x26 by omega] at v3)
       omega)
    | (left; exact ⟨by omega, by omega, rfl, by omega, by rw [show x5 = x11 by omega]; omega, by rw [show x5 + 1 = x16 by omega]; omega, by rw [show x5 + 2 = x21 by omega]; omega, by rw [show x5 + 3 = x26 by omega]; omega⟩)
def o_Re_isWord_at_s5000_9 : or_T := (56, 15, [(0, (2, 0, 0, [8])), (2, (0, 2, 2, [])), (4, (0, 4, 2000, [])), (5, (0, 0, 2000, [])), (11, (0, 0, 1999, [])), (12, (0, -128, 127, [])), (13, (0, 0, 65535, [])), (14, (0, 0, 0, []))], [(7, [12, 13], [1]), (23, [13], [110, 1]), (23, [13], [-110, -1]), (10, [12, 10, 11], []), (9, [5, 0], [8]), (9, [10, 0], [0]), (9, [4, 0], [6]), (9, [2, 0], [7])], [], [], [(20, [0, 14], [60, 3, 1, 1080, 7, 6, 8, 0])], [], [(11, 5, 0, 0)])
theorem oo_Re_isWord_at_s5000_9 {kA : Nat → ClassId} : or_ok PRD kA GG o_Re_isWord_at_s5000_9 := by
  refine or_mk fun A ta ws vs hD hth hl => ?_
  intro t0 r0 t2 k2 t4 k4 t5 k5 t11 k11 t12 k12 t13 k13 t14 k14 d0 f0 f1 f2 f3 f5 f6 f10 f12
  replace f3 := shm_107 f3
  replace f5 := shm_293 f5
  replace f6 := shm_163 f6
  replace f10 := shm_111 f10
  replace f12 := shm_198 f12
  have ad_10 : v_ad (n_v vs 10) = w_ar ws (n_v vs 0) 0 := congrArg v_ad f6
  simp only [ad_10] at f3
  have h3 : v_iv (n_v vs 12) = w_ei ws (w_ar ws (n_v vs 0) 0) (v_iv (n_v vs 11)) := f3
  have g5 : v_iv (n_v vs 5) = w_fi ws (n_v vs 0) 8 := congrArg v_iv f5
  have g10 : v_iv (n_v vs 4) = w_fi ws (n_v vs 0) 6 := congrArg v_iv f10
  have g12 : v_iv (n_v vs 2) = w_fi ws (n_v vs 0) 7 := congrArg v_iv f12
  have kz_0_6 := fdq_208 hD hth r0
  have kz_0_7 := fdq_297 hD hth r0
  have kz_0_8 := fdq_99 hD hth r0
  have nf0 : fc_1 PRD (20, [0, 14], [60, 3, 1, 1080, 7, 6, 8, 0]) ws (vs) := ⟨nf_in hl rfl, sgq_1828 (vc_Re_isWord_at_s5000_9_0 (v_iv (n_v vs 2)) (v_iv (n_v vs 4)) (v_iv (n_v vs 5)) (v_iv (n_v vs 11)) (v_iv (n_v vs 12)) (v_iv (n_v vs 13)) (v_iv (n_v vs 14)) (w_ei ws (w_ar ws (n_v vs 0) 0)) (w_fi ws (n_v vs 0) 8) (w_fi ws (n_v vs 0) 6) (w_fi ws (n_v vs 0) 7) k2 k4 k5 k11 k12 k13 k14 d0 (shm_40 f0) (shm_53 f1) (shm_54 f2) h3 g5 g10 g12 kz_0_6 kz_0_7 kz_0_8)⟩
  refine ⟨(fun _ h => (by cases h)), [], trivial, ?_, (fun _ h => (by cases h))⟩
  rw [List.append_nil]
  exact List.forall_mem_cons.mpr ⟨⟨show (20 : Nat) < 100 from by decide, nf0⟩, (fun _ h => (by cases h))⟩
set_option maxHeartbeats 4000000 in
theorem vc_Re_isWord_at_s5000_10_0 (x2 : Int) (x4 : Int) (x5 : Int) (x6 : Int) (x7 : Int) (x8 : Int) (begin_0 : Int) (next_0 : Int) (kind_0 : Int) (tape_0 : Int → Int) (k2 : 2 ≤ x2 ∧ x2 ≤ 2) (k4 : 0 ≤ x4 ∧ x4 ≤ 2000) (k5 : 0 ≤ x5 ∧ x5 ≤ 2000) (k6 : (-2000) ≤ x6 ∧ x6 ≤ 2000) (k7 : 4 ≤ x7 ∧ x7 ≤ 4) (k8 : 0 ≤ x8 ∧ x8 ≤ 0) (f0 : x6 ≠ x7) (f1 : x6 = x4 - x5) (g2 : x5 = begin_0) (g3 : x4 = next_0) (g5 : x2 = kind_0) (kz_0_6 : 0 ≤ next_0 ∧ next_0 ≤ 2000) (kz_0_7 : (-128) ≤ kind_0 ∧ kind_0 ≤ 127) (kz_0_8 : 0 ≤ begin_0 ∧ begin_0 ≤ 2000) : CWn (kind_0) (next_0) (begin_0) (tape_0) (x8) := by
  first | subst g2 | skip
  first | subst g3 | skip
  first | subst g5 | skip
  first
    | (right
       refine ⟨by omega, fun w => ?_⟩
       obtain ⟨w0, w1, w2, v0, v1, v2, v3⟩ := w
       try (rw [show x5 = x11 by omega] at v0)
       try (rw [show x5 + 1 = x16 by omega] at v1)
       try (rw [show x5 + 2 = x21 by omega] at v2)
       try (rw [show x5 + 3 = x26 by omega] at v3)
       omega)
    | (left; exact ⟨by omega, by omega, rfl, by omega, by rw [show x5 = x11 by omega]; omega, by rw [show x5 + 1 = x16 by omega]; omega, by rw [show x5 + 2 = x21 by omega]; omega, by rw [show x5 + 3 = x26 by omega]; omega⟩)
def o_Re_isWord_at_s5000_10 : or_T := (25, 9, [(0, (2, 0, 0, [8])), (2, (0, 2, 2, [])), (4, (0, 0, 2000, [])), (5, (0, 0, 2000, [])), (6, (0, -2000, 2000, [])), (7, (0, 4, 4, [])), (8, (0, 0, 0, []))], [(7, [6, 7], [1]), (2, [6, 4, 5], []), (9, [5, 0], [8]), (9, [4, 0], [6]), (9, [2, 0], [7])], [], [], [(20, [0, 8], [60, 3, 1, 1080, 7, 6, 8, 0])], [], [])
theorem oo_Re_isWord_at_s5000_10 {kA : Nat → ClassId} : or_ok PRD kA GG o_Re_isWord_at_s5000_10 := by
  refine or_mk fun A ta ws vs hD hth hl => ?_
  intro t0 r0 t2 k2 t4 k4 t5 k5 t6 k6 t7 k7 t8 k8 f0 f1 f2 f3 f5
  replace f2 := shm_293 f2
  replace f3 := shm_111 f3
  replace f5 := shm_198 f5
  have g2 : v_iv (n_v vs 5) = w_fi ws (n_v vs 0) 8 := congrArg v_iv f2
  have g3 : v_iv (n_v vs 4) = w_fi ws (n_v vs 0) 6 := congrArg v_iv f3
  have g5 : v_iv (n_v vs 2) = w_fi ws (n_v vs 0) 7 := congrArg v_iv f5
  have kz_0_6 := fdq_208 hD hth r0
  have kz_0_7 := fdq_297 hD hth r0
  have kz_0_8 := fdq_99 hD hth r0
  have nf0 : fc_1 PRD (20, [0, 8], [60, 3, 1, 1080, 7, 6, 8, 0]) ws (vs) := ⟨nf_in hl rfl, sgq_1828 (vc_Re_isWord_at_s5000_10_0 (v_iv (n_v vs 2)) (v_iv (n_v vs 4)) (v_iv (n_v vs 5)) (v_iv (n_v vs 6)) (v_iv (n_v vs 7)) (v_iv (n_v vs 8)) (w_fi ws (n_v vs 0) 8) (w_fi ws (n_v vs 0) 6) (w_fi ws (n_v vs 0) 7) (w_ei ws (w_ar ws (n_v vs 0) 0)) k2 k4 k5 k6 k7 k8 (shm_40 f0) (shm_14 f1) g2 g3 g5 kz_0_6 kz_0_7 kz_0_8)⟩
  refine ⟨(fun _ h => (by cases h)), [], trivial, ?_, (fun _ h => (by cases h))⟩
  rw [List.append_nil]
  exact List.forall_mem_cons.mpr ⟨⟨show (20 : Nat) < 100 from by decide, nf0⟩, (fun _ h => (by cases h))⟩
def n_Re_isWord_at_s5000_an : List an_T := []
def t_Re_isWord_at_s5000_ct : ct_L := [(58, 84, e_jStr_length_v288), (94, 84, e_jStr_length_v288), (151, 89, e_jStr_charAt_v290), (151, 89, e_jStr_charAt_v294), (151, 89, e_jStr_charAt_v298), (151, 89, e_jStr_charAt_v302)]
set_option maxRecDepth 100000 in
theorem c_Re_isWord_at_s5000 {l : Launch} {D : va_G} {kA : Nat → ClassId} : ct_ok PRD l D kA GG y_Re_isWord_at_s5000 z_Re_isWord_at_s5000 e_Re_isWord_at_s5000 := chk_all_ok (FT := [(9, 8, 0), (35, 8, 6), (38, 8, 7), (41, 8, 8)]) (PT := []) (CT := t_Re_isWord_at_s5000_ct) (KT := []) (NT := []) (AN := n_Re_isWord_at_s5000_an) (OT := [o_Re_isWord_at_s5000_0, o_Re_isWord_at_s5000_1, o_Re_isWord_at_s5000_2, o_Re_isWord_at_s5000_3, o_Re_isWord_at_s5000_4, o_Re_isWord_at_s5000_5, o_Re_isWord_at_s5000_6, o_Re_isWord_at_s5000_7, o_Re_isWord_at_s5000_8, o_Re_isWord_at_s5000_9, o_Re_isWord_at_s5000_10]) 0 400 (List.forall_mem_cons.mpr ⟨oo_Re_isWord_at_s5000_0, List.forall_mem_cons.mpr ⟨oo_Re_isWord_at_s5000_1, List.forall_mem_cons.mpr ⟨oo_Re_isWord_at_s5000_2, List.forall_mem_cons.mpr ⟨oo_Re_isWord_at_s5000_3, List.forall_mem_cons.mpr ⟨oo_Re_isWord_at_s5000_4, List.forall_mem_cons.mpr ⟨oo_Re_isWord_at_s5000_5, List.forall_mem_cons.mpr ⟨oo_Re_isWord_at_s5000_6, List.forall_mem_cons.mpr ⟨oo_Re_isWord_at_s5000_7, List.forall_mem_cons.mpr ⟨oo_Re_isWord_at_s5000_8, List.forall_mem_cons.mpr ⟨oo_Re_isWord_at_s5000_9, List.forall_mem_cons.mpr ⟨oo_Re_isWord_at_s5000_10, List.forall_mem_nil _⟩⟩⟩⟩⟩⟩⟩⟩⟩⟩⟩) (by decide +kernel) ⟨List.forall_mem_cons.mpr ⟨gf_Re_9, List.forall_mem_cons.mpr ⟨gf_Re_35, List.forall_mem_cons.mpr ⟨gf_Re_38, List.forall_mem_cons.mpr ⟨gf_Re_41, List.forall_mem_nil _⟩⟩⟩⟩, List.forall_mem_nil _, List.forall_mem_cons.mpr ⟨cl_string (y := y_jStr_length) (i := 0) rfl rfl (by decide +kernel) rfl c_jStr_length_v288 wm_674 wm_11 wm_671 wm_672 wm_673 ⟨by decide, by decide, by decide +kernel⟩ (by decide), List.forall_mem_cons.mpr ⟨cl_string (y := y_jStr_length) (i := 0) rfl rfl (by decide +kernel) rfl c_jStr_length_v288 wm_674 wm_11 wm_671 wm_672 wm_673 ⟨by decide, by decide, by decide +kernel⟩ (by decide), List.forall_mem_cons.mpr ⟨cl_string (y := y_jStr_charAt) (i := 0) rfl rfl (by decide +kernel) rfl c_jStr_charAt_v290 wm_684 wm_11 wm_681 wm_682 wm_683 ⟨by decide, by decide, by decide +kernel⟩ (by decide), List.forall_mem_cons.mpr ⟨cl_string (y := y_jStr_charAt) (i := 0) rfl rfl (by decide +kernel) rfl c_jStr_charAt_v294 wm_684 wm_11 wm_681 wm_682 wm_683 ⟨by decide, by decide, by decide +kernel⟩ (by decide), List.forall_mem_cons.mpr ⟨cl_string (y := y_jStr_charAt) (i := 0) rfl rfl (by decide +kernel) rfl c_jStr_charAt_v298 wm_684 wm_11 wm_681 wm_682 wm_683 ⟨by decide, by decide, by decide +kernel⟩ (by decide), List.forall_mem_cons.mpr ⟨cl_string (y := y_jStr_charAt) (i := 0) rfl rfl (by decide +kernel) rfl c_jStr_charAt_v302 wm_684 wm_11 wm_681 wm_682 wm_683 ⟨by decide, by decide, by decide +kernel⟩ (by decide), List.forall_mem_nil _⟩⟩⟩⟩⟩⟩, List.forall_mem_nil _, List.forall_mem_nil _, GG_pl⟩ (by decide +kernel)

set_option maxHeartbeats 4000000 in
theorem vc_Re_isWord_at_s5001_0_0 (x2 : Int) (x3 : Int) (x4 : Int) (kind_0 : Int) (tape_0 : Int → Int) (next_0 : Int) (begin_0 : Int) (k2 : (-128) ≤ x2 ∧ x2 ≤ 127) (k3 : 2 ≤ x3 ∧ x3 ≤ 2) (k4 : 0 ≤ x4 ∧ x4 ≤ 0) (f0 : x2 ≠ x3) (g1 : x2 = kind_0) (kz_0_6 : 0 ≤ next_0 ∧ next_0 ≤ 2000) (kz_0_7 : (-128) ≤ kind_0 ∧ kind_0 ≤ 127) (kz_0_8 : 0 ≤ begin_0 ∧ begin_0 ≤ 2000) : CWg (kind_0) (next_0) (begin_0) (tape_0) (x4) := by
  first | subst g1 | skip
  first
    | (right
       refine ⟨by omega, fun w => ?_⟩
       obtain ⟨w0, w1, w2, v0, v1, v2, v3, v4⟩ := w
       try (rw [show x5 = x11 by omega] at v0)
       try (rw [show x5 + 1 = x16 by omega] at v1)
       try (rw [show x5 + 2 = x21 by omega] at v2)
       try (rw [show x5 + 3 = x26 by omega] at v3)
       try (rw [show x5 + 4 = x31 by omega] at v4)
       omega)
    | (left; exact ⟨by omega, by omega, rfl, by omega, by rw [show x5 = x11 by omega]; omega, by rw [show x5 + 1 = x16 by omega]; omega, by rw [show x5 + 2 = x21 by omega]; omega, by rw [show x5 + 3 = x26 by omega]; omega, by rw [show x5 + 4 = x31 by omega]; omega⟩)
def o_Re_isWord_at_s5001_0 : or_T := (25, 5, [(0, (2, 0, 0, [8])), (2, (0, -128, 127, [])), (3, (0, 2, 2, [])), (4, (0, 0, 0, []))], [(7, [2, 3], [1]), (9, [2, 0], [7])], [], [], [(20, [0, 4], [60, 3, 1, 1081, 7, 6, 8, 0])], [], [])
theorem oo_Re_isWord_at_s5001_0 {kA : Nat → ClassId} : or_ok PRD kA GG o_Re_isWord_at_s5001_0 := by
  refine or_mk fun A ta ws vs hD hth hl => ?_
  intro t0 r0 t2 k2 t3 k3 t4 k4 f0 f1
  replace f1 := shm_198 f1
  have g1 : v_iv (n_v vs 2) = w_fi ws (n_v vs 0) 7 := congrArg v_iv f1
  have kz_0_6 := fdq_208 hD hth r0
  have kz_0_7 := fdq_297 hD hth r0
  have kz_0_8 := fdq_99 hD hth r0
  have nf0 : fc_1 PRD (20, [0, 4], [60, 3, 1, 1081, 7, 6, 8, 0]) ws (vs) := ⟨nf_in hl rfl, sgq_1829 (vc_Re_isWord_at_s5001_0_0 (v_iv (n_v vs 2)) (v_iv (n_v vs 3)) (v_iv (n_v vs 4)) (w_fi ws (n_v vs 0) 7) (w_ei ws (w_ar ws (n_v vs 0) 0)) (w_fi ws (n_v vs 0) 6) (w_fi ws (n_v vs 0) 8) k2 k3 k4 (shm_40 f0) g1 kz_0_6 kz_0_7 kz_0_8)⟩
  refine ⟨(fun _ h => (by cases h)), [], trivial, ?_, (fun _ h => (by cases h))⟩
  rw [List.append_nil]
  exact List.forall_mem_cons.mpr ⟨⟨show (20 : Nat) < 100 from by decide, nf0⟩, (fun _ h => (by cases h))⟩
set_option maxHeartbeats 4000000 in
theorem vc_Re_isWord_at_s5001_1_r0 (x4 : Int) (x5 : Int) (x6 : Int) (x11 : Int) (begin_0 : Int) (next_0 : Int) (k4 : 5 ≤ x4 ∧ x4 ≤ 2000) (k5 : 0 ≤ x5 ∧ x5 ≤ 2000) (k6 : 5 ≤ x6 ∧ x6 ≤ 5) (k11 : 0 ≤ x11 ∧ x11 ≤ 2000) (d0 : x5 + 0 ≤ x11 ∧ x11 ≤ x5 + 0) (g1 : x5 = begin_0) (f4 : x6 = x4 - x5) (g5 : x4 = next_0) (kz_0_6 : 0 ≤ next_0 ∧ next_0 ≤ 2000) (kz_0_8 : 0 ≤ begin_0 ∧ begin_0 ≤ 2000) : 0 ≤ x11 ∧ x11 ≤ 1999 := by
  omega
def o_Re_isWord_at_s5001_1 : or_T := (46, 12, [(0, (2, 0, 0, [8])), (4, (0, 5, 2000, [])), (5, (0, 0, 2000, [])), (6, (0, 5, 5, [])), (7, (0, 5, 5, [])), (8, (0, 0, 0, [])), (9, (0, 5, 5, [])), (11, (0, 0, 2000, []))], [(1, [11, 5, 8], []), (9, [5, 0], [8]), (7, [8, 9], [2]), (7, [6, 7], [0]), (2, [6, 4, 5], []), (9, [4, 0], [6])], [(11, (0, 0, 1999, []))], [], [], [], [(11, 5, 0, 0)])
theorem oo_Re_isWord_at_s5001_1 {kA : Nat → ClassId} : or_ok PRD kA GG o_Re_isWord_at_s5001_1 := by
  refine or_mk fun A ta ws vs hD hth hl => ?_
  intro t0 r0 t4 k4 t5 k5 t6 k6 t7 k7 t8 k8 t9 k9 t11 k11 d0 f0 f1 f2 f3 f4 f5
  replace f1 := shm_293 f1
  replace f5 := shm_111 f5
  have g1 : v_iv (n_v vs 5) = w_fi ws (n_v vs 0) 8 := congrArg v_iv f1
  have g5 : v_iv (n_v vs 4) = w_fi ws (n_v vs 0) 6 := congrArg v_iv f5
  have kz_0_6 := fdq_208 hD hth r0
  have kz_0_8 := fdq_99 hD hth r0
  have hrf0 : 0 ≤ v_iv (n_v vs 11) ∧ v_iv (n_v vs 11) ≤ 1999 := vc_Re_isWord_at_s5001_1_r0 (v_iv (n_v vs 4)) (v_iv (n_v vs 5)) (v_iv (n_v vs 6)) (v_iv (n_v vs 11)) (w_fi ws (n_v vs 0) 8) (w_fi ws (n_v vs 0) 6) k4 k5 k6 k11 d0 g1 (shm_14 f4) g5 kz_0_6 kz_0_8
  have rf11 : tv_ok ta (0, 0, 1999, []) (n_v vs 11) := tv_in t11 (by omega) (by omega)
  refine ⟨List.forall_mem_cons.mpr ⟨rf11, (fun _ h => (by cases h))⟩, [], trivial, ?_, (fun _ h => (by cases h))⟩
  rw [List.append_nil]
  exact (fun _ h => (by cases h))
set_option maxHeartbeats 4000000 in
theorem vc_Re_isWord_at_s5001_2_r0 (x4 : Int) (x5 : Int) (x6 : Int) (x16 : Int) (begin_0 : Int) (next_0 : Int) (k4 : 5 ≤ x4 ∧ x4 ≤ 2000) (k5 : 0 ≤ x5 ∧ x5 ≤ 2000) (k6 : 5 ≤ x6 ∧ x6 ≤ 5) (k16 : 1 ≤ x16 ∧ x16 ≤ 2001) (d0 : x5 + 1 ≤ x16 ∧ x16 ≤ x5 + 1) (g1 : x5 = begin_0) (f7 : x6 = x4 - x5) (g8 : x4 = next_0) (kz_0_6 : 0 ≤ next_0 ∧ next_0 ≤ 2000) (kz_0_8 : 0 ≤ begin_0 ∧ begin_0 ≤ 2000) : 1 ≤ x16 ∧ x16 ≤ 1999 := by
  omega
def o_Re_isWord_at_s5001_2 : or_T := (46, 17, [(0, (2, 0, 0, [8])), (4, (0, 5, 2000, [])), (5, (0, 0, 2000, [])), (6, (0, 5, 5, [])), (7, (0, 5, 5, [])), (8, (0, 0, 0, [])), (9, (0, 5, 5, [])), (11, (0, 0, 1999, [])), (14, (0, 1, 1, [])), (15, (0, 5, 5, [])), (16, (0, 1, 2001, []))], [(1, [16, 5, 14], []), (9, [5, 0], [8]), (7, [14, 15], [2]), (6, [14, 8], [1]), (1, [11, 5, 8], []), (7, [8, 9], [2]), (7, [6, 7], [0]), (2, [6, 4, 5], []), (9, [4, 0], [6])], [(16, (0, 1, 1999, []))], [], [], [], [(16, 5, 1, 1), (11, 5, 0, 0)])
theorem oo_Re_isWord_at_s5001_2 {kA : Nat → ClassId} : or_ok PRD kA GG o_Re_isWord_at_s5001_2 := by
  refine or_mk fun A ta ws vs hD hth hl => ?_
  intro t0 r0 t4 k4 t5 k5 t6 k6 t7 k7 t8 k8 t9 k9 t11 k11 t14 k14 t15 k15 t16 k16 d0 d1 f0 f1 f2 f3 f4 f5 f6 f7 f8
  replace f1 := shm_293 f1
  replace f8 := shm_111 f8
  have g1 : v_iv (n_v vs 5) = w_fi ws (n_v vs 0) 8 := congrArg v_iv f1
  have g8 : v_iv (n_v vs 4) = w_fi ws (n_v vs 0) 6 := congrArg v_iv f8
  have kz_0_6 := fdq_208 hD hth r0
  have kz_0_8 := fdq_99 hD hth r0
  have hrf0 : 1 ≤ v_iv (n_v vs 16) ∧ v_iv (n_v vs 16) ≤ 1999 := vc_Re_isWord_at_s5001_2_r0 (v_iv (n_v vs 4)) (v_iv (n_v vs 5)) (v_iv (n_v vs 6)) (v_iv (n_v vs 16)) (w_fi ws (n_v vs 0) 8) (w_fi ws (n_v vs 0) 6) k4 k5 k6 k16 d0 g1 (shm_14 f7) g8 kz_0_6 kz_0_8
  have rf16 : tv_ok ta (0, 1, 1999, []) (n_v vs 16) := tv_in t16 (by omega) (by omega)
  refine ⟨List.forall_mem_cons.mpr ⟨rf16, (fun _ h => (by cases h))⟩, [], trivial, ?_, (fun _ h => (by cases h))⟩
  rw [List.append_nil]
  exact (fun _ h => (by cases h))
set_option maxHeartbeats 4000000 in
theorem vc_Re_isWord_at_s5001_3_r0 (x4 : Int) (x5 : Int) (x6 : Int) (x21 : Int) (begin_0 : Int) (next_0 : Int) (k4 : 5 ≤ x4 ∧ x4 ≤ 2000) (k5 : 0 ≤ x5 ∧ x5 ≤ 2000) (k6 : 5 ≤ x6 ∧ x6 ≤ 5) (k21 : 2 ≤ x21 ∧ x21 ≤ 2002) (d0 : x5 + 2 ≤ x21 ∧ x21 ≤ x5 + 2) (g1 : x5 = begin_0) (f10 : x6 = x4 - x5) (g11 : x4 = next_0) (kz_0_6 : 0 ≤ next_0 ∧ next_0 ≤ 2000) (kz_0_8 : 0 ≤ begin_0 ∧ begin_0 ≤ 2000) : 2 ≤ x21 ∧ x21 ≤ 1999 := by
  omega
def o_Re_isWord_at_s5001_3 : or_T := (46, 22, [(0, (2, 0, 0, [8])), (4, (0, 5, 2000, [])), (5, (0, 0, 2000, [])), (6, (0, 5, 5, [])), (7, (0, 5, 5, [])), (8, (0, 0, 0, [])), (9, (0, 5, 5, [])), (11, (0, 0, 1999, [])), (14, (0, 1, 1, [])), (15, (0, 5, 5, [])), (16, (0, 1, 1999, [])), (19, (0, 2, 2, [])), (20, (0, 5, 5, [])), (21, (0, 2, 2002, []))], [(1, [21, 5, 19], []), (9, [5, 0], [8]), (7, [19, 20], [2]), (6, [19, 14], [1]), (1, [16, 5, 14], []), (7, [14, 15], [2]), (6, [14, 8], [1]), (1, [11, 5, 8], []), (7, [8, 9], [2]), (7, [6, 7], [0]), (2, [6, 4, 5], []), (9, [4, 0], [6])], [(21, (0, 2, 1999, []))], [], [], [], [(21, 5, 2, 2), (16, 5, 1, 1), (11, 5, 0, 0)])
theorem oo_Re_isWord_at_s5001_3 {kA : Nat → ClassId} : or_ok PRD kA GG o_Re_isWord_at_s5001_3 := by
  refine or_mk fun A ta ws vs hD hth hl => ?_
  intro t0 r0 t4 k4 t5 k5 t6 k6 t7 k7 t8 k8 t9 k9 t11 k11 t14 k14 t15 k15 t16 k16 t19 k19 t20 k20 t21 k21 d0 d1 d2 f0 f1 f2 f3 f4 f5 f6 f7 f8 f9 f10 f11
  replace f1 := shm_293 f1
  replace f11 := shm_111 f11
  have g1 : v_iv (n_v vs 5) = w_fi ws (n_v vs 0) 8 := congrArg v_iv f1
  have g11 : v_iv (n_v vs 4) = w_fi ws (n_v vs 0) 6 := congrArg v_iv f11
  have kz_0_6 := fdq_208 hD hth r0
  have kz_0_8 := fdq_99 hD hth r0
  have hrf0 : 2 ≤ v_iv (n_v vs 21) ∧ v_iv (n_v vs 21) ≤ 1999 := vc_Re_isWord_at_s5001_3_r0 (v_iv (n_v vs 4)) (v_iv (n_v vs 5)) (v_iv (n_v vs 6)) (v_iv (n_v vs 21)) (w_fi ws (n_v vs 0) 8) (w_fi ws (n_v vs 0) 6) k4 k5 k6 k21 d0 g1 (shm_14 f10) g11 kz_0_6 kz_0_8
  have rf21 : tv_ok ta (0, 2, 1999, []) (n_v vs 21) := tv_in t21 (by omega) (by omega)
  refine ⟨List.forall_mem_cons.mpr ⟨rf21, (fun _ h => (by cases h))⟩, [], trivial, ?_, (fun _ h => (by cases h))⟩
  rw [List.append_nil]
  exact (fun _ h => (by cases h))
set_option maxHeartbeats 4000000 in
theorem vc_Re_isWord_at_s5001_4_r0 (x4 : Int) (x5 : Int) (x6 : Int) (x26 : Int) (begin_0 : Int) (next_0 : Int) (k4 : 5 ≤ x4 ∧ x4 ≤ 2000) (k5 : 0 ≤ x5 ∧ x5 ≤ 2000) (k6 : 5 ≤ x6 ∧ x6 ≤ 5) (k26 : 3 ≤ x26 ∧ x26 ≤ 2003) (d0 : x5 + 3 ≤ x26 ∧ x26 ≤ x5 + 3) (g1 : x5 = begin_0) (f13 : x6 = x4 - x5) (g14 : x4 = next_0) (kz_0_6 : 0 ≤ next_0 ∧ next_0 ≤ 2000) (kz_0_8 : 0 ≤ begin_0 ∧ begin_0 ≤ 2000) : 3 ≤ x26 ∧ x26 ≤ 1999 := by
  omega
def o_Re_isWord_at_s5001_4 : or_T := (46, 27, [(0, (2, 0, 0, [8])), (4, (0, 5, 2000, [])), (5, (0, 0, 2000, [])), (6, (0, 5, 5, [])), (7, (0, 5, 5, [])), (8, (0, 0, 0, [])), (9, (0, 5, 5, [])), (11, (0, 0, 1999, [])), (14, (0, 1, 1, [])), (15, (0, 5, 5, [])), (16, (0, 1, 1999, [])), (19, (0, 2, 2, [])), (20, (0, 5, 5, [])), (21, (0, 2, 1999, [])), (24, (0, 3, 3, [])), (25, (0, 5, 5, [])), (26, (0, 3, 2003, []))], [(1, [26, 5, 24], []), (9, [5, 0], [8]), (7, [24, 25], [2]), (6, [24, 19], [1]), (1, [21, 5, 19], []), (7, [19, 20], [2]), (6, [19, 14], [1]), (1, [16, 5, 14], []), (7, [14, 15], [2]), (6, [14, 8], [1]), (1, [11, 5, 8], []), (7, [8, 9], [2]), (7, [6, 7], [0]), (2, [6, 4, 5], []), (9, [4, 0], [6])], [(26, (0, 3, 1999, []))], [], [], [], [(26, 5, 3, 3), (21, 5, 2, 2), (16, 5, 1, 1), (11, 5, 0, 0)])
theorem oo_Re_isWord_at_s5001_4 {kA : Nat → ClassId} : or_ok PRD kA GG o_Re_isWord_at_s5001_4 := by
  refine or_mk fun A ta ws vs hD hth hl => ?_
  intro t0 r0 t4 k4 t5 k5 t6 k6 t7 k7 t8 k8 t9 k9 t11 k11 t14 k14 t15 k15 t16 k16 t19 k19 t20 k20 t21 k21 t24 k24 t25 k25 t26 k26 d0 d1 d2 d3 f0 f1 f2 f3 f4 f5 f6 f7 f8 f9 f10 f11 f12 f13 f14
  replace f1 := shm_293 f1
  replace f14 := shm_111 f14
  have g1 : v_iv (n_v vs 5) = w_fi ws (n_v vs 0) 8 := congrArg v_iv f1
  have g14 : v_iv (n_v vs 4) = w_fi ws (n_v vs 0) 6 := congrArg v_iv f14
  have kz_0_6 := fdq_208 hD hth r0
  have kz_0_8 := fdq_99 hD hth r0
  have hrf0 : 3 ≤ v_iv (n_v vs 26) ∧ v_iv (n_v vs 26) ≤ 1999 := vc_Re_isWord_at_s5001_4_r0 (v_iv (n_v vs 4)) (v_iv (n_v vs 5)) (v_iv (n_v vs 6)) (v_iv (n_v vs 26)) (w_fi ws (n_v vs 0) 8) (w_fi ws (n_v vs 0) 6) k4 k5 k6 k26 d0 g1 (shm_14 f13) g14 kz_0_6 kz_0_8
  have rf26 : tv_ok ta (0, 3, 1999, []) (n_v vs 26) := tv_in t26 (by omega) (by omega)
  refine ⟨List.forall_mem_cons.mpr ⟨rf26, (fun _ h => (by cases h))⟩, [], trivial, ?_, (fun _ h => (by cases h))⟩
  rw [List.append_nil]
  exact (fun _ h => (by cases h))
set_option maxHeartbeats 4000000 in
theorem vc_Re_isWord_at_s5001_5_r0 (x4 : Int) (x5 : Int) (x6 : Int) (x31 : Int) (begin_0 : Int) (next_0 : Int) (k4 : 5 ≤ x4 ∧ x4 ≤ 2000) (k5 : 0 ≤ x5 ∧ x5 ≤ 2000) (k6 : 5 ≤ x6 ∧ x6 ≤ 5) (k31 : 4 ≤ x31 ∧ x31 ≤ 2004) (d0 : x5 + 4 ≤ x31 ∧ x31 ≤ x5 + 4) (g1 : x5 = begin_0) (f16 : x6 = x4 - x5) (g17 : x4 = next_0) (kz_0_6 : 0 ≤ next_0 ∧ next_0 ≤ 2000) (kz_0_8 : 0 ≤ begin_0 ∧ begin_0 ≤ 2000) : 4 ≤ x31 ∧ x31 ≤ 1999 := by
  omega
def o_Re_isWord_at_s5001_5 : or_T := (46, 32, [(0, (2, 0, 0, [8])), (4, (0, 5, 2000, [])), (5, (0, 0, 2000, [])), (6, (0, 5, 5, [])), (7, (0, 5, 5, [])), (8, (0, 0, 0, [])), (9, (0, 5, 5, [])), (11, (0, 0, 1999, [])), (14, (0, 1, 1, [])), (15, (0, 5, 5, [])), (16, (0, 1, 1999, [])), (19, (0, 2, 2, [])), (20, (0, 5, 5, [])), (21, (0, 2, 1999, [])), (24, (0, 3, 3, [])), (25, (0, 5, 5, [])), (26, (0, 3, 1999, [])), (29, (0, 4, 4, [])), (30, (0, 5, 5, [])), (31, (0, 4, 2004, []))], [(1, [31, 5, 29], []), (9, [5, 0], [8]), (7, [29, 30], [2]), (6, [29, 24], [1]), (1, [26, 5, 24], []), (7, [24, 25], [2]), (6, [24, 19], [1]), (1, [21, 5, 19], []), (7, [19, 20], [2]), (6, [19, 14], [1]), (1, [16, 5, 14], []), (7, [14, 15], [2]), (6, [14, 8], [1]), (1, [11, 5, 8], []), (7, [8, 9], [2]), (7, [6, 7], [0]), (2, [6, 4, 5], []), (9, [4, 0], [6])], [(31, (0, 4, 1999, []))], [], [], [], [(31, 5, 4, 4), (26, 5, 3, 3), (21, 5, 2, 2), (16, 5, 1, 1), (11, 5, 0, 0)])
theorem oo_Re_isWord_at_s5001_5 {kA : Nat → ClassId} : or_ok PRD kA GG o_Re_isWord_at_s5001_5 := by
  refine or_mk fun A ta ws vs hD hth hl => ?_
  intro t0 r0 t4 k4 t5 k5 t6 k6 t7 k7 t8 k8 t9 k9 t11 k11 t14 k14 t15 k15 t16 k16 t19 k19 t20 k20 t21 k21 t24 k24 t25 k25 t26 k26 t29 k29 t30 k30 t31 k31 d0 d1 d2 d3 d4 f0 f1 f2 f3 f4 f5 f6 f7 f8 f9 f10 f11 f12 f13 f14 f15 f16 f17
  replace f1 := shm_293 f1
  replace f17 := shm_111 f17
  have g1 : v_iv (n_v vs 5) = w_fi ws (n_v vs 0) 8 := congrArg v_iv f1
  have g17 : v_iv (n_v vs 4) = w_fi ws (n_v vs 0) 6 := congrArg v_iv f17
  have kz_0_6 := fdq_208 hD hth r0
  have kz_0_8 := fdq_99 hD hth r0
  have hrf0 : 4 ≤ v_iv (n_v vs 31) ∧ v_iv (n_v vs 31) ≤ 1999 := vc_Re_isWord_at_s5001_5_r0 (v_iv (n_v vs 4)) (v_iv (n_v vs 5)) (v_iv (n_v vs 6)) (v_iv (n_v vs 31)) (w_fi ws (n_v vs 0) 8) (w_fi ws (n_v vs 0) 6) k4 k5 k6 k31 d0 g1 (shm_14 f16) g17 kz_0_6 kz_0_8
  have rf31 : tv_ok ta (0, 4, 1999, []) (n_v vs 31) := tv_in t31 (by omega) (by omega)
  refine ⟨List.forall_mem_cons.mpr ⟨rf31, (fun _ h => (by cases h))⟩, [], trivial, ?_, (fun _ h => (by cases h))⟩
  rw [List.append_nil]
  exact (fun _ h => (by cases h))
set_option maxHeartbeats 4000000 in
theorem vc_Re_isWord_at_s5001_6_0 (x2 : Int) (x4 : Int) (x5 : Int) (x6 : Int) (x11 : Int) (x12 : Int) (x13 : Int) (x16 : Int) (x17 : Int) (x18 : Int) (x21 : Int) (x22 : Int) (x23 : Int) (x26 : Int) (x27 : Int) (x28 : Int) (x31 : Int) (x32 : Int) (x33 : Int) (x36 : Int) (tape_0 : Int → Int) (begin_0 : Int) (next_0 : Int) (kind_0 : Int) (k2 : 2 ≤ x2 ∧ x2 ≤ 2) (k4 : 5 ≤ x4 ∧ x4 ≤ 2000) (k5 : 0 ≤ x5 ∧ x5 ≤ 2000) (k6 : 5 ≤ x6 ∧ x6 ≤ 5) (k11 : 0 ≤ x11 ∧ x11 ≤ 1999) (k12 : 0 ≤ x12 ∧ x12 ≤ 127) (k13 : 0 ≤ x13 ∧ x13 ≤ 127) (k16 : 1 ≤ x16 ∧ x16 ≤ 1999) (k17 : 0 ≤ x17 ∧ x17 ≤ 127) (k18 : 0 ≤ x18 ∧ x18 ≤ 127) (k21 : 2 ≤ x21 ∧ x21 ≤ 1999) (k22 : 0 ≤ x22 ∧ x22 ≤ 127) (k23 : 0 ≤ x23 ∧ x23 ≤ 127) (k26 : 3 ≤ x26 ∧ x26 ≤ 1999) (k27 : 0 ≤ x27 ∧ x27 ≤ 127) (k28 : 0 ≤ x28 ∧ x28 ≤ 127) (k31 : 4 ≤ x31 ∧ x31 ≤ 1999) (k32 : 0 ≤ x32 ∧ x32 ≤ 127) (k33 : 0 ≤ x33 ∧ x33 ≤ 127) (k36 : 1 ≤ x36 ∧ x36 ≤ 1) (d0 : x33 + 0 ≤ x32 ∧ x32 ≤ x33 + 0) (d1 : x5 + 4 ≤ x31 ∧ x31 ≤ x5 + 4) (d2 : x28 + 0 ≤ x27 ∧ x27 ≤ x28 + 0) (d3 : x5 + 3 ≤ x26 ∧ x26 ≤ x5 + 3) (d4 : x23 + 0 ≤ x22 ∧ x22 ≤ x23 + 0) (d5 : x5 + 2 ≤ x21 ∧ x21 ≤ x5 + 2) (d6 : x18 + 0 ≤ x17 ∧ x17 ≤ x18 + 0) (d7 : x5 + 1 ≤ x16 ∧ x16 ≤ x5 + 1) (d8 : x13 + 0 ≤ x12 ∧ x12 ≤ x13 + 0) (d9 : x5 + 0 ≤ x11 ∧ x11 ≤ x5 + 0) (f1 : 1 * x33 + 0 ≤ 112) (f2 : (-1) * x33 + 0 ≤ (-112)) (h3 : x32 = tape_0 (x31)) (g5 : x5 = begin_0) (f10 : 1 * x28 + 0 ≤ 117) (f11 : (-1) * x28 + 0 ≤ (-117)) (h12 : x27 = tape_0 (x26)) (f17 : 1 * x23 + 0 ≤ 111) (f18 : (-1) * x23 + 0 ≤ (-111)) (h19 : x22 = tape_0 (x21)) (f24 : 1 * x18 + 0 ≤ 114) (f25 : (-1) * x18 + 0 ≤ (-114)) (h26 : x17 = tape_0 (x16)) (f31 : 1 * x13 + 0 ≤ 103) (f32 : (-1) * x13 + 0 ≤ (-103)) (h33 : x12 = tape_0 (x11)) (f37 : x6 = x4 - x5) (g38 : x4 = next_0) (g40 : x2 = kind_0) (kz_0_6 : 0 ≤ next_0 ∧ next_0 ≤ 2000) (kz_0_7 : (-128) ≤ kind_0 ∧ kind_0 ≤ 127) (kz_0_8 : 0 ≤ begin_0 ∧ begin_0 ≤ 2000) : CWg (kind_0) (next_0) (begin_0) (tape_0) (x36) := by
  first | subst g5 | skip
  first | subst g38 | skip
  first | subst g40 | skip
  first
    | (right
       refine ⟨by omega, fun w => ?_⟩
       obtain ⟨w0, w1, w2, v0, v1, v2, v3, v4⟩ := w
       try (rw [show x5 = x11 by omega] at v0)
       try (rw [show x5 + 1 = x16 by omega] at v1)
       try (rw [show x5 + 2 = x21 by omega] at v2)
       try (rw [show x5 + 3 = x26 by omega] at v3)
       try (rw [show x5 + 4 = x31 by omega] at v4)
       omega)
    | (left; exact ⟨by omega, by omega, rfl, by omega, by rw [show x5 = x11 by omega]; omega, by rw [show x5 + 1 = x16 by omega]; omega, by rw [show x5 + 2 = x21 by omega]; omega, by rw [show x5 + 3 = x26 by omega]; omega, by rw [show x5 + 4 = x31 by omega]; omega⟩)
def o_Re_isWord_at_s5001_6 : or_T := (64, 37, [(0, (2, 0, 0, [8])), (2, (0, 2, 2, [])), (4, (0, 5, 2000, [])), (5, (0, 0, 2000, [])), (6, (0, 5, 5, [])), (11, (0, 0, 1999, [])), (12, (0, 0, 127, [])), (13, (0, 0, 127, [])), (16, (0, 1, 1999, [])), (17, (0, 0, 127, [])), (18, (0, 0, 127, [])), (21, (0, 2, 1999, [])), (22, (0, 0, 127, [])), (23, (0, 0, 127, [])), (26, (0, 3, 1999, [])), (27, (0, 0, 127, [])), (28, (0, 0, 127, [])), (31, (0, 4, 1999, [])), (32, (0, 0, 127, [])), (33, (0, 0, 127, [])), (36, (0, 1, 1, []))], [(23, [33], [112, 1]), (23, [33], [-112, -1]), (10, [32, 10, 31], []), (9, [5, 0], [8]), (9, [10, 0], [0]), (23, [28], [117, 1]), (23, [28], [-117, -1]), (10, [27, 10, 26], []), (23, [23], [111, 1]), (23, [23], [-111, -1]), (10, [22, 10, 21], []), (23, [18], [114, 1]), (23, [18], [-114, -1]), (10, [17, 10, 16], []), (23, [13], [103, 1]), (23, [13], [-103, -1]), (10, [12, 10, 11], []), (2, [6, 4, 5], []), (9, [4, 0], [6]), (9, [2, 0], [7])], [], [], [(20, [0, 36], [60, 3, 1, 1081, 7, 6, 8, 0])], [], [(32, 33, 0, 0), (31, 5, 4, 4), (27, 28, 0, 0), (26, 5, 3, 3), (22, 23, 0, 0), (21, 5, 2, 2), (17, 18, 0, 0), (16, 5, 1, 1), (12, 13, 0, 0), (11, 5, 0, 0)])
theorem oo_Re_isWord_at_s5001_6 {kA : Nat → ClassId} : or_ok PRD kA GG o_Re_isWord_at_s5001_6 := by
  refine or_mk fun A ta ws vs hD hth hl => ?_
  intro t0 r0 t2 k2 t4 k4 t5 k5 t6 k6 t11 k11 t12 k12 t13 k13 t16 k16 t17 k17 t18 k18 t21 k21 t22 k22 t23 k23 t26 k26 t27 k27 t28 k28 t31 k31 t32 k32 t33 k33 t36 k36 d0 d1 d2 d3 d4 d5 d6 d7 d8 d9 f1 f2 f3 f5 f6 f10 f11 f12 f17 f18 f19 f24 f25 f26 f31 f32 f33 f37 f38 f40
  replace f3 := shm_107 f3
  replace f5 := shm_293 f5
  replace f6 := shm_163 f6
  replace f12 := shm_107 f12
  replace f19 := shm_107 f19
  replace f26 := shm_107 f26
  replace f33 := shm_107 f33
  replace f38 := shm_111 f38
  replace f40 := shm_198 f40
  have ad_10 : v_ad (n_v vs 10) = w_ar ws (n_v vs 0) 0 := congrArg v_ad f6
  simp only [ad_10] at f3
  have h3 : v_iv (n_v vs 32) = w_ei ws (w_ar ws (n_v vs 0) 0) (v_iv (n_v vs 31)) := f3
  have g5 : v_iv (n_v vs 5) = w_fi ws (n_v vs 0) 8 := congrArg v_iv f5
  simp only [ad_10] at f12
  have h12 : v_iv (n_v vs 27) = w_ei ws (w_ar ws (n_v vs 0) 0) (v_iv (n_v vs 26)) := f12
  simp only [ad_10] at f19
  have h19 : v_iv (n_v vs 22) = w_ei ws (w_ar ws (n_v vs 0) 0) (v_iv (n_v vs 21)) := f19
  simp only [ad_10] at f26
  have h26 : v_iv (n_v vs 17) = w_ei ws (w_ar ws (n_v vs 0) 0) (v_iv (n_v vs 16)) := f26
  simp only [ad_10] at f33
  have h33 : v_iv (n_v vs 12) = w_ei ws (w_ar ws (n_v vs 0) 0) (v_iv (n_v vs 11)) := f33
  have g38 : v_iv (n_v vs 4) = w_fi ws (n_v vs 0) 6 := congrArg v_iv f38
  have g40 : v_iv (n_v vs 2) = w_fi ws (n_v vs 0) 7 := congrArg v_iv f40
  have kz_0_6 := fdq_208 hD hth r0
  have kz_0_7 := fdq_297 hD hth r0
  have kz_0_8 := fdq_99 hD hth r0
  have nf0 : fc_1 PRD (20, [0, 36], [60, 3, 1, 1081, 7, 6, 8, 0]) ws (vs) := ⟨nf_in hl rfl, sgq_1829 (vc_Re_isWord_at_s5001_6_0 (v_iv (n_v vs 2)) (v_iv (n_v vs 4)) (v_iv (n_v vs 5)) (v_iv (n_v vs 6)) (v_iv (n_v vs 11)) (v_iv (n_v vs 12)) (v_iv (n_v vs 13)) (v_iv (n_v vs 16)) (v_iv (n_v vs 17)) (v_iv (n_v vs 18)) (v_iv (n_v vs 21)) (v_iv (n_v vs 22)) (v_iv (n_v vs 23)) (v_iv (n_v vs 26)) (v_iv (n_v vs 27)) (v_iv (n_v vs 28)) (v_iv (n_v vs 31)) (v_iv (n_v vs 32)) (v_iv (n_v vs 33)) (v_iv (n_v vs 36)) (w_ei ws (w_ar ws (n_v vs 0) 0)) (w_fi ws (n_v vs 0) 8) (w_fi ws (n_v vs 0) 6) (w_fi ws (n_v vs 0) 7) k2 k4 k5 k6 k11 k12 k13 k16 k17 k18 k21 k22 k23 k26 k27 k28 k31 k32 k33 k36 d0 d1 d2 d3 d4 d5 d6 d7 d8 d9 (shm_67 f1) (shm_68 f2) h3 g5 (shm_65 f10) (shm_66 f11) h12 (shm_55 f17) (shm_56 f18) h19 (shm_63 f24) (shm_64 f25) h26 (shm_61 f31) (shm_62 f32) h33 (shm_14 f37) g38 g40 kz_0_6 kz_0_7 kz_0_8)⟩
  refine ⟨(fun _ h => (by cases h)), [], trivial, ?_, (fun _ h => (by cases h))⟩
  rw [List.append_nil]
  exact List.forall_mem_cons.mpr ⟨⟨show (20 : Nat) < 100 from by decide, nf0⟩, (fun _ h => (by cases h))⟩
set_option maxHeartbeats 4000000 in
theorem vc_Re_isWord_at_s5001_7_0 (x2 : Int) (x4 : Int) (x5 : Int) (x11 : Int) (x16 : Int) (x21 : Int) (x26 : Int) (x31 : Int) (x32 : Int) (x33 : Int) (x34 : Int) (tape_0 : Int → Int) (begin_0 : Int) (next_0 : Int) (kind_0 : Int) (k2 : 2 ≤ x2 ∧ x2 ≤ 2) (k4 : 5 ≤ x4 ∧ x4 ≤ 2000) (k5 : 0 ≤ x5 ∧ x5 ≤ 2000) (k31 : 4 ≤ x31 ∧ x31 ≤ 1999) (k32 : (-128) ≤ x32 ∧ x32 ≤ 127) (k33 : 0 ≤ x33 ∧ x33 ≤ 65535) (k34 : 0 ≤ x34 ∧ x34 ≤ 0) (d0 : x5 + 4 ≤ x31 ∧ x31 ≤ x5 + 4) (f0 : x32 ≠ x33) (f1 : 1 * x33 + 0 ≤ 112) (f2 : (-1) * x33 + 0 ≤ (-112)) (h3 : x32 = tape_0 (x31)) (g5 : x5 = begin_0) (g38 : x4 = next_0) (g40 : x2 = kind_0) (kz_0_6 : 0 ≤ next_0 ∧ next_0 ≤ 2000) (kz_0_7 : (-128) ≤ kind_0 ∧ kind_0 ≤ 127) (kz_0_8 : 0 ≤ begin_0 ∧ begin_0 ≤ 2000) : CWg (kind_0) (next_0) (begin_0) (tape_0) (x34) := by
  first | subst g5 | skip
  first | subst g38 | skip
  first | subst g40 | skip
  first
    | (right
       refine ⟨by omega, fun w => ?_⟩
       obtain ⟨w0, w1, w2, v0, v1, v2, v3, v4⟩ := w
       try (rw [show x5 = x11 by omega] at v0)
       try (rw [show x5 + 1 = x16 by omega] at v1)
       try (rw [show x5 + 2 = x21 by omega] at v2)
       try (rw [show x5 + 3 = x26 by omega] at v3)
       try (rw [show x5 + 4 = x31 by omega] at v4)
       omega)
    | (left; exact ⟨by omega, by omega, rfl, by omega, by rw [show x5 = x11 by omega]; omega, by rw [show x5 + 1 = x16 by omega]; omega, by rw [show x5 + 2 = x21 by omega]; omega, by rw [show x5 + 3 = x26 by omega]; omega, by rw [show x5 + 4 = x31 by omega]; omega⟩)
def o_Re_isWord_at_s5001_7 : or_T := (56, 35, [(0, (2, 0, 0, [8])), (2, (0, 2, 2, [])), (4, (0, 5, 2000, [])), (5, (0, 0, 2000, [])), (31, (0, 4, 1999, [])), (32, (0, -128, 127, [])), (33, (0, 0, 65535, [])), (34, (0, 0, 0, []))], [(7, [32, 33], [1]), (23, [33], [112, 1]), (23, [33], [-112, -1]), (10, [32, 10, 31], []), (9, [5, 0], [8]), (9, [10, 0], [0]), (9, [4, 0], [6]), (9, [2, 0], [7])], [], [], [(20, [0, 34], [60, 3, 1, 1081, 7, 6, 8, 0])], [], [(31, 5, 4, 4)])
theorem oo_Re_isWord_at_s5001_7 {kA : Nat → ClassId} : or_ok PRD kA GG o_Re_isWord_at_s5001_7 := by
  refine or_mk fun A ta ws vs hD hth hl => ?_
  intro t0 r0 t2 k2 t4 k4 t5 k5 t31 k31 t32 k32 t33 k33 t34 k34 d0 f0 f1 f2 f3 f5 f6 f38 f40
  replace f3 := shm_107 f3
  replace f5 := shm_293 f5
  replace f6 := shm_163 f6
  replace f38 := shm_111 f38
  replace f40 := shm_198 f40
  have ad_10 : v_ad (n_v vs 10) = w_ar ws (n_v vs 0) 0 := congrArg v_ad f6
  simp only [ad_10] at f3
  have h3 : v_iv (n_v vs 32) = w_ei ws (w_ar ws (n_v vs 0) 0) (v_iv (n_v vs 31)) := f3
  have g5 : v_iv (n_v vs 5) = w_fi ws (n_v vs 0) 8 := congrArg v_iv f5
  have g38 : v_iv (n_v vs 4) = w_fi ws (n_v vs 0) 6 := congrArg v_iv f38
  have g40 : v_iv (n_v vs 2) = w_fi ws (n_v vs 0) 7 := congrArg v_iv f40
  have kz_0_6 := fdq_208 hD hth r0
  have kz_0_7 := fdq_297 hD hth r0
  have kz_0_8 := fdq_99 hD hth r0
  have nf0 : fc_1 PRD (20, [0, 34], [60, 3, 1, 1081, 7, 6, 8, 0]) ws (vs) := ⟨nf_in hl rfl, sgq_1829 (vc_Re_isWord_at_s5001_7_0 (v_iv (n_v vs 2)) (v_iv (n_v vs 4)) (v_iv (n_v vs 5)) (v_iv (n_v vs 11)) (v_iv (n_v vs 16)) (v_iv (n_v vs 21)) (v_iv (n_v vs 26)) (v_iv (n_v vs 31)) (v_iv (n_v vs 32)) (v_iv (n_v vs 33)) (v_iv (n_v vs 34)) (w_ei ws (w_ar ws (n_v vs 0) 0)) (w_fi ws (n_v vs 0) 8) (w_fi ws (n_v vs 0) 6) (w_fi ws (n_v vs 0) 7) k2 k4 k5 k31 k32 k33 k34 d0 (shm_40 f0) (shm_67 f1) (shm_68 f2) h3 g5 g38 g40 kz_0_6 kz_0_7 kz_0_8)⟩
  refine ⟨(fun _ h => (by cases h)), [], trivial, ?_, (fun _ h => (by cases h))⟩
  rw [List.append_nil]
  exact List.forall_mem_cons.mpr ⟨⟨show (20 : Nat) < 100 from by decide, nf0⟩, (fun _ h => (by cases h))⟩
set_option maxHeartbeats 4000000 in
theorem vc_Re_isWord_at_s5001_8_0 (x2 : Int) (x4 : Int) (x5 : Int) (x11 : Int) (x16 : Int) (x21 : Int) (x26 : Int) (x27 : Int) (x28 : Int) (x29 : Int) (tape_0 : Int → Int) (begin_0 : Int) (next_0 : Int) (kind_0 : Int) (k2 : 2 ≤ x2 ∧ x2 ≤ 2) (k4 : 5 ≤ x4 ∧ x4 ≤ 2000) (k5 : 0 ≤ x5 ∧ x5 ≤ 2000) (k26 : 3 ≤ x26 ∧ x26 ≤ 1999) (k27 : (-128) ≤ x27 ∧ x27 ≤ 127) (k28 : 0 ≤ x28 ∧ x28 ≤ 65535) (k29 : 0 ≤ x29 ∧ x29 ≤ 0) (d0 : x5 + 3 ≤ x26 ∧ x26 ≤ x5 + 3) (f0 : x27 ≠ x28) (f1 : 1 * x28 + 0 ≤ 117) (f2 : (-1) * x28 + 0 ≤ (-117)) (h3 : x27 = tape_0 (x26)) (g5 : x5 = begin_0) (g31 : x4 = next_0) (g33 : x2 = kind_0) (kz_0_6 : 0 ≤ next_0 ∧ next_0 ≤ 2000) (kz_0_7 : (-128) ≤ kind_0 ∧ kind_0 ≤ 127) (kz_0_8 : 0 ≤ begin_0 ∧ begin_0 ≤ 2000) : CWg (kind_0) (next_0) (begin_0) (tape_0) (x29) := by
  first | subst g5 | skip
  first | subst g31 | skip
  first | subst g33 | skip
  first
    | (right
       refine ⟨by omega, fun w => ?_⟩
       obtain ⟨w0, w1, w2, v0, v1, v2, v3, v4⟩ := w
       try (rw [show x5 = x11 by omega] at v0)
       try (rw [show x5 + 1 = x16 by omega] at v1)
       try (rw [show x5 + 2 = x21 by omega] at v2)
       try (rw [show x5 + 3 = x26 by omega] at v3)
       try (rw [show x5 + 4 = x31 by omega] at v4)
       omega)
    | (left; exact ⟨by omega, by omega, rfl, by omega, by rw [show x5 = x11 by omega]; omega, by rw [show x5 + 1 = x16 by omega]; omega, by rw [show x5 + 2 = x21 by omega]; omega, by rw [show x5 + 3 = x26 by omega]; omega, by rw [show x5 + 4 = x31 by omega]; omega⟩)
def o_Re_isWord_at_s5001_8 : or_T := (56, 30, [(0, (2, 0, 0, [8])), (2, (0, 2, 2, [])), (4, (0, 5, 2000, [])), (5, (0, 0, 2000, [])), (26, (0, 3, 1999, [])), (27, (0, -128, 127, [])), (28, (0, 0, 65535, [])), (29, (0, 0, 0, []))], [(7, [27, 28], [1]), (23, [28], [117, 1]), (23, [28], [-117, -1]), (10, [27, 10, 26], []), (9, [5, 0], [8]), (9, [10, 0], [0]), (9, [4, 0], [6]), (9, [2, 0], [7])], [], [], [(20, [0, 29], [60, 3, 1, 1081, 7, 6, 8, 0])], [], [(26, 5, 3, 3)])
theorem oo_Re_isWord_at_s5001_8 {kA : Nat → ClassId} : or_ok PRD kA GG o_Re_isWord_at_s5001_8 := by
  refine or_mk fun A ta ws vs hD hth hl => ?_
  intro t0 r0 t2 k2 t4 k4 t5 k5 t26 k26 t27 k27 t28 k28 t29 k29 d0 f0 f1 f2 f3 f5 f6 f31 f33
  replace f3 := shm_107 f3
  replace f5 := shm_293 f5
  replace f6 := shm_163 f6
  replace f31 := shm_111 f31
  replace f33 := shm_198 f33
  have ad_10 : v_ad (n_v vs 10) = w_ar ws (n_v vs 0) 0 := congrArg v_ad f6
  simp only [ad_10] at f3
  have h3 : v_iv (n_v vs 27) = w_ei ws (w_ar ws (n_v vs 0) 0) (v_iv (n_v vs 26)) := f3
  have g5 : v_iv (n_v vs 5) = w_fi ws (n_v vs 0) 8 := congrArg v_iv f5
  have g31 : v_iv (n_v vs 4) = w_fi ws (n_v vs 0) 6 := congrArg v_iv f31
  have g33 : v_iv (n_v vs 2) = w_fi ws (n_v vs 0) 7 := congrArg v_iv f33
  have kz_0_6 := fdq_208 hD hth r0
  have kz_0_7 := fdq_297 hD hth r0
  have kz_0_8 := fdq_99 hD hth r0
  have nf0 : fc_1 PRD (20, [0, 29], [60, 3, 1, 1081, 7, 6, 8, 0]) ws (vs) := ⟨nf_in hl rfl, sgq_1829 (vc_Re_isWord_at_s5001_8_0 (v_iv (n_v vs 2)) (v_iv (n_v vs 4)) (v_iv (n_v vs 5)) (v_iv (n_v vs 11)) (v_iv (n_v vs 16)) (v_iv (n_v vs 21)) (v_iv (n_v vs 26)) (v_iv (n_v vs 27)) (v_iv (n_v vs 28)) (v_iv (n_v vs 29)) (w_ei ws (w_ar ws (n_v vs 0) 0)) (w_fi ws (n_v vs 0) 8) (w_fi ws (n_v vs 0) 6) (w_fi ws (n_v vs 0) 7) k2 k4 k5 k26 k27 k28 k29 d0 (shm_40 f0) (shm_65 f1) (shm_66 f2) h3 g5 g31 g33 kz_0_6 kz_0_7 kz_0_8)⟩
  refine ⟨(fun _ h => (by cases h)), [], trivial, ?_, (fun _ h => (by cases h))⟩
  rw [List.append_nil]
  exact List.forall_mem_cons.mpr ⟨⟨show (20 : Nat) < 100 from by decide, nf0⟩, (fun _ h => (by cases h))⟩
set_option maxHeartbeats 4000000 in
theorem vc_Re_isWord_at_s5001_9_0 (x2 : Int) (x4 : Int) (x5 : Int) (x11 : Int) (x16 : Int) (x21 : Int) (x22 : Int) (x23 : Int) (x24 : Int) (tape_0 : Int → Int) (begin_0 : Int) (next_0 : Int) (kind_0 : Int) (k2 : 2 ≤ x2 ∧ x2 ≤ 2) (k4 : 5 ≤ x4 ∧ x4 ≤ 2000) (k5 : 0 ≤ x5 ∧ x5 ≤ 2000) (k21 : 2 ≤ x21 ∧ x21 ≤ 1999) (k22 : (-128) ≤ x22 ∧ x22 ≤ 127) (k23 : 0 ≤ x23 ∧ x23 ≤ 65535) (k24 : 0 ≤ x24 ∧ x24 ≤ 0) (d0 : x5 + 2 ≤ x21 ∧ x21 ≤ x5 + 2) (f0 : x22 ≠ x23) (f1 : 1 * x23 + 0 ≤ 111) (f2 : (-1) * x23 + 0 ≤ (-111)) (h3 : x22 = tape_0 (x21)) (g5 : x5 = begin_0) (g24 : x4 = next_0) (g26 : x2 = kind_0) (kz_0_6 : 0 ≤ next_0 ∧ next_0 ≤ 2000) (kz_0_7 : (-128) ≤ kind_0 ∧ kind_0 ≤ 127) (kz_0_8 : 0 ≤ begin_0 ∧ begin_0 ≤ 2000) : CWg (kind_0) (next_0) (begin_0) (tape_0) (x24) := by
  first | subst g5 | skip
  first | subst g24 | skip
  first | subst g26 | skip
  first
    | (right
       refine ⟨by omega, fun w => ?_⟩
       obtain ⟨w0, w1, w2, v0, v1, v2, v3, v4⟩ := w
       try (rw [show x5 = x11 by omega] at v0)
       try (rw [show x5 + 1 = x16 by omega] at v1)
       try (rw [show x5 + 2 = x21 by omega] at v2)
       try (rw [show x5 + 3 = x26 by omega] at v3)
       try (rw [show x5 + 4 = x31 by omega] at v4)
       omega)
    | (left; exact ⟨by omega, by omega, rfl, by omega, by rw [show x5 = x11 by omega]; omega, by rw [show x5 + 1 = x16 by omega]; omega, by rw [show x5 + 2 = x21 by omega]; omega, by rw [show x5 + 3 = x26 by omega]; omega, by rw [show x5 + 4 = x31 by omega]; omega⟩)
def o_Re_isWord_at_s5001_9 : or_T := (56, 25, [(0, (2, 0, 0, [8])), (2, (0, 2, 2, [])), (4, (0, 5, 2000, [])), (5, (0, 0, 2000, [])), (21, (0, 2, 1999, [])), (22, (0, -128, 127, [])), (23, (0, 0, 65535, [])), (24, (0, 0, 0, []))], [(7, [22, 23], [1]), (23, [23], [111, 1]), (23, [23], [-111, -1]), (10, [22, 10, 21], []), (9, [5, 0], [8]), (9, [10, 0], [0]), (9, [4, 0], [6]), (9, [2, 0], [7])], [], [], [(20, [0, 24], [60, 3, 1, 1081, 7, 6, 8, 0])], [], [(21, 5, 2, 2)])
theorem oo_Re_isWord_at_s5001_9 {kA : Nat → ClassId} : or_ok PRD kA GG o_Re_isWord_at_s5001_9 := by
  refine or_mk fun A ta ws vs hD hth hl => ?_
  intro t0 r0 t2 k2 t4 k4 t5 k5 t21 k21 t22 k22 t23 k23 t24 k24 d0 f0 f1 f2 f3 f5 f6 f24 f26
  replace f3 := shm_107 f3
  replace f5 := shm_293 f5
  replace f6 := shm_163 f6
  replace f24 := shm_111 f24
  replace f26 := shm_198 f26
  have ad_10 : v_ad (n_v vs 10) = w_ar ws (n_v vs 0) 0 := congrArg v_ad f6
  simp only [ad_10] at f3
  have h3 : v_iv (n_v vs 22) = w_ei ws (w_ar ws (n_v vs 0) 0) (v_iv (n_v vs 21)) := f3
  have g5 : v_iv (n_v vs 5) = w_fi ws (n_v vs 0) 8 := congrArg v_iv f5
  have g24 : v_iv (n_v vs 4) = w_fi ws (n_v vs 0) 6 := congrArg v_iv f24
  have g26 : v_iv (n_v vs 2) = w_fi ws (n_v vs 0) 7 := congrArg v_iv f26
  have kz_0_6 := fdq_208 hD hth r0
  have kz_0_7 := fdq_297 hD hth r0
  have kz_0_8 := fdq_99 hD hth r0
  have nf0 : fc_1 PRD (20, [0, 24], [60, 3, 1, 1081, 7, 6, 8, 0]) ws (vs) := ⟨nf_in hl rfl, sgq_1829 (vc_Re_isWord_at_s5001_9_0 (v_iv (n_v vs 2)) (v_iv (n_v vs 4)) (v_iv (n_v vs 5)) (v_iv (n_v vs 11)) (v_iv (n_v vs 16)) (v_iv (n_v vs 21)) (v_iv (n_v vs 22)) (v_iv (n_v vs 23)) (v_iv (n_v vs 24)) (w_ei ws (w_ar ws (n_v vs 0) 0)) (w_fi ws (n_v vs 0) 8) (w_fi ws (n_v vs 0) 6) (w_fi ws (n_v vs 0) 7) k2 k4 k5 k21 k22 k23 k24 d0 (shm_40 f0) (shm_55 f1) (shm_56 f2) h3 g5 g24 g26 kz_0_6 kz_0_7 kz_0_8)⟩
  refine ⟨(fun _ h => (by cases h)), [], trivial, ?_, (fun _ h => (by cases h))⟩
  rw [List.append_nil]
  exact List.forall_mem_cons.mpr ⟨⟨show (20 : Nat) < 100 from by decide, nf0⟩, (fun _ h => (by cases h))⟩
set_option maxHeartbeats 4000000 in
theorem vc_Re_isWord_at_s5001_10_0 (x2 : Int) (x4 : Int) (x5 : Int) (x11 : Int) (x16 : Int) (x17 : Int) (x18 : Int) (x19 : Int) (tape_0 : Int → Int) (begin_0 : Int) (next_0 : Int) (kind_0 : Int) (k2 : 2 ≤ x2 ∧ x2 ≤ 2) (k4 : 5 ≤ x4 ∧ x4 ≤ 2000) (k5 : 0 ≤ x5 ∧ x5 ≤ 2000) (k16 : 1 ≤ x16 ∧ x16 ≤ 1999) (k17 : (-128) ≤ x17 ∧ x17 ≤ 127) (k18 : 0 ≤ x18 ∧ x18 ≤ 65535) (k19 : 0 ≤ x19 ∧ x19 ≤ 0) (d0 : x5 + 1 ≤ x16 ∧ x16 ≤ x5 + 1) (f0 : x17 ≠ x18) (f1 : 1 * x18 + 0 ≤ 114) (f2 : (-1) * x18 + 0 ≤ (-114)) (h3 : x17 = tape_0 (x16)) (g5 : x5 = begin_0) (g17 : x4 = next_0) (g19 : x2 = kind_0) (kz_0_6 : 0 ≤ next_0 ∧ next_0 ≤ 2000) (kz_0_7 : (-128) ≤ kind_0 ∧ kind_0 ≤ 127) (kz_0_8 : 0 ≤ begin_0 ∧ begin_0 ≤ 2000) : CWg (kind_0) (next_0) (begin_0) (tape_0) (x19) := by
  first | subst g5 | skip
  first | subst g17 | skip
  first | subst g19 | skip
  first
    | (right
       refine ⟨by omega, fun w => ?_⟩
       obtain ⟨w0, w1, w2, v0, v1, v2, v3, v4⟩ := w
       try (rw [show x5 = x11 by omega] at v0)
       try (rw [show x5 + 1 = x16 by omega] at v1)
       try (rw [show x5 + 2 = x21 by omega] at v2)
       try (rw [show x5 + 3 = x26 by omega] at v3)
       try (rw [show x5 + 4 = x31 by omega] at v4)
       omega)
    | (left; exact ⟨by omega, by omega, rfl, by omega, by rw [show x5 = x11 by omega]; omega, by rw [show x5 + 1 = x16 by omega]; omega, by rw [show x5 + 2 = x21 by omega]; omega, by rw [show x5 + 3 = x26 by omega]; omega, by rw [show x5 + 4 = x31 by omega]; omega⟩)
def o_Re_isWord_at_s5001_10 : or_T := (56, 20, [(0, (2, 0, 0, [8])), (2, (0, 2, 2, [])), (4, (0, 5, 2000, [])), (5, (0, 0, 2000, [])), (16, (0, 1, 1999, [])), (17, (0, -128, 127, [])), (18, (0, 0, 65535, [])), (19, (0, 0, 0, []))], [(7, [17, 18], [1]), (23, [18], [114, 1]), (23, [18], [-114, -1]), (10, [17, 10, 16], []), (9, [5, 0], [8]), (9, [10, 0], [0]), (9, [4, 0], [6]), (9, [2, 0], [7])], [], [], [(20, [0, 19], [60, 3, 1, 1081, 7, 6, 8, 0])], [], [(16, 5, 1, 1)])
theorem oo_Re_isWord_at_s5001_10 {kA : Nat → ClassId} : or_ok PRD kA GG o_Re_isWord_at_s5001_10 := by
  refine or_mk fun A ta ws vs hD hth hl => ?_
  intro t0 r0 t2 k2 t4 k4 t5 k5 t16 k16 t17 k17 t18 k18 t19 k19 d0 f0 f1 f2 f3 f5 f6 f17 f19
  replace f3 := shm_107 f3
  replace f5 := shm_293 f5
  replace f6 := shm_163 f6
  replace f17 := shm_111 f17
  replace f19 := shm_198 f19
  have ad_10 : v_ad (n_v vs 10) = w_ar ws (n_v vs 0) 0 := congrArg v_ad f6
  simp only [ad_10] at f3
  have h3 : v_iv (n_v vs 17) = w_ei ws (w_ar ws (n_v vs 0) 0) (v_iv (n_v vs 16)) := f3
  have g5 : v_iv (n_v vs 5) = w_fi ws (n_v vs 0) 8 := congrArg v_iv f5
  have g17 : v_iv (n_v vs 4) = w_fi ws (n_v vs 0) 6 := congrArg v_iv f17
  have g19 : v_iv (n_v vs 2) = w_fi ws (n_v vs 0) 7 := congrArg v_iv f19
  have kz_0_6 := fdq_208 hD hth r0
  have kz_0_7 := fdq_297 hD hth r0
  have kz_0_8 := fdq_99 hD hth r0
  have nf0 : fc_1 PRD (20, [0, 19], [60, 3, 1, 1081, 7, 6, 8, 0]) ws (vs) := ⟨nf_in hl rfl, sgq_1829 (vc_Re_isWord_at_s5001_10_0 (v_iv (n_v vs 2)) (v_iv (n_v vs 4)) (v_iv (n_v vs 5)) (v_iv (n_v vs 11)) (v_iv (n_v vs 16)) (v_iv (n_v vs 17)) (v_iv (n_v vs 18)) (v_iv (n_v vs 19)) (w_ei ws (w_ar ws (n_v vs 0) 0)) (w_fi ws (n_v vs 0) 8) (w_fi ws (n_v vs 0) 6) (w_fi ws (n_v vs 0) 7) k2 k4 k5 k16 k17 k18 k19 d0 (shm_40 f0) (shm_63 f1) (shm_64 f2) h3 g5 g17 g19 kz_0_6 kz_0_7 kz_0_8)⟩
  refine ⟨(fun _ h => (by cases h)), [], trivial, ?_, (fun _ h => (by cases h))⟩
  rw [List.append_nil]
  exact List.forall_mem_cons.mpr ⟨⟨show (20 : Nat) < 100 from by decide, nf0⟩, (fun _ h => (by cases h))⟩
set_option maxHeartbeats 4000000 in
theorem vc_Re_isWord_at_s5001_11_0 (x2 : Int) (x4 : Int) (x5 : Int) (x11 : Int) (x12 : Int) (x13 : Int) (x14 : Int) (tape_0 : Int → Int) (begin_0 : Int) (next_0 : Int) (kind_0 : Int) (k2 : 2 ≤ x2 ∧ x2 ≤ 2) (k4 : 5 ≤ x4 ∧ x4 ≤ 2000) (k5 : 0 ≤ x5 ∧ x5 ≤ 2000) (k11 : 0 ≤ x11 ∧ x11 ≤ 1999) (k12 : (-128) ≤ x12 ∧ x12 ≤ 127) (k13 : 0 ≤ x13 ∧ x13 ≤ 65535) (k14 : 0 ≤ x14 ∧ x14 ≤ 0) (d0 : x5 + 0 ≤ x11 ∧ x11 ≤ x5 + 0) (f0 : x12 ≠ x13) (f1 : 1 * x13 + 0 ≤ 103) (f2 : (-1) * x13 + 0 ≤ (-103)) (h3 : x12 = tape_0 (x11)) (g5 : x5 = begin_0) (g10 : x4 = next_0) (g12 : x2 = kind_0) (kz_0_6 : 0 ≤ next_0 ∧ next_0 ≤ 2000) (kz_0_7 : (-128) ≤ kind_0 ∧ kind_0 ≤ 127) (kz_0_8 : 0 ≤ begin_0 ∧ begin_0 ≤ 2000) : CWg (kind_0) (next_0) (begin_0) (tape_0) (x14) := by
  first | subst g5 | skip
  first | subst g10 | skip
  first | subst g12 | skip
  first
    | (right
       refine ⟨by omega, fun w => ?_⟩
       obtain ⟨w0, w1, w2, v0, v1, v2, v3, v4⟩ := w
       try (rw [show x5 = x11 by omega] at v0)
       try (rw [show x5 + 1 = x16 by omega] at v1)
       try (rw [show x5 + 2 = x21 by omega] at v2)
       try (rw [show x5 + 3 = x26 by omega] at v3)
       try (rw [show x5 + 4 = x31 by omega] at v4)
       omega)
    | (left; exact ⟨by omega, by omega, rfl, by omega, by rw [show x5 = x11 by omega]; omega, by rw [show x5 + 1 = x16 by omega]; omega, by rw [show x5 + 2 = x21 by omega]; omega, by rw [show x5 + 3 = x26 by omega]; omega, by rw [show x5 + 4 = x31 by omega]; omega⟩)
def o_Re_isWord_at_s5001_11 : or_T := (56, 15, [(0, (2, 0, 0, [8])), (2, (0, 2, 2, [])), (4, (0, 5, 2000, [])), (5, (0, 0, 2000, [])), (11, (0, 0, 1999, [])), (12, (0, -128, 127, [])), (13, (0, 0, 65535, [])), (14, (0, 0, 0, []))], [(7, [12, 13], [1]), (23, [13], [103, 1]), (23, [13], [-103, -1]), (10, [12, 10, 11], []), (9, [5, 0], [8]), (9, [10, 0], [0]), (9, [4, 0], [6]), (9, [2, 0], [7])], [], [], [(20, [0, 14], [60, 3, 1, 1081, 7, 6, 8, 0])], [], [(11, 5, 0, 0)])
theorem oo_Re_isWord_at_s5001_11 {kA : Nat → ClassId} : or_ok PRD kA GG o_Re_isWord_at_s5001_11 := by
  refine or_mk fun A ta ws vs hD hth hl => ?_
  intro t0 r0 t2 k2 t4 k4 t5 k5 t11 k11 t12 k12 t13 k13 t14 k14 d0 f0 f1 f2 f3 f5 f6 f10 f12
  replace f3 := shm_107 f3
  replace f5 := shm_293 f5
  replace f6 := shm_163 f6
  replace f10 := shm_111 f10
  replace f12 := shm_198 f12
  have ad_10 : v_ad (n_v vs 10) = w_ar ws (n_v vs 0) 0 := congrArg v_ad f6
  simp only [ad_10] at f3
  have h3 : v_iv (n_v vs 12) = w_ei ws (w_ar ws (n_v vs 0) 0) (v_iv (n_v vs 11)) := f3
  have g5 : v_iv (n_v vs 5) = w_fi ws (n_v vs 0) 8 := congrArg v_iv f5
  have g10 : v_iv (n_v vs 4) = w_fi ws (n_v vs 0) 6 := congrArg v_iv f10
  have g12 : v_iv (n_v vs 2) = w_fi ws (n_v vs 0) 7 := congrArg v_iv f12
  have kz_0_6 := fdq_208 hD hth r0
  have kz_0_7 := fdq_297 hD hth r0
  have kz_0_8 := fdq_99 hD hth r0
  have nf0 : fc_1 PRD (20, [0, 14], [60, 3, 1, 1081, 7, 6, 8, 0]) ws (vs) := ⟨nf_in hl rfl, sgq_1829 (vc_Re_isWord_at_s5001_11_0 (v_iv (n_v vs 2)) (v_iv (n_v vs 4)) (v_iv (n_v vs 5)) (v_iv (n_v vs 11)) (v_iv (n_v vs 12)) (v_iv (n_v vs 13)) (v_iv (n_v vs 14)) (w_ei ws (w_ar ws (n_v vs 0) 0)) (w_fi ws (n_v vs 0) 8) (w_fi ws (n_v vs 0) 6) (w_fi ws (n_v vs 0) 7) k2 k4 k5 k11 k12 k13 k14 d0 (shm_40 f0) (shm_61 f1) (shm_62 f2) h3 g5 g10 g12 kz_0_6 kz_0_7 kz_0_8)⟩
  refine ⟨(fun _ h => (by cases h)), [], trivial, ?_, (fun _ h => (by cases h))⟩
  rw [List.append_nil]
  exact List.forall_mem_cons.mpr ⟨⟨show (20 : Nat) < 100 from by decide, nf0⟩, (fun _ h => (by cases h))⟩
set_option maxHeartbeats 4000000 in
theorem vc_Re_isWord_at_s5001_12_0 (x2 : Int) (x4 : Int) (x5 : Int) (x6 : Int) (x7 : Int) (x8 : Int) (begin_0 : Int) (next_0 : Int) (kind_0 : Int) (tape_0 : Int → Int) (k2 : 2 ≤ x2 ∧ x2 ≤ 2) (k4 : 0 ≤ x4 ∧ x4 ≤ 2000) (k5 : 0 ≤ x5 ∧ x5 ≤ 2000) (k6 : (-2000) ≤ x6 ∧ x6 ≤ 2000) (k7 : 5 ≤ x7 ∧ x7 ≤ 5) (k8 : 0 ≤ x8 ∧ x8 ≤ 0) (f0 : x6 ≠ x7) (f1 : x6 = x4 - x5) (g2 : x5 = begin_0) (g3 : x4 = next_0) (g5 : x2 = kind_0) (kz_0_6 : 0 ≤ next_0 ∧ next_0 ≤ 2000) (kz_0_7 : (-128) ≤ kind_0 ∧ kind_0 ≤ 127) (kz_0_8 : 0 ≤ begin_0 ∧ begin_0 ≤ 2000) : CWg (kind_0) (next_0) (begin_0) (tape_0) (x8) := by
  first | subst g2 | skip
  first | subst g3 | skip
  first | subst g5 | skip
  first
    | (right
       refine ⟨by omega, fun w => ?_⟩
       obtain ⟨w0, w1, w2, v0, v1, v2, v3, v4⟩ := w
       try (rw [show x5 = x11 by omega] at v0)
       try (rw [show x5 + 1 = x16 by omega] at v1)
       try (rw [show x5 + 2 = x21 by omega] at v2)
       try (rw [show x5 + 3 = x26 by omega] at v3)
       try (rw [show x5 + 4 = x31 by omega] at v4)
       omega)
    | (left; exact ⟨by omega, by omega, rfl, by omega, by rw [show x5 = x11 by omega]; omega, by rw [show x5 + 1 = x16 by omega]; omega, by rw [show x5 + 2 = x21 by omega]; omega, by rw [show x5 + 3 = x26 by omega]; omega, by rw [show x5 + 4 = x31 by omega]; omega⟩)
def o_Re_isWord_at_s5001_12 : or_T := (25, 9, [(0, (2, 0, 0, [8])), (2, (0, 2, 2, [])), (4, (0, 0, 2000, [])), (5, (0, 0, 2000, [])), (6, (0, -2000, 2000, [])), (7, (0, 5, 5, [])), (8, (0, 0, 0, []))], [(7, [6, 7], [1]), (2, [6, 4, 5], []), (9, [5, 0], [8]), (9, [4, 0], [6]), (9, [2, 0], [7])], [], [], [(20, [0, 8], [60, 3, 1, 1081, 7, 6, 8, 0])], [], [])
theorem oo_Re_isWord_at_s5001_12 {kA : Nat → ClassId} : or_ok PRD kA GG o_Re_isWord_at_s5001_12 := by
  refine or_mk fun A ta ws vs hD hth hl => ?_
  intro t0 r0 t2 k2 t4 k4 t5 k5 t6 k6 t7 k7 t8 k8 f0 f1 f2 f3 f5
  replace f2 := shm_293 f2
  replace f3 := shm_111 f3
  replace f5 := shm_198 f5
  have g2 : v_iv (n_v vs 5) = w_fi ws (n_v vs 0) 8 := congrArg v_iv f2
  have g3 : v_iv (n_v vs 4) = w_fi ws (n_v vs 0) 6 := congrArg v_iv f3
  have g5 : v_iv (n_v vs 2) = w_fi ws (n_v vs 0) 7 := congrArg v_iv f5
  have kz_0_6 := fdq_208 hD hth r0
  have kz_0_7 := fdq_297 hD hth r0
  have kz_0_8 := fdq_99 hD hth r0
  have nf0 : fc_1 PRD (20, [0, 8], [60, 3, 1, 1081, 7, 6, 8, 0]) ws (vs) := ⟨nf_in hl rfl, sgq_1829 (vc_Re_isWord_at_s5001_12_0 (v_iv (n_v vs 2)) (v_iv (n_v vs 4)) (v_iv (n_v vs 5)) (v_iv (n_v vs 6)) (v_iv (n_v vs 7)) (v_iv (n_v vs 8)) (w_fi ws (n_v vs 0) 8) (w_fi ws (n_v vs 0) 6) (w_fi ws (n_v vs 0) 7) (w_ei ws (w_ar ws (n_v vs 0) 0)) k2 k4 k5 k6 k7 k8 (shm_40 f0) (shm_14 f1) g2 g3 g5 kz_0_6 kz_0_7 kz_0_8)⟩
  refine ⟨(fun _ h => (by cases h)), [], trivial, ?_, (fun _ h => (by cases h))⟩
  rw [List.append_nil]
  exact List.forall_mem_cons.mpr ⟨⟨show (20 : Nat) < 100 from by decide, nf0⟩, (fun _ h => (by cases h))⟩
def n_Re_isWord_at_s5001_an : List an_T := []
def t_Re_isWord_at_s5001_ct : ct_L := [(58, 84, e_jStr_length_v306), (94, 84, e_jStr_length_v306), (151, 89, e_jStr_charAt_v307), (151, 89, e_jStr_charAt_v311), (151, 89, e_jStr_charAt_v315), (151, 89, e_jStr_charAt_v319), (151, 89, e_jStr_charAt_v323)]
set_option maxRecDepth 100000 in
theorem c_Re_isWord_at_s5001 {l : Launch} {D : va_G} {kA : Nat → ClassId} : ct_ok PRD l D kA GG y_Re_isWord_at_s5001 z_Re_isWord_at_s5001 e_Re_isWord_at_s5001 := chk_all_ok (FT := [(9, 8, 0), (35, 8, 6), (38, 8, 7), (41, 8, 8)]) (PT := []) (CT := t_Re_isWord_at_s5001_ct) (KT := []) (NT := []) (AN := n_Re_isWord_at_s5001_an) (OT := [o_Re_isWord_at_s5001_0, o_Re_isWord_at_s5001_1, o_Re_isWord_at_s5001_2, o_Re_isWord_at_s5001_3, o_Re_isWord_at_s5001_4, o_Re_isWord_at_s5001_5, o_Re_isWord_at_s5001_6, o_Re_isWord_at_s5001_7, o_Re_isWord_at_s5001_8, o_Re_isWord_at_s5001_9, o_Re_isWord_at_s5001_10, o_Re_isWord_at_s5001_11, o_Re_isWord_at_s5001_12]) 0 476 (List.forall_mem_cons.mpr ⟨oo_Re_isWord_at_s5001_0, List.forall_mem_cons.mpr ⟨oo_Re_isWord_at_s5001_1, List.forall_mem_cons.mpr ⟨oo_Re_isWord_at_s5001_2, List.forall_mem_cons.mpr ⟨oo_Re_isWord_at_s5001_3, List.forall_mem_cons.mpr ⟨oo_Re_isWord_at_s5001_4, List.forall_mem_cons.mpr ⟨oo_Re_isWord_at_s5001_5, List.forall_mem_cons.mpr ⟨oo_Re_isWord_at_s5001_6, List.forall_mem_cons.mpr ⟨oo_Re_isWord_at_s5001_7, List.forall_mem_cons.mpr ⟨oo_Re_isWord_at_s5001_8, List.forall_mem_cons.mpr ⟨oo_Re_isWord_at_s5001_9, List.forall_mem_cons.mpr ⟨oo_Re_isWord_at_s5001_10, List.forall_mem_cons.mpr ⟨oo_Re_isWord_at_s5001_11, List.forall_mem_cons.mpr ⟨oo_Re_isWord_at_s5001_12, List.forall_mem_nil _⟩⟩⟩⟩⟩⟩⟩⟩⟩⟩⟩⟩⟩) (by decide +kernel) ⟨List.forall_mem_cons.mpr ⟨gf_Re_9, List.forall_mem_cons.mpr ⟨gf_Re_35, List.forall_mem_cons.mpr ⟨gf_Re_38, List.forall_mem_cons.mpr ⟨gf_Re_41, List.forall_mem_nil _⟩⟩⟩⟩, List.forall_mem_nil _, List.forall_mem_cons.mpr ⟨cl_string (y := y_jStr_length) (i := 1) rfl rfl (by decide +kernel) rfl c_jStr_length_v306 wm_674 wm_11 wm_671 wm_672 wm_673 ⟨by decide, by decide, by decide +kernel⟩ (by decide), List.forall_mem_cons.mpr ⟨cl_string (y := y_jStr_length) (i := 1) rfl rfl (by decide +kernel) rfl c_jStr_length_v306 wm_674 wm_11 wm_671 wm_672 wm_673 ⟨by decide, by decide, by decide +kernel⟩ (by decide), List.forall_mem_cons.mpr ⟨cl_string (y := y_jStr_charAt) (i := 1) rfl rfl (by decide +kernel) rfl c_jStr_charAt_v307 wm_684 wm_11 wm_681 wm_682 wm_683 ⟨by decide, by decide, by decide +kernel⟩ (by decide), List.forall_mem_cons.mpr ⟨cl_string (y := y_jStr_charAt) (i := 1) rfl rfl (by decide +kernel) rfl c_jStr_charAt_v311 wm_684 wm_11 wm_681 wm_682 wm_683 ⟨by decide, by decide, by decide +kernel⟩ (by decide), List.forall_mem_cons.mpr ⟨cl_string (y := y_jStr_charAt) (i := 1) rfl rfl (by decide +kernel) rfl c_jStr_charAt_v315 wm_684 wm_11 wm_681 wm_682 wm_683 ⟨by decide, by decide, by decide +kernel⟩ (by decide), List.forall_mem_cons.mpr ⟨cl_string (y := y_jStr_charAt) (i := 1) rfl rfl (by decide +kernel) rfl c_jStr_charAt_v319 wm_684 wm_11 wm_681 wm_682 wm_683 ⟨by decide, by decide, by decide +kernel⟩ (by decide), List.forall_mem_cons.mpr ⟨cl_string (y := y_jStr_charAt) (i := 1) rfl rfl (by decide +kernel) rfl c_jStr_charAt_v323 wm_684 wm_11 wm_681 wm_682 wm_683 ⟨by decide, by decide, by decide +kernel⟩ (by decide), List.forall_mem_nil _⟩⟩⟩⟩⟩⟩⟩, List.forall_mem_nil _, List.forall_mem_nil _, GG_pl⟩ (by decide +kernel)
set_option maxHeartbeats 4000000 in
theorem vc_Re_isWord_at_s5002_0_0 (x2 : Int) (x3 : Int) (x4 : Int) (kind_0 : Int) (tape_0 : Int → Int) (next_0 : Int) (begin_0 : Int) (k2 : (-128) ≤ x2 ∧ x2 ≤ 127) (k3 : 2 ≤ x3 ∧ x3 ≤ 2) (k4 : 0 ≤ x4 ∧ x4 ≤ 0) (f0 : x2 ≠ x3) (g1 : x2 = kind_0) (kz_0_6 : 0 ≤ next_0 ∧ next_0 ≤ 2000) (kz_0_7 : (-128) ≤ kind_0 ∧ kind_0 ≤ 127) (kz_0_8 : 0 ≤ begin_0 ∧ begin_0 ≤ 2000) : CWs (kind_0) (next_0) (begin_0) (tape_0) (x4) := by
  first | subst g1 | skip
  first
    | (right
       refine ⟨by omega, fun w => ?_⟩
       obtain ⟨w0, w1, w2, v0, v1, v2, v3⟩ := w
       try (rw [show x5 = x11 by omega] at v0)
       try (rw [show x5 + 1 = x16 by omega] at v1)
       try (rw [show x5 + 2 = x21 by omega] at v2)
       try (rw [show x5 + 3 = x26 by omega] at v3)
       omega)
    | (left; exact ⟨by omega, by omega, rfl, by omega, by rw [show x5 = x11 by omega]; omega, by rw [show x5 + 1 = x16 by omega]; omega, by rw [show x5 + 2 = x21 by omega]; omega, by rw [show x5 + 3 = x26 by omega]; omega⟩)
def o_Re_isWord_at_s5002_0 : or_T := (25, 5, [(0, (2, 0, 0, [8])), (2, (0, -128, 127, [])), (3, (0, 2, 2, [])), (4, (0, 0, 0, []))], [(7, [2, 3], [1]), (9, [2, 0], [7])], [], [], [(20, [0, 4], [60, 3, 1, 1082, 7, 6, 8, 0])], [], [])
theorem oo_Re_isWord_at_s5002_0 {kA : Nat → ClassId} : or_ok PRD kA GG o_Re_isWord_at_s5002_0 := by
  refine or_mk fun A ta ws vs hD hth hl => ?_
  intro t0 r0 t2 k2 t3 k3 t4 k4 f0 f1
  replace f1 := shm_198 f1
  have g1 : v_iv (n_v vs 2) = w_fi ws (n_v vs 0) 7 := congrArg v_iv f1
  have kz_0_6 := fdq_208 hD hth r0
  have kz_0_7 := fdq_297 hD hth r0
  have kz_0_8 := fdq_99 hD hth r0
  have nf0 : fc_1 PRD (20, [0, 4], [60, 3, 1, 1082, 7, 6, 8, 0]) ws (vs) := ⟨nf_in hl rfl, sgq_1830 (vc_Re_isWord_at_s5002_0_0 (v_iv (n_v vs 2)) (v_iv (n_v vs 3)) (v_iv (n_v vs 4)) (w_fi ws (n_v vs 0) 7) (w_ei ws (w_ar ws (n_v vs 0) 0)) (w_fi ws (n_v vs 0) 6) (w_fi ws (n_v vs 0) 8) k2 k3 k4 (shm_40 f0) g1 kz_0_6 kz_0_7 kz_0_8)⟩
  refine ⟨(fun _ h => (by cases h)), [], trivial, ?_, (fun _ h => (by cases h))⟩
  rw [List.append_nil]
  exact List.forall_mem_cons.mpr ⟨⟨show (20 : Nat) < 100 from by decide, nf0⟩, (fun _ h => (by cases h))⟩
set_option maxHeartbeats 4000000 in
theorem vc_Re_isWord_at_s5002_1_r0 (x4 : Int) (x5 : Int) (x6 : Int) (x11 : Int) (begin_0 : Int) (next_0 : Int) (k4 : 4 ≤ x4 ∧ x4 ≤ 2000) (k5 : 0 ≤ x5 ∧ x5 ≤ 2000) (k6 : 4 ≤ x6 ∧ x6 ≤ 4) (k11 : 0 ≤ x11 ∧ x11 ≤ 2000) (d0 : x5 + 0 ≤ x11 ∧ x11 ≤ x5 + 0) (g1 : x5 = begin_0) (f4 : x6 = x4 - x5) (g5 : x4 = next_0) (kz_0_6 : 0 ≤ next_0 ∧ next_0 ≤ 2000) (kz_0_8 : 0 ≤ begin_0 ∧ begin_0 ≤ 2000) : 0 ≤ x11 ∧ x11 ≤ 1999 := by
  omega
def o_Re_isWord_at_s5002_1 : or_T := (46, 12, [(0, (2, 0, 0, [8])), (4, (0, 4, 2000, [])), (5, (0, 0, 2000, [])), (6, (0, 4, 4, [])), (7, (0, 4, 4, [])), (8, (0, 0, 0, [])), (9, (0, 4, 4, [])), (11, (0, 0, 2000, []))], [(1, [11, 5, 8], []), (9, [5, 0], [8]), (7, [8, 9], [2]), (7, [6, 7], [0]), (2, [6, 4, 5], []), (9, [4, 0], [6])], [(11, (0, 0, 1999, []))], [], [], [], [(11, 5, 0, 0)])
theorem oo_Re_isWord_at_s5002_1 {kA : Nat → ClassId} : or_ok PRD kA GG o_Re_isWord_at_s5002_1 := by
  refine or_mk fun A ta ws vs hD hth hl => ?_
  intro t0 r0 t4 k4 t5 k5 t6 k6 t7 k7 t8 k8 t9 k9 t11 k11 d0 f0 f1 f2 f3 f4 f5
  replace f1 := shm_293 f1
  replace f5 := shm_111 f5
  have g1 : v_iv (n_v vs 5) = w_fi ws (n_v vs 0) 8 := congrArg v_iv f1
  have g5 : v_iv (n_v vs 4) = w_fi ws (n_v vs 0) 6 := congrArg v_iv f5
  have kz_0_6 := fdq_208 hD hth r0
  have kz_0_8 := fdq_99 hD hth r0
  have hrf0 : 0 ≤ v_iv (n_v vs 11) ∧ v_iv (n_v vs 11) ≤ 1999 := vc_Re_isWord_at_s5002_1_r0 (v_iv (n_v vs 4)) (v_iv (n_v vs 5)) (v_iv (n_v vs 6)) (v_iv (n_v vs 11)) (w_fi ws (n_v vs 0) 8) (w_fi ws (n_v vs 0) 6) k4 k5 k6 k11 d0 g1 (shm_14 f4) g5 kz_0_6 kz_0_8
  have rf11 : tv_ok ta (0, 0, 1999, []) (n_v vs 11) := tv_in t11 (by omega) (by omega)
  refine ⟨List.forall_mem_cons.mpr ⟨rf11, (fun _ h => (by cases h))⟩, [], trivial, ?_, (fun _ h => (by cases h))⟩
  rw [List.append_nil]
  exact (fun _ h => (by cases h))
set_option maxHeartbeats 4000000 in
theorem vc_Re_isWord_at_s5002_2_r0 (x4 : Int) (x5 : Int) (x6 : Int) (x16 : Int) (begin_0 : Int) (next_0 : Int) (k4 : 4 ≤ x4 ∧ x4 ≤ 2000) (k5 : 0 ≤ x5 ∧ x5 ≤ 2000) (k6 : 4 ≤ x6 ∧ x6 ≤ 4) (k16 : 1 ≤ x16 ∧ x16 ≤ 2001) (d0 : x5 + 1 ≤ x16 ∧ x16 ≤ x5 + 1) (g1 : x5 = begin_0) (f7 : x6 = x4 - x5) (g8 : x4 = next_0) (kz_0_6 : 0 ≤ next_0 ∧ next_0 ≤ 2000) (kz_0_8 : 0 ≤ begin_0 ∧ begin_0 ≤ 2000) : 1 ≤ x16 ∧ x16 ≤ 1999 := by
  omega
def o_Re_isWord_at_s5002_2 : or_T := (46, 17, [(0, (2, 0, 0, [8])), (4, (0, 4, 2000, [])), (5, (0, 0, 2000, [])), (6, (0, 4, 4, [])), (7, (0, 4, 4, [])), (8, (0, 0, 0, [])), (9, (0, 4, 4, [])), (11, (0, 0, 1999, [])), (14, (0, 1, 1, [])), (15, (0, 4, 4, [])), (16, (0, 1, 2001, []))], [(1, [16, 5, 14], []), (9, [5, 0], [8]), (7, [14, 15], [2]), (6, [14, 8], [1]), (1, [11, 5, 8], []), (7, [8, 9], [2]), (7, [6, 7], [0]), (2, [6, 4, 5], []), (9, [4, 0], [6])], [(16, (0, 1, 1999, []))], [], [], [], [(16, 5, 1, 1), (11, 5, 0, 0)])
theorem oo_Re_isWord_at_s5002_2 {kA : Nat → ClassId} : or_ok PRD kA GG o_Re_isWord_at_s5002_2 := by
  refine or_mk fun A ta ws vs hD hth hl => ?_
  intro t0 r0 t4 k4 t5 k5 t6 k6 t7 k7 t8 k8 t9 k9 t11 k11 t14 k14 t15 k15 t16 k16 d0 d1 f0 f1 f2 f3 f4 f5 f6 f7 f8
  replace f1 := shm_293 f1
  replace f8 := shm_111 f8
  have g1 : v_iv (n_v vs 5) = w_fi ws (n_v vs 0) 8 := congrArg v_iv f1
  have g8 : v_iv (n_v vs 4) = w_fi ws (n_v vs 0) 6 := congrArg v_iv f8
  have kz_0_6 := fdq_208 hD hth r0
  have kz_0_8 := fdq_99 hD hth r0
  have hrf0 : 1 ≤ v_iv (n_v vs 16) ∧ v_iv (n_v vs 16) ≤ 1999 := vc_Re_isWord_at_s5002_2_r0 (v_iv (n_v vs 4)) (v_iv (n_v vs 5)) (v_iv (n_v vs 6)) (v_iv (n_v vs 16)) (w_fi ws (n_v vs 0) 8) (w_fi ws (n_v vs 0) 6) k4 k5 k6 k16 d0 g1 (shm_14 f7) g8 kz_0_6 kz_0_8
  have rf16 : tv_ok ta (0, 1, 1999, []) (n_v vs 16) := tv_in t16 (by omega) (by omega)
  refine ⟨List.forall_mem_cons.mpr ⟨rf16, (fun _ h => (by cases h))⟩, [], trivial, ?_, (fun _ h => (by cases h))⟩
  rw [List.append_nil]
  exact (fun _ h => (by cases h))
set_option maxHeartbeats 4000000 in
theorem vc_Re_isWord_at_s5002_3_r0 (x4 : Int) (x5 : Int) (x6 : Int) (x21 : Int) (begin_0 : Int) (next_0 : Int) (k4 : 4 ≤ x4 ∧ x4 ≤ 2000) (k5 : 0 ≤ x5 ∧ x5 ≤ 2000) (k6 : 4 ≤ x6 ∧ x6 ≤ 4) (k21 : 2 ≤ x21 ∧ x21 ≤ 2002) (d0 : x5 + 2 ≤ x21 ∧ x21 ≤ x5 + 2) (g1 : x5 = begin_0) (f10 : x6 = x4 - x5) (g11 : x4 = next_0) (kz_0_6 : 0 ≤ next_0 ∧ next_0 ≤ 2000) (kz_0_8 : 0 ≤ begin_0 ∧ begin_0 ≤ 2000) : 2 ≤ x21 ∧ x21 ≤ 1999 := by
  omega
def o_Re_isWord_at_s5002_3 : or_T := (46, 22, [(0, (2, 0, 0, [8])), (4, (0, 4, 2000, [])), (5, (0, 0, 2000, [])), (6, (0, 4, 4, [])), (7, (0, 4, 4, [])), (8, (0, 0, 0, [])), (9, (0, 4, 4, [])), (11, (0, 0, 1999, [])), (14, (0, 1, 1, [])), (15, (0, 4, 4, [])), (16, (0, 1, 1999, [])), (19, (0, 2, 2, [])), (20, (0, 4, 4, [])), (21, (0, 2, 2002, []))], [(1, [21, 5, 19], []), (9, [5, 0], [8]), (7, [19, 20], [2]), (6, [19, 14], [1]), (1, [16, 5, 14], []), (7, [14, 15], [2]), (6, [14, 8], [1]), (1, [11, 5, 8], []), (7, [8, 9], [2]), (7, [6, 7], [0]), (2, [6, 4, 5], []), (9, [4, 0], [6])], [(21, (0, 2, 1999, []))], [], [], [], [(21, 5, 2, 2), (16, 5, 1, 1), (11, 5, 0, 0)])
theorem oo_Re_isWord_at_s5002_3 {kA : Nat → ClassId} : or_ok PRD kA GG o_Re_isWord_at_s5002_3 := by
  refine or_mk fun A ta ws vs hD hth hl => ?_
  intro t0 r0 t4 k4 t5 k5 t6 k6 t7 k7 t8 k8 t9 k9 t11 k11 t14 k14 t15 k15 t16 k16 t19 k19 t20 k20 t21 k21 d0 d1 d2 f0 f1 f2 f3 f4 f5 f6 f7 f8 f9 f10 f11
  replace f1 := shm_293 f1
  replace f11 := shm_111 f11
  have g1 : v_iv (n_v vs 5) = w_fi ws (n_v vs 0) 8 := congrArg v_iv f1
  have g11 : v_iv (n_v vs 4) = w_fi ws (n_v vs 0) 6 := congrArg v_iv f11
  have kz_0_6 := fdq_208 hD hth r0
  have kz_0_8 := fdq_99 hD hth r0
  have hrf0 : 2 ≤ v_iv (n_v vs 21) ∧ v_iv (n_v vs 21) ≤ 1999 := vc_Re_isWord_at_s5002_3_r0 (v_iv (n_v vs 4)) (v_iv (n_v vs 5)) (v_iv (n_v vs 6)) (v_iv (n_v vs 21)) (w_fi ws (n_v vs 0) 8) (w_fi ws (n_v vs 0) 6) k4 k5 k6 k21 d0 g1 (shm_14 f10) g11 kz_0_6 kz_0_8
  have rf21 : tv_ok ta (0, 2, 1999, []) (n_v vs 21) := tv_in t21 (by omega) (by omega)
  refine ⟨List.forall_mem_cons.mpr ⟨rf21, (fun _ h => (by cases h))⟩, [], trivial, ?_, (fun _ h => (by cases h))⟩
  rw [List.append_nil]
  exact (fun _ h => (by cases h))
set_option maxHeartbeats 4000000 in
theorem vc_Re_isWord_at_s5002_4_r0 (x4 : Int) (x5 : Int) (x6 : Int) (x26 : Int) (begin_0 : Int) (next_0 : Int) (k4 : 4 ≤ x4 ∧ x4 ≤ 2000) (k5 : 0 ≤ x5 ∧ x5 ≤ 2000) (k6 : 4 ≤ x6 ∧ x6 ≤ 4) (k26 : 3 ≤ x26 ∧ x26 ≤ 2003) (d0 : x5 + 3 ≤ x26 ∧ x26 ≤ x5 + 3) (g1 : x5 = begin_0) (f13 : x6 = x4 - x5) (g14 : x4 = next_0) (kz_0_6 : 0 ≤ next_0 ∧ next_0 ≤ 2000) (kz_0_8 : 0 ≤ begin_0 ∧ begin_0 ≤ 2000) : 3 ≤ x26 ∧ x26 ≤ 1999 := by
  omega
def o_Re_isWord_at_s5002_4 : or_T := (46, 27, [(0, (2, 0, 0, [8])), (4, (0, 4, 2000, [])), (5, (0, 0, 2000, [])), (6, (0, 4, 4, [])), (7, (0, 4, 4, [])), (8, (0, 0, 0, [])), (9, (0, 4, 4, [])), (11, (0, 0, 1999, [])), (14, (0, 1, 1, [])), (15, (0, 4, 4, [])), (16, (0, 1, 1999, [])), (19, (0, 2, 2, [])), (20, (0, 4, 4, [])), (21, (0, 2, 1999, [])), (24, (0, 3, 3, [])), (25, (0, 4, 4, [])), (26, (0, 3, 2003, []))], [(1, [26, 5, 24], []), (9, [5, 0], [8]), (7, [24, 25], [2]), (6, [24, 19], [1]), (1, [21, 5, 19], []), (7, [19, 20], [2]), (6, [19, 14], [1]), (1, [16, 5, 14], []), (7, [14, 15], [2]), (6, [14, 8], [1]), (1, [11, 5, 8], []), (7, [8, 9], [2]), (7, [6, 7], [0]), (2, [6, 4, 5], []), (9, [4, 0], [6])], [(26, (0, 3, 1999, []))], [], [], [], [(26, 5, 3, 3), (21, 5, 2, 2), (16, 5, 1, 1), (11, 5, 0, 0)])
theorem oo_Re_isWord_at_s5002_4 {kA : Nat → ClassId} : or_ok PRD kA GG o_Re_isWord_at_s5002_4 := by
  refine or_mk fun A ta ws vs hD hth hl => ?_
  intro t0 r0 t4 k4 t5 k5 t6 k6 t7 k7 t8 k8 t9 k9 t11 k11 t14 k14 t15 k15 t16 k16 t19 k19 t20 k20 t21 k21 t24 k24 t25 k25 t26 k26 d0 d1 d2 d3 f0 f1 f2 f3 f4 f5 f6 f7 f8 f9 f10 f11 f12 f13 f14
  replace f1 := shm_293 f1
  replace f14 := shm_111 f14
  have g1 : v_iv (n_v vs 5) = w_fi ws (n_v vs 0) 8 := congrArg v_iv f1
  have g14 : v_iv (n_v vs 4) = w_fi ws (n_v vs 0) 6 := congrArg v_iv f14
  have kz_0_6 := fdq_208 hD hth r0
  have kz_0_8 := fdq_99 hD hth r0
  have hrf0 : 3 ≤ v_iv (n_v vs 26) ∧ v_iv (n_v vs 26) ≤ 1999 := vc_Re_isWord_at_s5002_4_r0 (v_iv (n_v vs 4)) (v_iv (n_v vs 5)) (v_iv (n_v vs 6)) (v_iv (n_v vs 26)) (w_fi ws (n_v vs 0) 8) (w_fi ws (n_v vs 0) 6) k4 k5 k6 k26 d0 g1 (shm_14 f13) g14 kz_0_6 kz_0_8
  have rf26 : tv_ok ta (0, 3, 1999, []) (n_v vs 26) := tv_in t26 (by omega) (by omega)
  refine ⟨List.forall_mem_cons.mpr ⟨rf26, (fun _ h => (by cases h))⟩, [], trivial, ?_, (fun _ h => (by cases h))⟩
  rw [List.append_nil]
  exact (fun _ h => (by cases h))
set_option maxHeartbeats 4000000 in
theorem vc_Re_isWord_at_s5002_5_0 (x2 : Int) (x4 : Int) (x5 : Int) (x6 : Int) (x11 : Int) (x12 : Int) (x13 : Int) (x16 : Int) (x17 : Int) (x18 : Int) (x21 : Int) (x22 : Int) (x23 : Int) (x26 : Int) (x27 : Int) (x28 : Int) (x31 : Int) (tape_0 : Int → Int) (begin_0 : Int) (next_0 : Int) (kind_0 : Int) (k2 : 2 ≤ x2 ∧ x2 ≤ 2) (k4 : 4 ≤ x4 ∧ x4 ≤ 2000) (k5 : 0 ≤ x5 ∧ x5 ≤ 2000) (k6 : 4 ≤ x6 ∧ x6 ≤ 4) (k11 : 0 ≤ x11 ∧ x11 ≤ 1999) (k12 : 0 ≤ x12 ∧ x12 ≤ 127) (k13 : 0 ≤ x13 ∧ x13 ≤ 127) (k16 : 1 ≤ x16 ∧ x16 ≤ 1999) (k17 : 0 ≤ x17 ∧ x17 ≤ 127) (k18 : 0 ≤ x18 ∧ x18 ≤ 127) (k21 : 2 ≤ x21 ∧ x21 ≤ 1999) (k22 : 0 ≤ x22 ∧ x22 ≤ 127) (k23 : 0 ≤ x23 ∧ x23 ≤ 127) (k26 : 3 ≤ x26 ∧ x26 ≤ 1999) (k27 : 0 ≤ x27 ∧ x27 ≤ 127) (k28 : 0 ≤ x28 ∧ x28 ≤ 127) (k31 : 1 ≤ x31 ∧ x31 ≤ 1) (d0 : x28 + 0 ≤ x27 ∧ x27 ≤ x28 + 0) (d1 : x5 + 3 ≤ x26 ∧ x26 ≤ x5 + 3) (d2 : x23 + 0 ≤ x22 ∧ x22 ≤ x23 + 0) (d3 : x5 + 2 ≤ x21 ∧ x21 ≤ x5 + 2) (d4 : x18 + 0 ≤ x17 ∧ x17 ≤ x18 + 0) (d5 : x5 + 1 ≤ x16 ∧ x16 ≤ x5 + 1) (d6 : x13 + 0 ≤ x12 ∧ x12 ≤ x13 + 0) (d7 : x5 + 0 ≤ x11 ∧ x11 ≤ x5 + 0) (f1 : 1 * x28 + 0 ≤ 101) (f2 : (-1) * x28 + 0 ≤ (-101)) (h3 : x27 = tape_0 (x26)) (g5 : x5 = begin_0) (f10 : 1 * x23 + 0 ≤ 122) (f11 : (-1) * x23 + 0 ≤ (-122)) (h12 : x22 = tape_0 (x21)) (f17 : 1 * x18 + 0 ≤ 105) (f18 : (-1) * x18 + 0 ≤ (-105)) (h19 : x17 = tape_0 (x16)) (f24 : 1 * x13 + 0 ≤ 115) (f25 : (-1) * x13 + 0 ≤ (-115)) (h26 : x12 = tape_0 (x11)) (f30 : x6 = x4 - x5) (g31 : x4 = next_0) (g33 : x2 = kind_0) (kz_0_6 : 0 ≤ next_0 ∧ next_0 ≤ 2000) (kz_0_7 : (-128) ≤ kind_0 ∧ kind_0 ≤ 127) (kz_0_8 : 0 ≤ begin_0 ∧ begin_0 ≤ 2000) : CWs (kind_0) (next_0) (begin_0) (tape_0) (x31) := by
  first | subst g5 | skip
  first | subst g31 | skip
  first | subst g33 | skip
  first
    | (right
       refine ⟨by omega, fun w => ?_⟩
       obtain ⟨w0, w1, w2, v0, v1, v2, v3⟩ := w
       try (rw [show x5 = x11 by omega] at v0)
       try (rw [show x5 + 1 = x16 by omega] at v1)
       try (rw [show x5 + 2 = x21 by omega] at v2)
       try (rw [show x5 + 3 = x26 by omega] at v3)
       omega)
    | (left; exact ⟨by omega, by omega, rfl, by omega, by rw [show x5 = x11 by omega]; omega, by rw [show x5 + 1 = x16 by omega]; omega, by rw [show x5 + 2 = x21 by omega]; omega, by rw [show x5 + 3 = x26 by omega]; omega⟩)
def o_Re_isWord_at_s5002_5 : or_T := (64, 32, [(0, (2, 0, 0, [8])), (2, (0, 2, 2, [])), (4, (0, 4, 2000, [])), (5, (0, 0, 2000, [])), (6, (0, 4, 4, [])), (11, (0, 0, 1999, [])), (12, (0, 0, 127, [])), (13, (0, 0, 127, [])), (16, (0, 1, 1999, [])), (17, (0, 0, 127, [])), (18, (0, 0, 127, [])), (21, (0, 2, 1999, [])), (22, (0, 0, 127, [])), (23, (0, 0, 127, [])), (26, (0, 3, 1999, [])), (27, (0, 0, 127, [])), (28, (0, 0, 127, [])), (31, (0, 1, 1, []))], [(23, [28], [101, 1]), (23, [28], [-101, -1]), (10, [27, 10, 26], []), (9, [5, 0], [8]), (9, [10, 0], [0]), (23, [23], [122, 1]), (23, [23], [-122, -1]), (10, [22, 10, 21], []), (23, [18], [105, 1]), (23, [18], [-105, -1]), (10, [17, 10, 16], []), (23, [13], [115, 1]), (23, [13], [-115, -1]), (10, [12, 10, 11], []), (2, [6, 4, 5], []), (9, [4, 0], [6]), (9, [2, 0], [7])], [], [], [(20, [0, 31], [60, 3, 1, 1082, 7, 6, 8, 0])], [], [(27, 28, 0, 0), (26, 5, 3, 3), (22, 23, 0, 0), (21, 5, 2, 2), (17, 18, 0, 0), (16, 5, 1, 1), (12, 13, 0, 0), (11, 5, 0, 0)])
theorem oo_Re_isWord_at_s5002_5 {kA : Nat → ClassId} : or_ok PRD kA GG o_Re_isWord_at_s5002_5 := by
  refine or_mk fun A ta ws vs hD hth hl => ?_
  intro t0 r0 t2 k2 t4 k4 t5 k5 t6 k6 t11 k11 t12 k12 t13 k13 t16 k16 t17 k17 t18 k18 t21 k21 t22 k22 t23 k23 t26 k26 t27 k27 t28 k28 t31 k31 d0 d1 d2 d3 d4 d5 d6 d7 f1 f2 f3 f5 f6 f10 f11 f12 f17 f18 f19 f24 f25 f26 f30 f31 f33
  replace f3 := shm_107 f3
  replace f5 := shm_293 f5
  replace f6 := shm_163 f6
  replace f12 := shm_107 f12
  replace f19 := shm_107 f19
  replace f26 := shm_107 f26
  replace f31 := shm_111 f31
  replace f33 := shm_198 f33
  have ad_10 : v_ad (n_v vs 10) = w_ar ws (n_v vs 0) 0 := congrArg v_ad f6
  simp only [ad_10] at f3
  have h3 : v_iv (n_v vs 27) = w_ei ws (w_ar ws (n_v vs 0) 0) (v_iv (n_v vs 26)) := f3
  have g5 : v_iv (n_v vs 5) = w_fi ws (n_v vs 0) 8 := congrArg v_iv f5
  simp only [ad_10] at f12
  have h12 : v_iv (n_v vs 22) = w_ei ws (w_ar ws (n_v vs 0) 0) (v_iv (n_v vs 21)) := f12
  simp only [ad_10] at f19
  have h19 : v_iv (n_v vs 17) = w_ei ws (w_ar ws (n_v vs 0) 0) (v_iv (n_v vs 16)) := f19
  simp only [ad_10] at f26
  have h26 : v_iv (n_v vs 12) = w_ei ws (w_ar ws (n_v vs 0) 0) (v_iv (n_v vs 11)) := f26
  have g31 : v_iv (n_v vs 4) = w_fi ws (n_v vs 0) 6 := congrArg v_iv f31
  have g33 : v_iv (n_v vs 2) = w_fi ws (n_v vs 0) 7 := congrArg v_iv f33
  have kz_0_6 := fdq_208 hD hth r0
  have kz_0_7 := fdq_297 hD hth r0
  have kz_0_8 := fdq_99 hD hth r0
  have nf0 : fc_1 PRD (20, [0, 31], [60, 3, 1, 1082, 7, 6, 8, 0]) ws (vs) := ⟨nf_in hl rfl, sgq_1830 (vc_Re_isWord_at_s5002_5_0 (v_iv (n_v vs 2)) (v_iv (n_v vs 4)) (v_iv (n_v vs 5)) (v_iv (n_v vs 6)) (v_iv (n_v vs 11)) (v_iv (n_v vs 12)) (v_iv (n_v vs 13)) (v_iv (n_v vs 16)) (v_iv (n_v vs 17)) (v_iv (n_v vs 18)) (v_iv (n_v vs 21)) (v_iv (n_v vs 22)) (v_iv (n_v vs 23)) (v_iv (n_v vs 26)) (v_iv (n_v vs 27)) (v_iv (n_v vs 28)) (v_iv (n_v vs 31)) (w_ei ws (w_ar ws (n_v vs 0) 0)) (w_fi ws (n_v vs 0) 8) (w_fi ws (n_v vs 0) 6) (w_fi ws (n_v vs 0) 7) k2 k4 k5 k6 k11 k12 k13 k16 k17 k18 k21 k22 k23 k26 k27 k28 k31 d0 d1 d2 d3 d4 d5 d6 d7 (shm_59 f1) (shm_60 f2) h3 g5 (shm_73 f10) (shm_74 f11) h12 (shm_71 f17) (shm_72 f18) h19 (shm_69 f24) (shm_70 f25) h26 (shm_14 f30) g31 g33 kz_0_6 kz_0_7 kz_0_8)⟩
  refine ⟨(fun _ h => (by cases h)), [], trivial, ?_, (fun _ h => (by cases h))⟩
  rw [List.append_nil]
  exact List.forall_mem_cons.mpr ⟨⟨show (20 : Nat) < 100 from by decide, nf0⟩, (fun _ h => (by cases h))⟩
set_option maxHeartbeats 4000000 in
theorem vc_Re_isWord_at_s5002_6_0 (x2 : Int) (x4 : Int) (x5 : Int) (x11 : Int) (x16 : Int) (x21 : Int) (x26 : Int) (x27 : Int) (x28 : Int) (x29 : Int) (tape_0 : Int → Int) (begin_0 : Int) (next_0 : Int) (kind_0 : Int) (k2 : 2 ≤ x2 ∧ x2 ≤ 2) (k4 : 4 ≤ x4 ∧ x4 ≤ 2000) (k5 : 0 ≤ x5 ∧ x5 ≤ 2000) (k26 : 3 ≤ x26 ∧ x26 ≤ 1999) (k27 : (-128) ≤ x27 ∧ x27 ≤ 127) (k28 : 0 ≤ x28 ∧ x28 ≤ 65535) (k29 : 0 ≤ x29 ∧ x29 ≤ 0) (d0 : x5 + 3 ≤ x26 ∧ x26 ≤ x5 + 3) (f0 : x27 ≠ x28) (f1 : 1 * x28 + 0 ≤ 101) (f2 : (-1) * x28 + 0 ≤ (-101)) (h3 : x27 = tape_0 (x26)) (g5 : x5 = begin_0) (g31 : x4 = next_0) (g33 : x2 = kind_0) (kz_0_6 : 0 ≤ next_0 ∧ next_0 ≤ 2000) (kz_0_7 : (-128) ≤ kind_0 ∧ kind_0 ≤ 127) (kz_0_8 : 0 ≤ begin_0 ∧ begin_0 ≤ 2000) : CWs (kind_0) (next_0) (begin_0) (tape_0) (x29) := by
  first | subst g5 | skip
  first | subst g31 | skip
  first | subst g33 | skip
  first
    | (right
       refine ⟨by omega, fun w => ?_⟩
       obtain ⟨w0, w1, w2, v0, v1, v2, v3⟩ := w
       try (rw [show x5 = x11 by omega] at v0)
       try (rw [show x5 + 1 = x16 by omega] at v1)
       try (rw [show x5 + 2 = x21 by omega] at v2)
       try (rw [show x5 + 3 = x26 by omega] at v3)
       omega)
    | (left; exact ⟨by omega, by omega, rfl, by omega, by rw [show x5 = x11 by omega]; omega, by rw [show x5 + 1 = x16 by omega]; omega, by rw [show x5 + 2 = x21 by omega]; omega, by rw [show x5 + 3 = x26 by omega]; omega⟩)
def o_Re_isWord_at_s5002_6 : or_T := (56, 30, [(0, (2, 0, 0, [8])), (2, (0, 2, 2, [])), (4, (0, 4, 2000, [])), (5, (0, 0, 2000, [])), (26, (0, 3, 1999, [])), (27, (0, -128, 127, [])), (28, (0, 0, 65535, [])), (29, (0, 0, 0, []))], [(7, [27, 28], [1]), (23, [28], [101, 1]), (23, [28], [-101, -1]), (10, [27, 10, 26], []), (9, [5, 0], [8]), (9, [10, 0], [0]), (9, [4, 0], [6]), (9, [2, 0], [7])], [], [], [(20, [0, 29], [60, 3, 1, 1082, 7, 6, 8, 0])], [], [(26, 5, 3, 3)])
theorem oo_Re_isWord_at_s5002_6 {kA : Nat → ClassId} : or_ok PRD kA GG o_Re_isWord_at_s5002_6 := by
  refine or_mk fun A ta ws vs hD hth hl => ?_
  intro t0 r0 t2 k2 t4 k4 t5 k5 t26 k26 t27 k27 t28 k28 t29 k29 d0 f0 f1 f2 f3 f5 f6 f31 f33
  replace f3 := shm_107 f3
  replace f5 := shm_293 f5
  replace f6 := shm_163 f6
  replace f31 := shm_111 f31
  replace f33 := shm_198 f33
  have ad_10 : v_ad (n_v vs 10) = w_ar ws (n_v vs 0) 0 := congrArg v_ad f6
  simp only [ad_10] at f3
  have h3 : v_iv (n_v vs 27) = w_ei ws (w_ar ws (n_v vs 0) 0) (v_iv (n_v vs 26)) := f3
  have g5 : v_iv (n_v vs 5) = w_fi ws (n_v vs 0) 8 := congrArg v_iv f5
  have g31 : v_iv (n_v vs 4) = w_fi ws (n_v vs 0) 6 := congrArg v_iv f31
  have g33 : v_iv (n_v vs 2) = w_fi ws (n_v vs 0) 7 := congrArg v_iv f33
  have kz_0_6 := fdq_208 hD hth r0
  have kz_0_7 := fdq_297 hD hth r0
  have kz_0_8 := fdq_99 hD hth r0
  have nf0 : fc_1 PRD (20, [0, 29], [60, 3, 1, 1082, 7, 6, 8, 0]) ws (vs) := ⟨nf_in hl rfl, sgq_1830 (vc_Re_isWord_at_s5002_6_0 (v_iv (n_v vs 2)) (v_iv (n_v vs 4)) (v_iv (n_v vs 5)) (v_iv (n_v vs 11)) (v_iv (n_v vs 16)) (v_iv (n_v vs 21)) (v_iv (n_v vs 26)) (v_iv (n_v vs 27)) (v_iv (n_v vs 28)) (v_iv (n_v vs 29)) (w_ei ws (w_ar ws (n_v vs 0) 0)) (w_fi ws (n_v vs 0) 8) (w_fi ws (n_v vs 0) 6) (w_fi ws (n_v vs 0) 7) k2 k4 k5 k26 k27 k28 k29 d0 (shm_40 f0) (shm_59 f1) (shm_60 f2) h3 g5 g31 g33 kz_0_6 kz_0_7 kz_0_8)⟩
  refine ⟨(fun _ h => (by cases h)), [], trivial, ?_, (fun _ h => (by cases h))⟩
  rw [List.append_nil]
  exact List.forall_mem_cons.mpr ⟨⟨show (20 : Nat) < 100 from by decide, nf0⟩, (fun _ h => (by cases h))⟩
set_option maxHeartbeats 4000000 in
theorem vc_Re_isWord_at_s5002_7_0 (x2 : Int) (x4 : Int) (x5 : Int) (x11 : Int) (x16 : Int) (x21 : Int) (x22 : Int) (x23 : Int) (x24 : Int) (tape_0 : Int → Int) (begin_0 : Int) (next_0 : Int) (kind_0 : Int) (k2 : 2 ≤ x2 ∧ x2 ≤ 2) (k4 : 4 ≤ x4 ∧ x4 ≤ 2000) (k5 : 0 ≤ x5 ∧ x5 ≤ 2000) (k21 : 2 ≤ x21 ∧ x21 ≤ 1999) (k22 : (-128) ≤ x22 ∧ x22 ≤ 127) (k23 : 0 ≤ x23 ∧ x23 ≤ 65535) (k24 : 0 ≤ x24 ∧ x24 ≤ 0) (d0 : x5 + 2 ≤ x21 ∧ x21 ≤ x5 + 2) (f0 : x22 ≠ x23) (f1 : 1 * x23 + 0 ≤ 122) (f2 : (-1) * x23 + 0 ≤ (-122)) (h3 : x22 = tape_0 (x21)) (g5 : x5 = begin_0) (g24 : x4 = next_0) (g26 : x2 = kind_0) (kz_0_6 : 0 ≤ next_0 ∧ next_0 ≤ 2000) (kz_0_7 : (-128) ≤ kind_0 ∧ kind_0 ≤ 127) (kz_0_8 : 0 ≤ begin_0 ∧ begin_0 ≤ 2000) : CWs (kind_0) (next_0) (begin_0) (tape_0) (x24) := by
  first | subst g5 | skip
  first | subst g24 | skip
  first | subst g26 | skip
  first
    | (right
       refine ⟨by omega, fun w => ?_⟩
       obtain ⟨w0, w1, w2, v0, v1, v2, v3⟩ := w
       try (rw [show x5 = x11 by omega] at v0)
       try (rw [show x5 + 1 = x16 by omega] at v1)
       try (rw [show x5 + 2 = x21 by omega] at v2)
       try (rw [show x5 + 3 = x26 by omega] at v3)
       omega)
    | (left; exact ⟨by omega, by omega, rfl, by omega, by rw [show x5 = x11 by omega]; omega, by rw [show x5 + 1 = x16 by omega]; omega, by rw [show x5 + 2 = x21 by omega]; omega, by rw [show x5 + 3 = x26 by omega]; omega⟩)
def o_Re_isWord_at_s5002_7 : or_T := (56, 25, [(0, (2, 0, 0, [8])), (2, (0, 2, 2, [])), (4, (0, 4, 2000, [])), (5, (0, 0, 2000, [])), (21, (0, 2, 1999, [])), (22, (0, -128, 127, [])), (23, (0, 0, 65535, [])), (24, (0, 0, 0, []))], [(7, [22, 23], [1]), (23, [23], [122, 1]), (23, [23], [-122, -1]), (10, [22, 10, 21], []), (9, [5, 0], [8]), (9, [10, 0], [0]), (9, [4, 0], [6]), (9, [2, 0], [7])], [], [], [(20, [0, 24], [60, 3, 1, 1082, 7, 6, 8, 0])], [], [(21, 5, 2, 2)])
theorem oo_Re_isWord_at_s5002_7 {kA : Nat → ClassId} : or_ok PRD kA GG o_Re_isWord_at_s5002_7 := by
  refine or_mk fun A ta ws vs hD hth hl => ?_
  intro t0 r0 t2 k2 t4 k4 t5 k5 t21 k21 t22 k22 t23 k23 t24 k24 d0 f0 f1 f2 f3 f5 f6 f24 f26
  replace f3 := shm_107 f3
  replace f5 := shm_293 f5
  replace f6 := shm_163 f6
  replace f24 := shm_111 f24
  replace f26 := shm_198 f26
  have ad_10 : v_ad (n_v vs 10) = w_ar ws (n_v vs 0) 0 := congrArg v_ad f6
  simp only [ad_10] at f3
  have h3 : v_iv (n_v vs 22) = w_ei ws (w_ar ws (n_v vs 0) 0) (v_iv (n_v vs 21)) := f3
  have g5 : v_iv (n_v vs 5) = w_fi ws (n_v vs 0) 8 := congrArg v_iv f5
  have g24 : v_iv (n_v vs 4) = w_fi ws (n_v vs 0) 6 := congrArg v_iv f24
  have g26 : v_iv (n_v vs 2) = w_fi ws (n_v vs 0) 7 := congrArg v_iv f26
  have kz_0_6 := fdq_208 hD hth r0
  have kz_0_7 := fdq_297 hD hth r0
  have kz_0_8 := fdq_99 hD hth r0
  have nf0 : fc_1 PRD (20, [0, 24], [60, 3, 1, 1082, 7, 6, 8, 0]) ws (vs) := ⟨nf_in hl rfl, sgq_1830 (vc_Re_isWord_at_s5002_7_0 (v_iv (n_v vs 2)) (v_iv (n_v vs 4)) (v_iv (n_v vs 5)) (v_iv (n_v vs 11)) (v_iv (n_v vs 16)) (v_iv (n_v vs 21)) (v_iv (n_v vs 22)) (v_iv (n_v vs 23)) (v_iv (n_v vs 24)) (w_ei ws (w_ar ws (n_v vs 0) 0)) (w_fi ws (n_v vs 0) 8) (w_fi ws (n_v vs 0) 6) (w_fi ws (n_v vs 0) 7) k2 k4 k5 k21 k22 k23 k24 d0 (shm_40 f0) (shm_73 f1) (shm_74 f2) h3 g5 g24 g26 kz_0_6 kz_0_7 kz_0_8)⟩
  refine ⟨(fun _ h => (by cases h)), [], trivial, ?_, (fun _ h => (by cases h))⟩
  rw [List.append_nil]
  exact List.forall_mem_cons.mpr ⟨⟨show (20 : Nat) < 100 from by decide, nf0⟩, (fun _ h => (by cases h))⟩
set_option maxHeartbeats 4000000 in
theorem vc_Re_isWord_at_s5002_8_0 (x2 : Int) (x4 : Int) (x5 : Int) (x11 : Int) (x16 : Int) (x17 : Int) (x18 : Int) (x19 : Int) (tape_0 : Int → Int) (begin_0 : Int) (next_0 : Int) (kind_0 : Int) (k2 : 2 ≤ x2 ∧ x2 ≤ 2) (k4 : 4 ≤ x4 ∧ x4 ≤ 2000) (k5 : 0 ≤ x5 ∧ x5 ≤ 2000) (k16 : 1 ≤ x16 ∧ x16 ≤ 1999) (k17 : (-128) ≤ x17 ∧ x17 ≤ 127) (k18 : 0 ≤ x18 ∧ x18 ≤ 65535) (k19 : 0 ≤ x19 ∧ x19 ≤ 0) (d0 : x5 + 1 ≤ x16 ∧ x16 ≤ x5 + 1) (f0 : x17 ≠ x18) (f1 : 1 * x18 + 0 ≤ 105) (f2 : (-1) * x18 + 0 ≤ (-105)) (h3 : x17 = tape_0 (x16)) (g5 : x5 = begin_0) (g17 : x4 = next_0) (g19 : x2 = kind_0) (kz_0_6 : 0 ≤ next_0 ∧ next_0 ≤ 2000) (kz_0_7 : (-128) ≤ kind_0 ∧ kind_0 ≤ 127) (kz_0_8 : 0 ≤ begin_0 ∧ begin_0 ≤ 2000) : CWs (kind_0) (next_0) (begin_0) (tape_0) (x19) := by
  first | subst g5 | skip
  first | subst g17 | skip
  first | subst g19 | skip
  first
    | (right
       refine ⟨by omega, fun w => ?_⟩
       obtain ⟨w0, w1, w2, v0, v1, v2, v3⟩ := w
       try (rw [show x5 = x11 by omega] at v0)
       try (rw [show x5 + 1 = x16 by omega] at v1)
       try (rw [show x5 + 2 = x21 by omega] at v2)
       try (rw [show x5 + 3 = x26 by omega] at v3)
       omega)
    | (left; exact ⟨by omega, by omega, rfl, by omega, by rw [show x5 = x11 by omega]; omega, by rw [show x5 + 1 = x16 by omega]; omega, by rw [show x5 + 2 = x21 by omega]; omega, by rw [show x5 + 3 = x26 by omega]; omega⟩)
def o_Re_isWord_at_s5002_8 : or_T := (56, 20, [(0, (2, 0, 0, [8])), (2, (0, 2, 2, [])), (4, (0, 4, 2000, [])), (5, (0, 0, 2000, [])), (16, (0, 1, 1999, [])), (17, (0, -128, 127, [])), (18, (0, 0, 65535, [])), (19, (0, 0, 0, []))], [(7, [17, 18], [1]), (23, [18], [105, 1]), (23, [18], [-105, -1]), (10, [17, 10, 16], []), (9, [5, 0], [8]), (9, [10, 0], [0]), (9, [4, 0], [6]), (9, [2, 0], [7])], [], [], [(20, [0, 19], [60, 3, 1, 1082, 7, 6, 8, 0])], [], [(16, 5, 1, 1)])
theorem oo_Re_isWord_at_s5002_8 {kA : Nat → ClassId} : or_ok PRD kA GG o_Re_isWord_at_s5002_8 := by
  refine or_mk fun A ta ws vs hD hth hl => ?_
  intro t0 r0 t2 k2 t4 k4 t5 k5 t16 k16 t17 k17 t18 k18 t19 k19 d0 f0 f1 f2 f3 f5 f6 f17 f19
  replace f3 := shm_107 f3
  replace f5 := shm_293 f5
  replace f6 := shm_163 f6
  replace f17 := shm_111 f17
  replace f19 := shm_198 f19
  have ad_10 : v_ad (n_v vs 10) = w_ar ws (n_v vs 0) 0 := congrArg v_ad f6
  simp only [ad_10] at f3
  have h3 : v_iv (n_v vs 17) = w_ei ws (w_ar ws (n_v vs 0) 0) (v_iv (n_v vs 16)) := f3
  have g5 : v_iv (n_v vs 5) = w_fi ws (n_v vs 0) 8 := congrArg v_iv f5
  have g17 : v_iv (n_v vs 4) = w_fi ws (n_v vs 0) 6 := congrArg v_iv f17
  have g19 : v_iv (n_v vs 2) = w_fi ws (n_v vs 0) 7 := congrArg v_iv f19
  have kz_0_6 := fdq_208 hD hth r0
  have kz_0_7 := fdq_297 hD hth r0
  have kz_0_8 := fdq_99 hD hth r0
  have nf0 : fc_1 PRD (20, [0, 19], [60, 3, 1, 1082, 7, 6, 8, 0]) ws (vs) := ⟨nf_in hl rfl, sgq_1830 (vc_Re_isWord_at_s5002_8_0 (v_iv (n_v vs 2)) (v_iv (n_v vs 4)) (v_iv (n_v vs 5)) (v_iv (n_v vs 11)) (v_iv (n_v vs 16)) (v_iv (n_v vs 17)) (v_iv (n_v vs 18)) (v_iv (n_v vs 19)) (w_ei ws (w_ar ws (n_v vs 0) 0)) (w_fi ws (n_v vs 0) 8) (w_fi ws (n_v vs 0) 6) (w_fi ws (n_v vs 0) 7) k2 k4 k5 k16 k17 k18 k19 d0 (shm_40 f0) (shm_71 f1) (shm_72 f2) h3 g5 g17 g19 kz_0_6 kz_0_7 kz_0_8)⟩
  refine ⟨(fun _ h => (by cases h)), [], trivial, ?_, (fun _ h => (by cases h))⟩
  rw [List.append_nil]
  exact List.forall_mem_cons.mpr ⟨⟨show (20 : Nat) < 100 from by decide, nf0⟩, (fun _ h => (by cases h))⟩
set_option maxHeartbeats 4000000 in
theorem vc_Re_isWord_at_s5002_9_0 (x2 : Int) (x4 : Int) (x5 : Int) (x11 : Int) (x12 : Int) (x13 : Int) (x14 : Int) (tape_0 : Int → Int) (begin_0 : Int) (next_0 : Int) (kind_0 : Int) (k2 : 2 ≤ x2 ∧ x2 ≤ 2) (k4 : 4 ≤ x4 ∧ x4 ≤ 2000) (k5 : 0 ≤ x5 ∧ x5 ≤ 2000) (k11 : 0 ≤ x11 ∧ x11 ≤ 1999) (k12 : (-128) ≤ x12 ∧ x12 ≤ 127) (k13 : 0 ≤ x13 ∧ x13 ≤ 65535) (k14 : 0 ≤ x14 ∧ x14 ≤ 0) (d0 : x5 + 0 ≤ x11 ∧ x11 ≤ x5 + 0) (f0 : x12 ≠ x13) (f1 : 1 * x13 + 0 ≤ 115) (f2 : (-1) * x13 + 0 ≤ (-115)) (h3 : x12 = tape_0 (x11)) (g5 : x5 = begin_0) (g10 : x4 = next_0) (g12 : x2 = kind_0) (kz_0_6 : 0 ≤ next_0 ∧ next_0 ≤ 2000) (kz_0_7 : (-128) ≤ kind_0 ∧ kind_0 ≤ 127) (kz_0_8 : 0 ≤ begin_0 ∧ begin_0 ≤ 2000) : CWs (kind_0) (next_0) (begin_0) (tape_0) (x14) := by
  first | subst g5 | skip
  first | subst g10 | skip
  first | subst g12 | skip
  first
    | (right
       refine ⟨by omega, fun w => ?_⟩
       obtain ⟨w0, w1, w2, v0, v1, v2, v3⟩ := w
       try (rw [show x5 = x11 by omega] at v0)
       try (rw [show x5 + 1 = x16 by omega] at v1)
       try (rw [show x5 + 2 = x21 by omega] at v2)
       try (rw [show x5 + 3 = x26 by omega] at v3)
       omega)
    | (left; exact ⟨by omega, by omega, rfl, by omega, by rw [show x5 = x11 by omega]; omega, by rw [show x5 + 1 = x16 by omega]; omega, by rw [show x5 + 2 = x21 by omega]; omega, by rw [show x5 + 3 = x26 by omega]; omega⟩)
def o_Re_isWord_at_s5002_9 : or_T := (56, 15, [(0, (2, 0, 0, [8])), (2, (0, 2, 2, [])), (4, (0, 4, 2000, [])), (5, (0, 0, 2000, [])), (11, (0, 0, 1999, [])), (12, (0, -128, 127, [])), (13, (0, 0, 65535, [])), (14, (0, 0, 0, []))], [(7, [12, 13], [1]), (23, [13], [115, 1]), (23, [13], [-115, -1]), (10, [12, 10, 11], []), (9, [5, 0], [8]), (9, [10, 0], [0]), (9, [4, 0], [6]), (9, [2, 0], [7])], [], [], [(20, [0, 14], [60, 3, 1, 1082, 7, 6, 8, 0])], [], [(11, 5, 0, 0)])
theorem oo_Re_isWord_at_s5002_9 {kA : Nat → ClassId} : or_ok PRD kA GG o_Re_isWord_at_s5002_9 := by
  refine or_mk fun A ta ws vs hD hth hl => ?_
  intro t0 r0 t2 k2 t4 k4 t5 k5 t11 k11 t12 k12 t13 k13 t14 k14 d0 f0 f1 f2 f3 f5 f6 f10 f12
  replace f3 := shm_107 f3
  replace f5 := shm_293 f5
  replace f6 := shm_163 f6
  replace f10 := shm_111 f10
  replace f12 := shm_198 f12
  have ad_10 : v_ad (n_v vs 10) = w_ar ws (n_v vs 0) 0 := congrArg v_ad f6
  simp only [ad_10] at f3
  have h3 : v_iv (n_v vs 12) = w_ei ws (w_ar ws (n_v vs 0) 0) (v_iv (n_v vs 11)) := f3
  have g5 : v_iv (n_v vs 5) = w_fi ws (n_v vs 0) 8 := congrArg v_iv f5
  have g10 : v_iv (n_v vs 4) = w_fi ws (n_v vs 0) 6 := congrArg v_iv f10
  have g12 : v_iv (n_v vs 2) = w_fi ws (n_v vs 0) 7 := congrArg v_iv f12
  have kz_0_6 := fdq_208 hD hth r0
  have kz_0_7 := fdq_297 hD hth r0
  have kz_0_8 := fdq_99 hD hth r0
  have nf0 : fc_1 PRD (20, [0, 14], [60, 3, 1, 1082, 7, 6, 8, 0]) ws (vs) := ⟨nf_in hl rfl, sgq_1830 (vc_Re_isWord_at_s5002_9_0 (v_iv (n_v vs 2)) (v_iv (n_v vs 4)) (v_iv (n_v vs 5)) (v_iv (n_v vs 11)) (v_iv (n_v vs 12)) (v_iv (n_v vs 13)) (v_iv (n_v vs 14)) (w_ei ws (w_ar ws (n_v vs 0) 0)) (w_fi ws (n_v vs 0) 8) (w_fi ws (n_v vs 0) 6) (w_fi ws (n_v vs 0) 7) k2 k4 k5 k11 k12 k13 k14 d0 (shm_40 f0) (shm_69 f1) (shm_70 f2) h3 g5 g10 g12 kz_0_6 kz_0_7 kz_0_8)⟩
  refine ⟨(fun _ h => (by cases h)), [], trivial, ?_, (fun _ h => (by cases h))⟩
  rw [List.append_nil]
  exact List.forall_mem_cons.mpr ⟨⟨show (20 : Nat) < 100 from by decide, nf0⟩, (fun _ h => (by cases h))⟩
set_option maxHeartbeats 4000000 in
theorem vc_Re_isWord_at_s5002_10_0 (x2 : Int) (x4 : Int) (x5 : Int) (x6 : Int) (x7 : Int) (x8 : Int) (begin_0 : Int) (next_0 : Int) (kind_0 : Int) (tape_0 : Int → Int) (k2 : 2 ≤ x2 ∧ x2 ≤ 2) (k4 : 0 ≤ x4 ∧ x4 ≤ 2000) (k5 : 0 ≤ x5 ∧ x5 ≤ 2000) (k6 : (-2000) ≤ x6 ∧ x6 ≤ 2000) (k7 : 4 ≤ x7 ∧ x7 ≤ 4) (k8 : 0 ≤ x8 ∧ x8 ≤ 0) (f0 : x6 ≠ x7) (f1 : x6 = x4 - x5) (g2 : x5 = begin_0) (g3 : x4 = next_0) (g5 : x2 = kind_0) (kz_0_6 : 0 ≤ next_0 ∧ next_0 ≤ 2000) (kz_0_7 : (-128) ≤ kind_0 ∧ kind_0 ≤ 127) (kz_0_8 : 0 ≤ begin_0 ∧ begin_0 ≤ 2000) : CWs (kind_0) (next_0) (begin_0) (tape_0) (x8) := by
  first | subst g2 | skip
  first | subst g3 | skip
  first | subst g5 | skip
  first
    | (right
       refine ⟨by omega, fun w => ?_⟩
       obtain ⟨w0, w1, w2, v0, v1, v2, v3⟩ := w
       try (rw [show x5 = x11 by omega] at v0)
       try (rw [show x5 + 1 = x16 by omega] at v1)
       try (rw [show x5 + 2 = x21 by omega] at v2)
       try (rw [show x5 + 3 = x26 by omega] at v3)
       omega)
    | (left; exact ⟨by omega, by omega, rfl, by omega, by rw [show x5 = x11 by omega]; omega, by rw [show x5 + 1 = x16 by omega]; omega, by rw [show x5 + 2 = x21 by omega]; omega, by rw [show x5 + 3 = x26 by omega]; omega⟩)
def o_Re_isWord_at_s5002_10 : or_T := (25, 9, [(0, (2, 0, 0, [8])), (2, (0, 2, 2, [])), (4, (0, 0, 2000, [])), (5, (0, 0, 2000, [])), (6, (0, -2000, 2000, [])), (7, (0, 4, 4, [])), (8, (0, 0, 0, []))], [(7, [6, 7], [1]), (2, [6, 4, 5], []), (9, [5, 0], [8]), (9, [4, 0], [6]), (9, [2, 0], [7])], [], [], [(20, [0, 8], [60, 3, 1, 1082, 7, 6, 8, 0])], [], [])
theorem oo_Re_isWord_at_s5002_10 {kA : Nat → ClassId} : or_ok PRD kA GG o_Re_isWord_at_s5002_10 := by
  refine or_mk fun A ta ws vs hD hth hl => ?_
  intro t0 r0 t2 k2 t4 k4 t5 k5 t6 k6 t7 k7 t8 k8 f0 f1 f2 f3 f5
  replace f2 := shm_293 f2
  replace f3 := shm_111 f3
  replace f5 := shm_198 f5
  have g2 : v_iv (n_v vs 5) = w_fi ws (n_v vs 0) 8 := congrArg v_iv f2
  have g3 : v_iv (n_v vs 4) = w_fi ws (n_v vs 0) 6 := congrArg v_iv f3
  have g5 : v_iv (n_v vs 2) = w_fi ws (n_v vs 0) 7 := congrArg v_iv f5
  have kz_0_6 := fdq_208 hD hth r0
  have kz_0_7 := fdq_297 hD hth r0
  have kz_0_8 := fdq_99 hD hth r0
  have nf0 : fc_1 PRD (20, [0, 8], [60, 3, 1, 1082, 7, 6, 8, 0]) ws (vs) := ⟨nf_in hl rfl, sgq_1830 (vc_Re_isWord_at_s5002_10_0 (v_iv (n_v vs 2)) (v_iv (n_v vs 4)) (v_iv (n_v vs 5)) (v_iv (n_v vs 6)) (v_iv (n_v vs 7)) (v_iv (n_v vs 8)) (w_fi ws (n_v vs 0) 8) (w_fi ws (n_v vs 0) 6) (w_fi ws (n_v vs 0) 7) (w_ei ws (w_ar ws (n_v vs 0) 0)) k2 k4 k5 k6 k7 k8 (shm_40 f0) (shm_14 f1) g2 g3 g5 kz_0_6 kz_0_7 kz_0_8)⟩
  refine ⟨(fun _ h => (by cases h)), [], trivial, ?_, (fun _ h => (by cases h))⟩
  rw [List.append_nil]
  exact List.forall_mem_cons.mpr ⟨⟨show (20 : Nat) < 100 from by decide, nf0⟩, (fun _ h => (by cases h))⟩
def n_Re_isWord_at_s5002_an : List an_T := []
def t_Re_isWord_at_s5002_ct : ct_L := [(58, 84, e_jStr_length_v327), (94, 84, e_jStr_length_v327), (151, 89, e_jStr_charAt_v328), (151, 89, e_jStr_charAt_v330), (151, 89, e_jStr_charAt_v332), (151, 89, e_jStr_charAt_v334)]
set_option maxRecDepth 100000 in
theorem c_Re_isWord_at_s5002 {l : Launch} {D : va_G} {kA : Nat → ClassId} : ct_ok PRD l D kA GG y_Re_isWord_at_s5002 z_Re_isWord_at_s5002 e_Re_isWord_at_s5002 := chk_all_ok (FT := [(9, 8, 0), (35, 8, 6), (38, 8, 7), (41, 8, 8)]) (PT := []) (CT := t_Re_isWord_at_s5002_ct) (KT := []) (NT := []) (AN := n_Re_isWord_at_s5002_an) (OT := [o_Re_isWord_at_s5002_0, o_Re_isWord_at_s5002_1, o_Re_isWord_at_s5002_2, o_Re_isWord_at_s5002_3, o_Re_isWord_at_s5002_4, o_Re_isWord_at_s5002_5, o_Re_isWord_at_s5002_6, o_Re_isWord_at_s5002_7, o_Re_isWord_at_s5002_8, o_Re_isWord_at_s5002_9, o_Re_isWord_at_s5002_10]) 0 400 (List.forall_mem_cons.mpr ⟨oo_Re_isWord_at_s5002_0, List.forall_mem_cons.mpr ⟨oo_Re_isWord_at_s5002_1, List.forall_mem_cons.mpr ⟨oo_Re_isWord_at_s5002_2, List.forall_mem_cons.mpr ⟨oo_Re_isWord_at_s5002_3, List.forall_mem_cons.mpr ⟨oo_Re_isWord_at_s5002_4, List.forall_mem_cons.mpr ⟨oo_Re_isWord_at_s5002_5, List.forall_mem_cons.mpr ⟨oo_Re_isWord_at_s5002_6, List.forall_mem_cons.mpr ⟨oo_Re_isWord_at_s5002_7, List.forall_mem_cons.mpr ⟨oo_Re_isWord_at_s5002_8, List.forall_mem_cons.mpr ⟨oo_Re_isWord_at_s5002_9, List.forall_mem_cons.mpr ⟨oo_Re_isWord_at_s5002_10, List.forall_mem_nil _⟩⟩⟩⟩⟩⟩⟩⟩⟩⟩⟩) (by decide +kernel) ⟨List.forall_mem_cons.mpr ⟨gf_Re_9, List.forall_mem_cons.mpr ⟨gf_Re_35, List.forall_mem_cons.mpr ⟨gf_Re_38, List.forall_mem_cons.mpr ⟨gf_Re_41, List.forall_mem_nil _⟩⟩⟩⟩, List.forall_mem_nil _, List.forall_mem_cons.mpr ⟨cl_string (y := y_jStr_length) (i := 2) rfl rfl (by decide +kernel) rfl c_jStr_length_v327 wm_674 wm_11 wm_671 wm_672 wm_673 ⟨by decide, by decide, by decide +kernel⟩ (by decide), List.forall_mem_cons.mpr ⟨cl_string (y := y_jStr_length) (i := 2) rfl rfl (by decide +kernel) rfl c_jStr_length_v327 wm_674 wm_11 wm_671 wm_672 wm_673 ⟨by decide, by decide, by decide +kernel⟩ (by decide), List.forall_mem_cons.mpr ⟨cl_string (y := y_jStr_charAt) (i := 2) rfl rfl (by decide +kernel) rfl c_jStr_charAt_v328 wm_684 wm_11 wm_681 wm_682 wm_683 ⟨by decide, by decide, by decide +kernel⟩ (by decide), List.forall_mem_cons.mpr ⟨cl_string (y := y_jStr_charAt) (i := 2) rfl rfl (by decide +kernel) rfl c_jStr_charAt_v330 wm_684 wm_11 wm_681 wm_682 wm_683 ⟨by decide, by decide, by decide +kernel⟩ (by decide), List.forall_mem_cons.mpr ⟨cl_string (y := y_jStr_charAt) (i := 2) rfl rfl (by decide +kernel) rfl c_jStr_charAt_v332 wm_684 wm_11 wm_681 wm_682 wm_683 ⟨by decide, by decide, by decide +kernel⟩ (by decide), List.forall_mem_cons.mpr ⟨cl_string (y := y_jStr_charAt) (i := 2) rfl rfl (by decide +kernel) rfl c_jStr_charAt_v334 wm_684 wm_11 wm_681 wm_682 wm_683 ⟨by decide, by decide, by decide +kernel⟩ (by decide), List.forall_mem_nil _⟩⟩⟩⟩⟩⟩, List.forall_mem_nil _, List.forall_mem_nil _, GG_pl⟩ (by decide +kernel)

set_option maxHeartbeats 4000000 in
theorem vc_Re_isWord_at_s5003_0_0 (x2 : Int) (x3 : Int) (x4 : Int) (kind_0 : Int) (tape_0 : Int → Int) (next_0 : Int) (begin_0 : Int) (k2 : (-128) ≤ x2 ∧ x2 ≤ 127) (k3 : 2 ≤ x3 ∧ x3 ≤ 2) (k4 : 0 ≤ x4 ∧ x4 ≤ 0) (f0 : x2 ≠ x3) (g1 : x2 = kind_0) (kz_0_6 : 0 ≤ next_0 ∧ next_0 ≤ 2000) (kz_0_7 : (-128) ≤ kind_0 ∧ kind_0 ≤ 127) (kz_0_8 : 0 ≤ begin_0 ∧ begin_0 ≤ 2000) : CWw (kind_0) (next_0) (begin_0) (tape_0) (x4) := by
  first | subst g1 | skip
  first
    | (right
       refine ⟨by omega, fun w => ?_⟩
       obtain ⟨w0, w1, w2, v0, v1, v2, v3, v4, v5⟩ := w
       try (rw [show x5 = x11 by omega] at v0)
       try (rw [show x5 + 1 = x16 by omega] at v1)
       try (rw [show x5 + 2 = x21 by omega] at v2)
       try (rw [show x5 + 3 = x26 by omega] at v3)
       try (rw [show x5 + 4 = x31 by omega] at v4)
       try (rw [show x5 + 5 = x36 by omega] at v5)
       omega)
    | (left; exact ⟨by omega, by omega, rfl, by omega, by rw [show x5 = x11 by omega]; omega, by rw [show x5 + 1 = x16 by omega]; omega, by rw [show x5 + 2 = x21 by omega]; omega, by rw [show x5 + 3 = x26 by omega]; omega, by rw [show x5 + 4 = x31 by omega]; omega, by rw [show x5 + 5 = x36 by omega]; omega⟩)
def o_Re_isWord_at_s5003_0 : or_T := (25, 5, [(0, (2, 0, 0, [8])), (2, (0, -128, 127, [])), (3, (0, 2, 2, [])), (4, (0, 0, 0, []))], [(7, [2, 3], [1]), (9, [2, 0], [7])], [], [], [(20, [0, 4], [60, 3, 1, 1083, 7, 6, 8, 0])], [], [])
theorem oo_Re_isWord_at_s5003_0 {kA : Nat → ClassId} : or_ok PRD kA GG o_Re_isWord_at_s5003_0 := by
  refine or_mk fun A ta ws vs hD hth hl => ?_
  intro t0 r0 t2 k2 t3 k3 t4 k4 f0 f1
  replace f1 := shm_198 f1
  have g1 : v_iv (n_v vs 2) = w_fi ws (n_v vs 0) 7 := congrArg v_iv f1
  have kz_0_6 := fdq_208 hD hth r0
  have kz_0_7 := fdq_297 hD hth r0
  have kz_0_8 := fdq_99 hD hth r0
  have nf0 : fc_1 PRD (20, [0, 4], [60, 3, 1, 1083, 7, 6, 8, 0]) ws (vs) := ⟨nf_in hl rfl, sgq_1831 (vc_Re_isWord_at_s5003_0_0 (v_iv (n_v vs 2)) (v_iv (n_v vs 3)) (v_iv (n_v vs 4)) (w_fi ws (n_v vs 0) 7) (w_ei ws (w_ar ws (n_v vs 0) 0)) (w_fi ws (n_v vs 0) 6) (w_fi ws (n_v vs 0) 8) k2 k3 k4 (shm_40 f0) g1 kz_0_6 kz_0_7 kz_0_8)⟩
  refine ⟨(fun _ h => (by cases h)), [], trivial, ?_, (fun _ h => (by cases h))⟩
  rw [List.append_nil]
  exact List.forall_mem_cons.mpr ⟨⟨show (20 : Nat) < 100 from by decide, nf0⟩, (fun _ h => (by cases h))⟩
set_option maxHeartbeats 4000000 in
theorem vc_Re_isWord_at_s5003_1_r0 (x4 : Int) (x5 : Int) (x6 : Int) (x11 : Int) (begin_0 : Int) (next_0 : Int) (k4 : 6 ≤ x4 ∧ x4 ≤ 2000) (k5 : 0 ≤ x5 ∧ x5 ≤ 2000) (k6 : 6 ≤ x6 ∧ x6 ≤ 6) (k11 : 0 ≤ x11 ∧ x11 ≤ 2000) (d0 : x5 + 0 ≤ x11 ∧ x11 ≤ x5 + 0) (g1 : x5 = begin_0) (f4 : x6 = x4 - x5) (g5 : x4 = next_0) (kz_0_6 : 0 ≤ next_0 ∧ next_0 ≤ 2000) (kz_0_8 : 0 ≤ begin_0 ∧ begin_0 ≤ 2000) : 0 ≤ x11 ∧ x11 ≤ 1999 := by
  omega
def o_Re_isWord_at_s5003_1 : or_T := (46, 12, [(0, (2, 0, 0, [8])), (4, (0, 6, 2000, [])), (5, (0, 0, 2000, [])), (6, (0, 6, 6, [])), (7, (0, 6, 6, [])), (8, (0, 0, 0, [])), (9, (0, 6, 6, [])), (11, (0, 0, 2000, []))], [(1, [11, 5, 8], []), (9, [5, 0], [8]), (7, [8, 9], [2]), (7, [6, 7], [0]), (2, [6, 4, 5], []), (9, [4, 0], [6])], [(11, (0, 0, 1999, []))], [], [], [], [(11, 5, 0, 0)])
theorem oo_Re_isWord_at_s5003_1 {kA : Nat → ClassId} : or_ok PRD kA GG o_Re_isWord_at_s5003_1 := by
  refine or_mk fun A ta ws vs hD hth hl => ?_
  intro t0 r0 t4 k4 t5 k5 t6 k6 t7 k7 t8 k8 t9 k9 t11 k11 d0 f0 f1 f2 f3 f4 f5
  replace f1 := shm_293 f1
  replace f5 := shm_111 f5
  have g1 : v_iv (n_v vs 5) = w_fi ws (n_v vs 0) 8 := congrArg v_iv f1
  have g5 : v_iv (n_v vs 4) = w_fi ws (n_v vs 0) 6 := congrArg v_iv f5
  have kz_0_6 := fdq_208 hD hth r0
  have kz_0_8 := fdq_99 hD hth r0
  have hrf0 : 0 ≤ v_iv (n_v vs 11) ∧ v_iv (n_v vs 11) ≤ 1999 := vc_Re_isWord_at_s5003_1_r0 (v_iv (n_v vs 4)) (v_iv (n_v vs 5)) (v_iv (n_v vs 6)) (v_iv (n_v vs 11)) (w_fi ws (n_v vs 0) 8) (w_fi ws (n_v vs 0) 6) k4 k5 k6 k11 d0 g1 (shm_14 f4) g5 kz_0_6 kz_0_8
  have rf11 : tv_ok ta (0, 0, 1999, []) (n_v vs 11) := tv_in t11 (by omega) (by omega)
  refine ⟨List.forall_mem_cons.mpr ⟨rf11, (fun _ h => (by cases h))⟩, [], trivial, ?_, (fun _ h => (by cases h))⟩
  rw [List.append_nil]
  exact (fun _ h => (by cases h))
set_option maxHeartbeats 4000000 in
theorem vc_Re_isWord_at_s5003_2_r0 (x4 : Int) (x5 : Int) (x6 : Int) (x16 : Int) (begin_0 : Int) (next_0 : Int) (k4 : 6 ≤ x4 ∧ x4 ≤ 2000) (k5 : 0 ≤ x5 ∧ x5 ≤ 2000) (k6 : 6 ≤ x6 ∧ x6 ≤ 6) (k16 : 1 ≤ x16 ∧ x16 ≤ 2001) (d0 : x5 + 1 ≤ x16 ∧ x16 ≤ x5 + 1) (g1 : x5 = begin_0) (f7 : x6 = x4 - x5) (g8 : x4 = next_0) (kz_0_6 : 0 ≤ next_0 ∧ next_0 ≤ 2000) (kz_0_8 : 0 ≤ begin_0 ∧ begin_0 ≤ 2000) : 1 ≤ x16 ∧ x16 ≤ 1999 := by
  omega
def o_Re_isWord_at_s5003_2 : or_T := (46, 17, [(0, (2, 0, 0, [8])), (4, (0, 6, 2000, [])), (5, (0, 0, 2000, [])), (6, (0, 6, 6, [])), (7, (0, 6, 6, [])), (8, (0, 0, 0, [])), (9, (0, 6, 6, [])), (11, (0, 0, 1999, [])), (14, (0, 1, 1, [])), (15, (0, 6, 6, [])), (16, (0, 1, 2001, []))], [(1, [16, 5, 14], []), (9, [5, 0], [8]), (7, [14, 15], [2]), (6, [14, 8], [1]), (1, [11, 5, 8], []), (7, [8, 9], [2]), (7, [6, 7], [0]), (2, [6, 4, 5], []), (9, [4, 0], [6])], [(16, (0, 1, 1999, []))], [], [], [], [(16, 5, 1, 1), (11, 5, 0, 0)])
theorem oo_Re_isWord_at_s5003_2 {kA : Nat → ClassId} : or_ok PRD kA GG o_Re_isWord_at_s5003_2 := by
  refine or_mk fun A ta ws vs hD hth hl => ?_
  intro t0 r0 t4 k4 t5 k5 t6 k6 t7 k7 t8 k8 t9 k9 t11 k11 t14 k14 t15 k15 t16 k16 d0 d1 f0 f1 f2 f3 f4 f5 f6 f7 f8
  replace f1 := shm_293 f1
  replace f8 := shm_111 f8
  have g1 : v_iv (n_v vs 5) = w_fi ws (n_v vs 0) 8 := congrArg v_iv f1
  have g8 : v_iv (n_v vs 4) = w_fi ws (n_v vs 0) 6 := congrArg v_iv f8
  have kz_0_6 := fdq_208 hD hth r0
  have kz_0_8 := fdq_99 hD hth r0
  have hrf0 : 1 ≤ v_iv (n_v vs 16) ∧ v_iv (n_v vs 16) ≤ 1999 := vc_Re_isWord_at_s5003_2_r0 (v_iv (n_v vs 4)) (v_iv (n_v vs 5)) (v_iv (n_v vs 6)) (v_iv (n_v vs 16)) (w_fi ws (n_v vs 0) 8) (w_fi ws (n_v vs 0) 6) k4 k5 k6 k16 d0 g1 (shm_14 f7) g8 kz_0_6 kz_0_8
  have rf16 : tv_ok ta (0, 1, 1999, []) (n_v vs 16) := tv_in t16 (by omega) (by omega)
  refine ⟨List.forall_mem_cons.mpr ⟨rf16, (fun _ h => (by cases h))⟩, [], trivial, ?_, (fun _ h => (by cases h))⟩
  rw [List.append_nil]
  exact (fun _ h => (by cases h))
set_option maxHeartbeats 4000000 in
theorem vc_Re_isWord_at_s5003_3_r0 (x4 : Int) (x5 : Int) (x6 : Int) (x21 : Int) (begin_0 : Int) (next_0 : Int) (k4 : 6 ≤ x4 ∧ x4 ≤ 2000) (k5 : 0 ≤ x5 ∧ x5 ≤ 2000) (k6 : 6 ≤ x6 ∧ x6 ≤ 6) (k21 : 2 ≤ x21 ∧ x21 ≤ 2002) (d0 : x5 + 2 ≤ x21 ∧ x21 ≤ x5 + 2) (g1 : x5 = begin_0) (f10 : x6 = x4 - x5) (g11 : x4 = next_0) (kz_0_6 : 0 ≤ next_0 ∧ next_0 ≤ 2000) (kz_0_8 : 0 ≤ begin_0 ∧ begin_0 ≤ 2000) : 2 ≤ x21 ∧ x21 ≤ 1999 := by
  omega
def o_Re_isWord_at_s5003_3 : or_T := (46, 22, [(0, (2, 0, 0, [8])), (4, (0, 6, 2000, [])), (5, (0, 0, 2000, [])), (6, (0, 6, 6, [])), (7, (0, 6, 6, [])), (8, (0, 0, 0, [])), (9, (0, 6, 6, [])), (11, (0, 0, 1999, [])), (14, (0, 1, 1, [])), (15, (0, 6, 6, [])), (16, (0, 1, 1999, [])), (19, (0, 2, 2, [])), (20, (0, 6, 6, [])), (21, (0, 2, 2002, []))], [(1, [21, 5, 19], []), (9, [5, 0], [8]), (7, [19, 20], [2]), (6, [19, 14], [1]), (1, [16, 5, 14], []), (7, [14, 15], [2]), (6, [14, 8], [1]), (1, [11, 5, 8], []), (7, [8, 9], [2]), (7, [6, 7], [0]), (2, [6, 4, 5], []), (9, [4, 0], [6])], [(21, (0, 2, 1999, []))], [], [], [], [(21, 5, 2, 2), (16, 5, 1, 1), (11, 5, 0, 0)])
theorem oo_Re_isWord_at_s5003_3 {kA : Nat → ClassId} : or_ok PRD kA GG o_Re_isWord_at_s5003_3 := by
  refine or_mk fun A ta ws vs hD hth hl => ?_
  intro t0 r0 t4 k4 t5 k5 t6 k6 t7 k7 t8 k8 t9 k9 t11 k11 t14 k14 t15 k15 t16 k16 t19 k19 t20 k20 t21 k21 d0 d1 d2 f0 f1 f2 f3 f4 f5 f6 f7 f8 f9 f10 f11
  replace f1 := shm_293 f1
  replace f11 := shm_111 f11
  have g1 : v_iv (n_v vs 5) = w_fi ws (n_v vs 0) 8 := congrArg v_iv f1
  have g11 : v_iv (n_v vs 4) = w_fi ws (n_v vs 0) 6 := congrArg v_iv f11
  have kz_0_6 := fdq_208 hD hth r0
  have kz_0_8 := fdq_99 hD hth r0
  have hrf0 : 2 ≤ v_iv (n_v vs 21) ∧ v_iv (n_v vs 21) ≤ 1999 := vc_Re_isWord_at_s5003_3_r0 (v_iv (n_v vs 4)) (v_iv (n_v vs 5)) (v_iv (n_v vs 6)) (v_iv (n_v vs 21)) (w_fi ws (n_v vs 0) 8) (w_fi ws (n_v vs 0) 6) k4 k5 k6 k21 d0 g1 (shm_14 f10) g11 kz_0_6 kz_0_8
  have rf21 : tv_ok ta (0, 2, 1999, []) (n_v vs 21) := tv_in t21 (by omega) (by omega)
  refine ⟨List.forall_mem_cons.mpr ⟨rf21, (fun _ h => (by cases h))⟩, [], trivial, ?_, (fun _ h => (by cases h))⟩
  rw [List.append_nil]
  exact (fun _ h => (by cases h))
set_option maxHeartbeats 4000000 in
theorem vc_Re_isWord_at_s5003_4_r0 (x4 : Int) (x5 : Int) (x6 : Int) (x26 : Int) (begin_0 : Int) (next_0 : Int) (k4 : 6 ≤ x4 ∧ x4 ≤ 2000) (k5 : 0 ≤ x5 ∧ x5 ≤ 2000) (k6 : 6 ≤ x6 ∧ x6 ≤ 6) (k26 : 3 ≤ x26 ∧ x26 ≤ 2003) (d0 : x5 + 3 ≤ x26 ∧ x26 ≤ x5 + 3) (g1 : x5 = begin_0) (f13 : x6 = x4 - x5) (g14 : x4 = next_0) (kz_0_6 : 0 ≤ next_0 ∧ next_0 ≤ 2000) (kz_0_8 : 0 ≤ begin_0 ∧ begin_0 ≤ 2000) : 3 ≤ x26 ∧ x26 ≤ 1999 := by
  omega
def o_Re_isWord_at_s5003_4 : or_T := (46, 27, [(0, (2, 0, 0, [8])), (4, (0, 6, 2000, [])), (5, (0, 0, 2000, [])), (6, (0, 6, 6, [])), (7, (0, 6, 6, [])), (8, (0, 0, 0, [])), (9, (0, 6, 6, [])), (11, (0, 0, 1999, [])), (14, (0, 1, 1, [])), (15, (0, 6, 6, [])), (16, (0, 1, 1999, [])), (19, (0, 2, 2, [])), (20, (0, 6, 6, [])), (21, (0, 2, 1999, [])), (24, (0, 3, 3, [])), (25, (0, 6, 6, [])), (26, (0, 3, 2003, []))], [(1, [26, 5, 24], []), (9, [5, 0], [8]), (7, [24, 25], [2]), (6, [24, 19], [1]), (1, [21, 5, 19], []), (7, [19, 20], [2]), (6, [19, 14], [1]), (1, [16, 5, 14], []), (7, [14, 15], [2]), (6, [14, 8], [1]), (1, [11, 5, 8], []), (7, [8, 9], [2]), (7, [6, 7], [0]), (2, [6, 4, 5], []), (9, [4, 0], [6])], [(26, (0, 3, 1999, []))], [], [], [], [(26, 5, 3, 3), (21, 5, 2, 2), (16, 5, 1, 1), (11, 5, 0, 0)])
theorem oo_Re_isWord_at_s5003_4 {kA : Nat → ClassId} : or_ok PRD kA GG o_Re_isWord_at_s5003_4 := by
  refine or_mk fun A ta ws vs hD hth hl => ?_
  intro t0 r0 t4 k4 t5 k5 t6 k6 t7 k7 t8 k8 t9 k9 t11 k11 t14 k14 t15 k15 t16 k16 t19 k19 t20 k20 t21 k21 t24 k24 t25 k25 t26 k26 d0 d1 d2 d3 f0 f1 f2 f3 f4 f5 f6 f7 f8 f9 f10 f11 f12 f13 f14
  replace f1 := shm_293 f1
  replace f14 := shm_111 f14
  have g1 : v_iv (n_v vs 5) = w_fi ws (n_v vs 0) 8 := congrArg v_iv f1
  have g14 : v_iv (n_v vs 4) = w_fi ws (n_v vs 0) 6 := congrArg v_iv f14
  have kz_0_6 := fdq_208 hD hth r0
  have kz_0_8 := fdq_99 hD hth r0
  have hrf0 : 3 ≤ v_iv (n_v vs 26) ∧ v_iv (n_v vs 26) ≤ 1999 := vc_Re_isWord_at_s5003_4_r0 (v_iv (n_v vs 4)) (v_iv (n_v vs 5)) (v_iv (n_v vs 6)) (v_iv (n_v vs 26)) (w_fi ws (n_v vs 0) 8) (w_fi ws (n_v vs 0) 6) k4 k5 k6 k26 d0 g1 (shm_14 f13) g14 kz_0_6 kz_0_8
  have rf26 : tv_ok ta (0, 3, 1999, []) (n_v vs 26) := tv_in t26 (by omega) (by omega)
  refine ⟨List.forall_mem_cons.mpr ⟨rf26, (fun _ h => (by cases h))⟩, [], trivial, ?_, (fun _ h => (by cases h))⟩
  rw [List.append_nil]
  exact (fun _ h => (by cases h))
set_option maxHeartbeats 4000000 in
theorem vc_Re_isWord_at_s5003_5_r0 (x4 : Int) (x5 : Int) (x6 : Int) (x31 : Int) (begin_0 : Int) (next_0 : Int) (k4 : 6 ≤ x4 ∧ x4 ≤ 2000) (k5 : 0 ≤ x5 ∧ x5 ≤ 2000) (k6 : 6 ≤ x6 ∧ x6 ≤ 6) (k31 : 4 ≤ x31 ∧ x31 ≤ 2004) (d0 : x5 + 4 ≤ x31 ∧ x31 ≤ x5 + 4) (g1 : x5 = begin_0) (f16 : x6 = x4 - x5) (g17 : x4 = next_0) (kz_0_6 : 0 ≤ next_0 ∧ next_0 ≤ 2000) (kz_0_8 : 0 ≤ begin_0 ∧ begin_0 ≤ 2000) : 4 ≤ x31 ∧ x31 ≤ 1999 := by
  omega
def o_Re_isWord_at_s5003_5 : or_T := (46, 32, [(0, (2, 0, 0, [8])), (4, (0, 6, 2000, [])), (5, (0, 0, 2000, [])), (6, (0, 6, 6, [])), (7, (0, 6, 6, [])), (8, (0, 0, 0, [])), (9, (0, 6, 6, [])), (11, (0, 0, 1999, [])), (14, (0, 1, 1, [])), (15, (0, 6, 6, [])), (16, (0, 1, 1999, [])), (19, (0, 2, 2, [])), (20, (0, 6, 6, [])), (21, (0, 2, 1999, [])), (24, (0, 3, 3, [])), (25, (0, 6, 6, [])), (26, (0, 3, 1999, [])), (29, (0, 4, 4, [])), (30, (0, 6, 6, [])), (31, (0, 4, 2004, []))], [(1, [31, 5, 29], []), (9, [5, 0], [8]), (7, [29, 30], [2]), (6, [29, 24], [1]), (1, [26, 5, 24], []), (7, [24, 25], [2]), (6, [24, 19], [1]), (1, [21, 5, 19], []), (7, [19, 20], [2]), (6, [19, 14], [1]), (1, [16, 5, 14], []), (7, [14, 15], [2]), (6, [14, 8], [1]), (1, [11, 5, 8], []), (7, [8, 9], [2]), (7, [6, 7], [0]), (2, [6, 4, 5], []), (9, [4, 0], [6])], [(31, (0, 4, 1999, []))], [], [], [], [(31, 5, 4, 4), (26, 5, 3, 3), (21, 5, 2, 2), (16, 5, 1, 1), (11, 5, 0, 0)])
theorem oo_Re_isWord_at_s5003_5 {kA : Nat → ClassId} : or_ok PRD kA GG o_Re_isWord_at_s5003_5 := by
  refine or_mk fun A ta ws vs hD hth hl => ?_
  intro t0 r0 t4 k4 t5 k5 t6 k6 t7 k7 t8 k8 t9 k9 t11 k11 t14 k14 t15 k15 t16 k16 t19 k19 t20 k20 t21 k21 t24 k24 t25 k25 t26 k26 t29 k29 t30 k30 t31 k31 d0 d1 d2 d3 d4 f0 f1 f2 f3 f4 f5 f6 f7 f8 f9 f10 f11 f12 f13 f14 f15 f16 f17
  replace f1 := shm_293 f1
  replace f17 := shm_111 f17
  have g1 : v_iv (n_v vs 5) = w_fi ws (n_v vs 0) 8 := congrArg v_iv f1
  have g17 : v_iv (n_v vs 4) = w_fi ws (n_v vs 0) 6 := congrArg v_iv f17
  have kz_0_6 := fdq_208 hD hth r0
  have kz_0_8 := fdq_99 hD hth r0
  have hrf0 : 4 ≤ v_iv (n_v vs 31) ∧ v_iv (n_v vs 31) ≤ 1999 := vc_Re_isWord_at_s5003_5_r0 (v_iv (n_v vs 4)) (v_iv (n_v vs 5)) (v_iv (n_v vs 6)) (v_iv (n_v vs 31)) (w_fi ws (n_v vs 0) 8) (w_fi ws (n_v vs 0) 6) k4 k5 k6 k31 d0 g1 (shm_14 f16) g17 kz_0_6 kz_0_8
  have rf31 : tv_ok ta (0, 4, 1999, []) (n_v vs 31) := tv_in t31 (by omega) (by omega)
  refine ⟨List.forall_mem_cons.mpr ⟨rf31, (fun _ h => (by cases h))⟩, [], trivial, ?_, (fun _ h => (by cases h))⟩
  rw [List.append_nil]
  exact (fun _ h => (by cases h))
set_option maxHeartbeats 4000000 in
theorem vc_Re_isWord_at_s5003_6_r0 (x4 : Int) (x5 : Int) (x6 : Int) (x36 : Int) (begin_0 : Int) (next_0 : Int) (k4 : 6 ≤ x4 ∧ x4 ≤ 2000) (k5 : 0 ≤ x5 ∧ x5 ≤ 2000) (k6 : 6 ≤ x6 ∧ x6 ≤ 6) (k36 : 5 ≤ x36 ∧ x36 ≤ 2005) (d0 : x5 + 5 ≤ x36 ∧ x36 ≤ x5 + 5) (g1 : x5 = begin_0) (f19 : x6 = x4 - x5) (g20 : x4 = next_0) (kz_0_6 : 0 ≤ next_0 ∧ next_0 ≤ 2000) (kz_0_8 : 0 ≤ begin_0 ∧ begin_0 ≤ 2000) : 5 ≤ x36 ∧ x36 ≤ 1999 := by
  omega
def o_Re_isWord_at_s5003_6 : or_T := (46, 37, [(0, (2, 0, 0, [8])), (4, (0, 6, 2000, [])), (5, (0, 0, 2000, [])), (6, (0, 6, 6, [])), (7, (0, 6, 6, [])), (8, (0, 0, 0, [])), (9, (0, 6, 6, [])), (11, (0, 0, 1999, [])), (14, (0, 1, 1, [])), (15, (0, 6, 6, [])), (16, (0, 1, 1999, [])), (19, (0, 2, 2, [])), (20, (0, 6, 6, [])), (21, (0, 2, 1999, [])), (24, (0, 3, 3, [])), (25, (0, 6, 6, [])), (26, (0, 3, 1999, [])), (29, (0, 4, 4, [])), (30, (0, 6, 6, [])), (31, (0, 4, 1999, [])), (34, (0, 5, 5, [])), (35, (0, 6, 6, [])), (36, (0, 5, 2005, []))], [(1, [36, 5, 34], []), (9, [5, 0], [8]), (7, [34, 35], [2]), (6, [34, 29], [1]), (1, [31, 5, 29], []), (7, [29, 30], [2]), (6, [29, 24], [1]), (1, [26, 5, 24], []), (7, [24, 25], [2]), (6, [24, 19], [1]), (1, [21, 5, 19], []), (7, [19, 20], [2]), (6, [19, 14], [1]), (1, [16, 5, 14], []), (7, [14, 15], [2]), (6, [14, 8], [1]), (1, [11, 5, 8], []), (7, [8, 9], [2]), (7, [6, 7], [0]), (2, [6, 4, 5], []), (9, [4, 0], [6])], [(36, (0, 5, 1999, []))], [], [], [], [(36, 5, 5, 5), (31, 5, 4, 4), (26, 5, 3, 3), (21, 5, 2, 2), (16, 5, 1, 1), (11, 5, 0, 0)])
theorem oo_Re_isWord_at_s5003_6 {kA : Nat → ClassId} : or_ok PRD kA GG o_Re_isWord_at_s5003_6 := by
  refine or_mk fun A ta ws vs hD hth hl => ?_
  intro t0 r0 t4 k4 t5 k5 t6 k6 t7 k7 t8 k8 t9 k9 t11 k11 t14 k14 t15 k15 t16 k16 t19 k19 t20 k20 t21 k21 t24 k24 t25 k25 t26 k26 t29 k29 t30 k30 t31 k31 t34 k34 t35 k35 t36 k36 d0 d1 d2 d3 d4 d5 f0 f1 f2 f3 f4 f5 f6 f7 f8 f9 f10 f11 f12 f13 f14 f15 f16 f17 f18 f19 f20
  replace f1 := shm_293 f1
  replace f20 := shm_111 f20
  have g1 : v_iv (n_v vs 5) = w_fi ws (n_v vs 0) 8 := congrArg v_iv f1
  have g20 : v_iv (n_v vs 4) = w_fi ws (n_v vs 0) 6 := congrArg v_iv f20
  have kz_0_6 := fdq_208 hD hth r0
  have kz_0_8 := fdq_99 hD hth r0
  have hrf0 : 5 ≤ v_iv (n_v vs 36) ∧ v_iv (n_v vs 36) ≤ 1999 := vc_Re_isWord_at_s5003_6_r0 (v_iv (n_v vs 4)) (v_iv (n_v vs 5)) (v_iv (n_v vs 6)) (v_iv (n_v vs 36)) (w_fi ws (n_v vs 0) 8) (w_fi ws (n_v vs 0) 6) k4 k5 k6 k36 d0 g1 (shm_14 f19) g20 kz_0_6 kz_0_8
  have rf36 : tv_ok ta (0, 5, 1999, []) (n_v vs 36) := tv_in t36 (by omega) (by omega)
  refine ⟨List.forall_mem_cons.mpr ⟨rf36, (fun _ h => (by cases h))⟩, [], trivial, ?_, (fun _ h => (by cases h))⟩
  rw [List.append_nil]
  exact (fun _ h => (by cases h))
set_option maxHeartbeats 4000000 in
theorem vc_Re_isWord_at_s5003_7_0 (x2 : Int) (x4 : Int) (x5 : Int) (x6 : Int) (x11 : Int) (x12 : Int) (x13 : Int) (x16 : Int) (x17 : Int) (x18 : Int) (x21 : Int) (x22 : Int) (x23 : Int) (x26 : Int) (x27 : Int) (x28 : Int) (x31 : Int) (x32 : Int) (x33 : Int) (x36 : Int) (x37 : Int) (x38 : Int) (x41 : Int) (tape_0 : Int → Int) (begin_0 : Int) (next_0 : Int) (kind_0 : Int) (k2 : 2 ≤ x2 ∧ x2 ≤ 2) (k4 : 6 ≤ x4 ∧ x4 ≤ 2000) (k5 : 0 ≤ x5 ∧ x5 ≤ 2000) (k6 : 6 ≤ x6 ∧ x6 ≤ 6) (k11 : 0 ≤ x11 ∧ x11 ≤ 1999) (k12 : 0 ≤ x12 ∧ x12 ≤ 127) (k13 : 0 ≤ x13 ∧ x13 ≤ 127) (k16 : 1 ≤ x16 ∧ x16 ≤ 1999) (k17 : 0 ≤ x17 ∧ x17 ≤ 127) (k18 : 0 ≤ x18 ∧ x18 ≤ 127) (k21 : 2 ≤ x21 ∧ x21 ≤ 1999) (k22 : 0 ≤ x22 ∧ x22 ≤ 127) (k23 : 0 ≤ x23 ∧ x23 ≤ 127) (k26 : 3 ≤ x26 ∧ x26 ≤ 1999) (k27 : 0 ≤ x27 ∧ x27 ≤ 127) (k28 : 0 ≤ x28 ∧ x28 ≤ 127) (k31 : 4 ≤ x31 ∧ x31 ≤ 1999) (k32 : 0 ≤ x32 ∧ x32 ≤ 127) (k33 : 0 ≤ x33 ∧ x33 ≤ 127) (k36 : 5 ≤ x36 ∧ x36 ≤ 1999) (k37 : 0 ≤ x37 ∧ x37 ≤ 127) (k38 : 0 ≤ x38 ∧ x38 ≤ 127) (k41 : 1 ≤ x41 ∧ x41 ≤ 1) (d0 : x38 + 0 ≤ x37 ∧ x37 ≤ x38 + 0) (d1 : x5 + 5 ≤ x36 ∧ x36 ≤ x5 + 5) (d2 : x33 + 0 ≤ x32 ∧ x32 ≤ x33 + 0) (d3 : x5 + 4 ≤ x31 ∧ x31 ≤ x5 + 4) (d4 : x28 + 0 ≤ x27 ∧ x27 ≤ x28 + 0) (d5 : x5 + 3 ≤ x26 ∧ x26 ≤ x5 + 3) (d6 : x23 + 0 ≤ x22 ∧ x22 ≤ x23 + 0) (d7 : x5 + 2 ≤ x21 ∧ x21 ≤ x5 + 2) (d8 : x18 + 0 ≤ x17 ∧ x17 ≤ x18 + 0) (d9 : x5 + 1 ≤ x16 ∧ x16 ≤ x5 + 1) (d10 : x13 + 0 ≤ x12 ∧ x12 ≤ x13 + 0) (d11 : x5 + 0 ≤ x11 ∧ x11 ≤ x5 + 0) (f1 : 1 * x38 + 0 ≤ 116) (f2 : (-1) * x38 + 0 ≤ (-116)) (h3 : x37 = tape_0 (x36)) (g5 : x5 = begin_0) (f10 : 1 * x33 + 0 ≤ 104) (f11 : (-1) * x33 + 0 ≤ (-104)) (h12 : x32 = tape_0 (x31)) (f17 : 1 * x28 + 0 ≤ 103) (f18 : (-1) * x28 + 0 ≤ (-103)) (h19 : x27 = tape_0 (x26)) (f24 : 1 * x23 + 0 ≤ 105) (f25 : (-1) * x23 + 0 ≤ (-105)) (h26 : x22 = tape_0 (x21)) (f31 : 1 * x18 + 0 ≤ 101) (f32 : (-1) * x18 + 0 ≤ (-101)) (h33 : x17 = tape_0 (x16)) (f38 : 1 * x13 + 0 ≤ 119) (f39 : (-1) * x13 + 0 ≤ (-119)) (h40 : x12 = tape_0 (x11)) (f44 : x6 = x4 - x5) (g45 : x4 = next_0) (g47 : x2 = kind_0) (kz_0_6 : 0 ≤ next_0 ∧ next_0 ≤ 2000) (kz_0_7 : (-128) ≤ kind_0 ∧ kind_0 ≤ 127) (kz_0_8 : 0 ≤ begin_0 ∧ begin_0 ≤ 2000) : CWw (kind_0) (next_0) (begin_0) (tape_0) (x41) := by
  first | subst g5 | skip
  first | subst g45 | skip
  first | subst g47 | skip
  first
    | (right
       refine ⟨by omega, fun w => ?_⟩
       obtain ⟨w0, w1, w2, v0, v1, v2, v3, v4, v5⟩ := w
       try (rw [show x5 = x11 by omega] at v0)
       try (rw [show x5 + 1 = x16 by omega] at v1)
       try (rw [show x5 + 2 = x21 by omega] at v2)
       try (rw [show x5 + 3 = x26 by omega] at v3)
       try (rw [show x5 + 4 = x31 by omega] at v4)
       try (rw [show x5 + 5 = x36 by omega] at v5)
       omega)
    | (left; exact ⟨by omega, by omega, rfl, by omega, by rw [show x5 = x11 by omega]; omega, by rw [show x5 + 1 = x16 by omega]; omega, by rw [show x5 + 2 = x21 by omega]; omega, by rw [show x5 + 3 = x26 by omega]; omega, by rw [show x5 + 4 = x31 by omega]; omega, by rw [show x5 + 5 = x36 by omega]; omega⟩)
def o_Re_isWord_at_s5003_7 : or_T := (64, 42, [(0, (2, 0, 0, [8])), (2, (0, 2, 2, [])), (4, (0, 6, 2000, [])), (5, (0, 0, 2000, [])), (6, (0, 6, 6, [])), (11, (0, 0, 1999, [])), (12, (0, 0, 127, [])), (13, (0, 0, 127, [])), (16, (0, 1, 1999, [])), (17, (0, 0, 127, [])), (18, (0, 0, 127, [])), (21, (0, 2, 1999, [])), (22, (0, 0, 127, [])), (23, (0, 0, 127, [])), (26, (0, 3, 1999, [])), (27, (0, 0, 127, [])), (28, (0, 0, 127, [])), (31, (0, 4, 1999, [])), (32, (0, 0, 127, [])), (33, (0, 0, 127, [])), (36, (0, 5, 1999, [])), (37, (0, 0, 127, [])), (38, (0, 0, 127, [])), (41, (0, 1, 1, []))], [(23, [38], [116, 1]), (23, [38], [-116, -1]), (10, [37, 10, 36], []), (9, [5, 0], [8]), (9, [10, 0], [0]), (23, [33], [104, 1]), (23, [33], [-104, -1]), (10, [32, 10, 31], []), (23, [28], [103, 1]), (23, [28], [-103, -1]), (10, [27, 10, 26], []), (23, [23], [105, 1]), (23, [23], [-105, -1]), (10, [22, 10, 21], []), (23, [18], [101, 1]), (23, [18], [-101, -1]), (10, [17, 10, 16], []), (23, [13], [119, 1]), (23, [13], [-119, -1]), (10, [12, 10, 11], []), (2, [6, 4, 5], []), (9, [4, 0], [6]), (9, [2, 0], [7])], [], [], [(20, [0, 41], [60, 3, 1, 1083, 7, 6, 8, 0])], [], [(37, 38, 0, 0), (36, 5, 5, 5), (32, 33, 0, 0), (31, 5, 4, 4), (27, 28, 0, 0), (26, 5, 3, 3), (22, 23, 0, 0), (21, 5, 2, 2), (17, 18, 0, 0), (16, 5, 1, 1), (12, 13, 0, 0), (11, 5, 0, 0)])
theorem oo_Re_isWord_at_s5003_7 {kA : Nat → ClassId} : or_ok PRD kA GG o_Re_isWord_at_s5003_7 := by
  refine or_mk fun A ta ws vs hD hth hl => ?_
  intro t0 r0 t2 k2 t4 k4 t5 k5 t6 k6 t11 k11 t12 k12 t13 k13 t16 k16 t17 k17 t18 k18 t21 k21 t22 k22 t23 k23 t26 k26 t27 k27 t28 k28 t31 k31 t32 k32 t33 k33 t36 k36 t37 k37 t38 k38 t41 k41 d0 d1 d2 d3 d4 d5 d6 d7 d8 d9 d10 d11 f1 f2 f3 f5 f6 f10 f11 f12 f17 f18 f19 f24 f25 f26 f31 f32 f33 f38 f39 f40 f44 f45 f47
  replace f3 := shm_107 f3
  replace f5 := shm_293 f5
  replace f6 := shm_163 f6
  replace f12 := shm_107 f12
  replace f19 := shm_107 f19
  replace f26 := shm_107 f26
  replace f33 := shm_107 f33
  replace f40 := shm_107 f40
  replace f45 := shm_111 f45
  replace f47 := shm_198 f47
  have ad_10 : v_ad (n_v vs 10) = w_ar ws (n_v vs 0) 0 := congrArg v_ad f6
  simp only [ad_10] at f3
  have h3 : v_iv (n_v vs 37) = w_ei ws (w_ar ws (n_v vs 0) 0) (v_iv (n_v vs 36)) := f3
  have g5 : v_iv (n_v vs 5) = w_fi ws (n_v vs 0) 8 := congrArg v_iv f5
  simp only [ad_10] at f12
  have h12 : v_iv (n_v vs 32) = w_ei ws (w_ar ws (n_v vs 0) 0) (v_iv (n_v vs 31)) := f12
  simp only [ad_10] at f19
  have h19 : v_iv (n_v vs 27) = w_ei ws (w_ar ws (n_v vs 0) 0) (v_iv (n_v vs 26)) := f19
  simp only [ad_10] at f26
  have h26 : v_iv (n_v vs 22) = w_ei ws (w_ar ws (n_v vs 0) 0) (v_iv (n_v vs 21)) := f26
  simp only [ad_10] at f33
  have h33 : v_iv (n_v vs 17) = w_ei ws (w_ar ws (n_v vs 0) 0) (v_iv (n_v vs 16)) := f33
  simp only [ad_10] at f40
  have h40 : v_iv (n_v vs 12) = w_ei ws (w_ar ws (n_v vs 0) 0) (v_iv (n_v vs 11)) := f40
  have g45 : v_iv (n_v vs 4) = w_fi ws (n_v vs 0) 6 := congrArg v_iv f45
  have g47 : v_iv (n_v vs 2) = w_fi ws (n_v vs 0) 7 := congrArg v_iv f47
  have kz_0_6 := fdq_208 hD hth r0
  have kz_0_7 := fdq_297 hD hth r0
  have kz_0_8 := fdq_99 hD hth r0
  have nf0 : fc_1 PRD (20, [0, 41], [60, 3, 1, 1083, 7, 6, 8, 0]) ws (vs) := ⟨nf_in hl rfl, sgq_1831 (vc_Re_isWord_at_s5003_7_0 (v_iv (n_v vs 2)) (v_iv (n_v vs 4)) (v_iv (n_v vs 5)) (v_iv (n_v vs 6)) (v_iv (n_v vs 11)) (v_iv (n_v vs 12)) (v_iv (n_v vs 13)) (v_iv (n_v vs 16)) (v_iv (n_v vs 17)) (v_iv (n_v vs 18)) (v_iv (n_v vs 21)) (v_iv (n_v vs 22)) (v_iv (n_v vs 23)) (v_iv (n_v vs 26)) (v_iv (n_v vs 27)) (v_iv (n_v vs 28)) (v_iv (n_v vs 31)) (v_iv (n_v vs 32)) (v_iv (n_v vs 33)) (v_iv (n_v vs 36)) (v_iv (n_v vs 37)) (v_iv (n_v vs 38)) (v_iv (n_v vs 41)) (w_ei ws (w_ar ws (n_v vs 0) 0)) (w_fi ws (n_v vs 0) 8) (w_fi ws (n_v vs 0) 6) (w_fi ws (n_v vs 0) 7) k2 k4 k5 k6 k11 k12 k13 k16 k17 k18 k21 k22 k23 k26 k27 k28 k31 k32 k33 k36 k37 k38 k41 d0 d1 d2 d3 d4 d5 d6 d7 d8 d9 d10 d11 (shm_79 f1) (shm_80 f2) h3 g5 (shm_77 f10) (shm_78 f11) h12 (shm_61 f17) (shm_62 f18) h19 (shm_71 f24) (shm_72 f25) h26 (shm_59 f31) (shm_60 f32) h33 (shm_75 f38) (shm_76 f39) h40 (shm_14 f44) g45 g47 kz_0_6 kz_0_7 kz_0_8)⟩
  refine ⟨(fun _ h => (by cases h)), [], trivial, ?_, (fun _ h => (by cases h))⟩
  rw [List.append_nil]
  exact List.forall_mem_cons.mpr ⟨⟨show (20 : Nat) < 100 from by decide, nf0⟩, (fun _ h => (by cases h))⟩
set_option maxHeartbeats 4000000 in
theorem vc_Re_isWord_at_s5003_8_0 (x2 : Int) (x4 : Int) (x5 : Int) (x11 : Int) (x16 : Int) (x21 : Int) (x26 : Int) (x31 : Int) (x36 : Int) (x37 : Int) (x38 : Int) (x39 : Int) (tape_0 : Int → Int) (begin_0 : Int) (next_0 : Int) (kind_0 : Int) (k2 : 2 ≤ x2 ∧ x2 ≤ 2) (k4 : 6 ≤ x4 ∧ x4 ≤ 2000) (k5 : 0 ≤ x5 ∧ x5 ≤ 2000) (k36 : 5 ≤ x36 ∧ x36 ≤ 1999) (k37 : (-128) ≤ x37 ∧ x37 ≤ 127) (k38 : 0 ≤ x38 ∧ x38 ≤ 65535) (k39 : 0 ≤ x39 ∧ x39 ≤ 0) (d0 : x5 + 5 ≤ x36 ∧ x36 ≤ x5 + 5) (f0 : x37 ≠ x38) (f1 : 1 * x38 + 0 ≤ 116) (f2 : (-1) * x38 + 0 ≤ (-116)) (h3 : x37 = tape_0 (x36)) (g5 : x5 = begin_0) (g45 : x4 = next_0) (g47 : x2 = kind_0) (kz_0_6 : 0 ≤ next_0 ∧ next_0 ≤ 2000) (kz_0_7 : (-128) ≤ kind_0 ∧ kind_0 ≤ 127) (kz_0_8 : 0 ≤ begin_0 ∧ begin_0 ≤ 2000) : CWw (kind_0) (next_0) (begin_0) (tape_0) (x39) := by
  first | subst g5 | skip
  first | subst g45 | skip
  first | subst g47 | skip
  first
    | (right
       refine ⟨by omega, fun w => ?_⟩
       obtain ⟨w0, w1, w2, v0, v1, v2, v3, v4, v5⟩ := w
       try (rw [show x5 = x11 by omega] at v0)
       try (rw [show x5 + 1 = x16 by omega] at v1)
       try (rw [show x5 + 2 = x21 by omega] at v2)
       try (rw [show x5 + 3 = x26 by omega] at v3)
       try (rw [show x5 + 4 = x31 by omega] at v4)
       try (rw [show x5 + 5 = x36 by omega] at v5)
       omega)
    | (left; exact ⟨by omega, by omega, rfl, by omega, by rw [show x5 = x11 by omega]; omega, by rw [show x5 + 1 = x16 by omega]; omega, by rw [show x5 + 2 = x21 by omega]; omega, by rw [show x5 + 3 = x26 by omega]; omega, by rw [show x5 + 4 = x31 by omega]; omega, by rw [show x5 + 5 = x36 by omega]; omega⟩)
def o_Re_isWord_at_s5003_8 : or_T := (56, 40, [(0, (2, 0, 0, [8])), (2, (0, 2, 2, [])), (4, (0, 6, 2000, [])), (5, (0, 0, 2000, [])), (36, (0, 5, 1999, [])), (37, (0, -128, 127, [])), (38, (0, 0, 65535, [])), (39, (0, 0, 0, []))], [(7, [37, 38], [1]), (23, [38], [116, 1]), (23, [38], [-116, -1]), (10, [37, 10, 36], []), (9, [5, 0], [8]), (9, [10, 0], [0]), (9, [4, 0], [6]), (9, [2, 0], [7])], [], [], [(20, [0, 39], [60, 3, 1, 1083, 7, 6, 8, 0])], [], [(36, 5, 5, 5)])
theorem oo_Re_isWord_at_s5003_8 {kA : Nat → ClassId} : or_ok PRD kA GG o_Re_isWord_at_s5003_8 := by
  refine or_mk fun A ta ws vs hD hth hl => ?_
  intro t0 r0 t2 k2 t4 k4 t5 k5 t36 k36 t37 k37 t38 k38 t39 k39 d0 f0 f1 f2 f3 f5 f6 f45 f47
  replace f3 := shm_107 f3
  replace f5 := shm_293 f5
  replace f6 := shm_163 f6
  replace f45 := shm_111 f45
  replace f47 := shm_198 f47
  have ad_10 : v_ad (n_v vs 10) = w_ar ws (n_v vs 0) 0 := congrArg v_ad f6
  simp only [ad_10] at f3
  have h3 : v_iv (n_v vs 37) = w_ei ws (w_ar ws (n_v vs 0) 0) (v_iv (n_v vs 36)) := f3
  have g5 : v_iv (n_v vs 5) = w_fi ws (n_v vs 0) 8 := congrArg v_iv f5
  have g45 : v_iv (n_v vs 4) = w_fi ws (n_v vs 0) 6 := congrArg v_iv f45
  have g47 : v_iv (n_v vs 2) = w_fi ws (n_v vs 0) 7 := congrArg v_iv f47
  have kz_0_6 := fdq_208 hD hth r0
  have kz_0_7 := fdq_297 hD hth r0
  have kz_0_8 := fdq_99 hD hth r0
  have nf0 : fc_1 PRD (20, [0, 39], [60, 3, 1, 1083, 7, 6, 8, 0]) ws (vs) := ⟨nf_in hl rfl, sgq_1831 (vc_Re_isWord_at_s5003_8_0 (v_iv (n_v vs 2)) (v_iv (n_v vs 4)) (v_iv (n_v vs 5)) (v_iv (n_v vs 11)) (v_iv (n_v vs 16)) (v_iv (n_v vs 21)) (v_iv (n_v vs 26)) (v_iv (n_v vs 31)) (v_iv (n_v vs 36)) (v_iv (n_v vs 37)) (v_iv (n_v vs 38)) (v_iv (n_v vs 39)) (w_ei ws (w_ar ws (n_v vs 0) 0)) (w_fi ws (n_v vs 0) 8) (w_fi ws (n_v vs 0) 6) (w_fi ws (n_v vs 0) 7) k2 k4 k5 k36 k37 k38 k39 d0 (shm_40 f0) (shm_79 f1) (shm_80 f2) h3 g5 g45 g47 kz_0_6 kz_0_7 kz_0_8)⟩
  refine ⟨(fun _ h => (by cases h)), [], trivial, ?_, (fun _ h => (by cases h))⟩
  rw [List.append_nil]
  exact List.forall_mem_cons.mpr ⟨⟨show (20 : Nat) < 100 from by decide, nf0⟩, (fun _ h => (by cases h))⟩
set_option maxHeartbeats 4000000 in
theorem vc_Re_isWord_at_s5003_9_0 (x2 : Int) (x4 : Int) (x5 : Int) (x11 : Int) (x16 : Int) (x21 : Int) (x26 : Int) (x31 : Int) (x32 : Int) (x33 : Int) (x34 : Int) (tape_0 : Int → Int) (begin_0 : Int) (next_0 : Int) (kind_0 : Int) (k2 : 2 ≤ x2 ∧ x2 ≤ 2) (k4 : 6 ≤ x4 ∧ x4 ≤ 2000) (k5 : 0 ≤ x5 ∧ x5 ≤ 2000) (k31 : 4 ≤ x31 ∧ x31 ≤ 1999) (k32 : (-128) ≤ x32 ∧ x32 ≤ 127) (k33 : 0 ≤ x33 ∧ x33 ≤ 65535) (k34 : 0 ≤ x34 ∧ x34 ≤ 0) (d0 : x5 + 4 ≤ x31 ∧ x31 ≤ x5 + 4) (f0 : x32 ≠ x33) (f1 : 1 * x33 + 0 ≤ 104) (f2 : (-1) * x33 + 0 ≤ (-104)) (h3 : x32 = tape_0 (x31)) (g5 : x5 = begin_0) (g38 : x4 = next_0) (g40 : x2 = kind_0) (kz_0_6 : 0 ≤ next_0 ∧ next_0 ≤ 2000) (kz_0_7 : (-128) ≤ kind_0 ∧ kind_0 ≤ 127) (kz_0_8 : 0 ≤ begin_0 ∧ begin_0 ≤ 2000) : CWw (kind_0) (next_0) (begin_0) (tape_0) (x34) := by
  first | subst g5 | skip
  first | subst g38 | skip
  first | subst g40 | skip
  first
    | (right
       refine ⟨by omega, fun w => ?_⟩
       obtain ⟨w0, w1, w2, v0, v1, v2, v3, v4, v5⟩ := w
       try (rw [show x5 = x11 by omega] at v0)
       try (rw [show x5 + 1 = x16 by omega] at v1)
       try (rw [show x5 + 2 = x21 by omega] at v2)
       try (rw [show x5 + 3 = x26 by omega] at v3)
       try (rw [show x5 + 4 = x31 by omega] at v4)
       try (rw [show x5 + 5 = x36 by omega] at v5)
       omega)
    | (left; exact ⟨by omega, by omega, rfl, by omega, by rw [show x5 = x11 by omega]; omega, by rw [show x5 + 1 = x16 by omega]; omega, by rw [show x5 + 2 = x21 by omega]; omega, by rw [show x5 + 3 = x26 by omega]; omega, by rw [show x5 + 4 = x31 by omega]; omega, by rw [show x5 + 5 = x36 by omega]; omega⟩)
def o_Re_isWord_at_s5003_9 : or_T := (56, 35, [(0, (2, 0, 0, [8])), (2, (0, 2, 2, [])), (4, (0, 6, 2000, [])), (5, (0, 0, 2000, [])), (31, (0, 4, 1999, [])), (32, (0, -128, 127, [])), (33, (0, 0, 65535, [])), (34, (0, 0, 0, []))], [(7, [32, 33], [1]), (23, [33], [104, 1]), (23, [33], [-104, -1]), (10, [32, 10, 31], []), (9, [5, 0], [8]), (9, [10, 0], [0]), (9, [4, 0], [6]), (9, [2, 0], [7])], [], [], [(20, [0, 34], [60, 3, 1, 1083, 7, 6, 8, 0])], [], [(31, 5, 4, 4)])
theorem oo_Re_isWord_at_s5003_9 {kA : Nat → ClassId} : or_ok PRD kA GG o_Re_isWord_at_s5003_9 := by
  refine or_mk fun A ta ws vs hD hth hl => ?_
  intro t0 r0 t2 k2 t4 k4 t5 k5 t31 k31 t32 k32 t33 k33 t34 k34 d0 f0 f1 f2 f3 f5 f6 f38 f40
  replace f3 := shm_107 f3
  replace f5 := shm_293 f5
  replace f6 := shm_163 f6
  replace f38 := shm_111 f38
  replace f40 := shm_198 f40
  have ad_10 : v_ad (n_v vs 10) = w_ar ws (n_v vs 0) 0 := congrArg v_ad f6
  simp only [ad_10] at f3
  have h3 : v_iv (n_v vs 32) = w_ei ws (w_ar ws (n_v vs 0) 0) (v_iv (n_v vs 31)) := f3
  have g5 : v_iv (n_v vs 5) = w_fi ws (n_v vs 0) 8 := congrArg v_iv f5
  have g38 : v_iv (n_v vs 4) = w_fi ws (n_v vs 0) 6 := congrArg v_iv f38
  have g40 : v_iv (n_v vs 2) = w_fi ws (n_v vs 0) 7 := congrArg v_iv f40
  have kz_0_6 := fdq_208 hD hth r0
  have kz_0_7 := fdq_297 hD hth r0
  have kz_0_8 := fdq_99 hD hth r0
  have nf0 : fc_1 PRD (20, [0, 34], [60, 3, 1, 1083, 7, 6, 8, 0]) ws (vs) := ⟨nf_in hl rfl, sgq_1831 (vc_Re_isWord_at_s5003_9_0 (v_iv (n_v vs 2)) (v_iv (n_v vs 4)) (v_iv (n_v vs 5)) (v_iv (n_v vs 11)) (v_iv (n_v vs 16)) (v_iv (n_v vs 21)) (v_iv (n_v vs 26)) (v_iv (n_v vs 31)) (v_iv (n_v vs 32)) (v_iv (n_v vs 33)) (v_iv (n_v vs 34)) (w_ei ws (w_ar ws (n_v vs 0) 0)) (w_fi ws (n_v vs 0) 8) (w_fi ws (n_v vs 0) 6) (w_fi ws (n_v vs 0) 7) k2 k4 k5 k31 k32 k33 k34 d0 (shm_40 f0) (shm_77 f1) (shm_78 f2) h3 g5 g38 g40 kz_0_6 kz_0_7 kz_0_8)⟩
  refine ⟨(fun _ h => (by cases h)), [], trivial, ?_, (fun _ h => (by cases h))⟩
  rw [List.append_nil]
  exact List.forall_mem_cons.mpr ⟨⟨show (20 : Nat) < 100 from by decide, nf0⟩, (fun _ h => (by cases h))⟩
set_option maxHeartbeats 4000000 in
theorem vc_Re_isWord_at_s5003_10_0 (x2 : Int) (x4 : Int) (x5 : Int) (x11 : Int) (x16 : Int) (x21 : Int) (x26 : Int) (x27 : Int) (x28 : Int) (x29 : Int) (tape_0 : Int → Int) (begin_0 : Int) (next_0 : Int) (kind_0 : Int) (k2 : 2 ≤ x2 ∧ x2 ≤ 2) (k4 : 6 ≤ x4 ∧ x4 ≤ 2000) (k5 : 0 ≤ x5 ∧ x5 ≤ 2000) (k26 : 3 ≤ x26 ∧ x26 ≤ 1999) (k27 : (-128) ≤ x27 ∧ x27 ≤ 127) (k28 : 0 ≤ x28 ∧ x28 ≤ 65535) (k29 : 0 ≤ x29 ∧ x29 ≤ 0) (d0 : x5 + 3 ≤ x26 ∧ x26 ≤ x5 + 3) (f0 : x27 ≠ x28) (f1 : 1 * x28 + 0 ≤ 103) (f2 : (-1) * x28 + 0 ≤ (-103)) (h3 : x27 = tape_0 (x26)) (g5 : x5 = begin_0) (g31 : x4 = next_0) (g33 : x2 = kind_0) (kz_0_6 : 0 ≤ next_0 ∧ next_0 ≤ 2000) (kz_0_7 : (-128) ≤ kind_0 ∧ kind_0 ≤ 127) (kz_0_8 : 0 ≤ begin_0 ∧ begin_0 ≤ 2000) : CWw (kind_0) (next_0) (begin_0) (tape_0) (x29) := by
  first | subst g5 | skip
  first | subst g31 | skip
  first | subst g33 | skip
  first
    | (right
       refine ⟨by omega, fun w => ?_⟩
       obtain ⟨w0, w1, w2, v0, v1, v2, v3, v4, v5⟩ := w
       try (rw [show x5 = x11 by omega] at v0)
       try (rw [show x5 + 1 = x16 by omega] at v1)
       try (rw [show x5 + 2 = x21 by omega] at v2)
       try (rw [show x5 + 3 = x26 by omega] at v3)
       try (rw [show x5 + 4 = x31 by omega] at v4)
       try (rw [show x5 + 5 = x36 by omega] at v5)
       omega)
    | (left; exact ⟨by omega, by omega, rfl, by omega, by rw [show x5 = x11 by omega]; omega, by rw [show x5 + 1 = x16 by omega]; omega, by rw [show x5 + 2 = x21 by omega]; omega, by rw [show x5 + 3 = x26 by omega]; omega, by rw [show x5 + 4 = x31 by omega]; omega, by rw [show x5 + 5 = x36 by omega]; omega⟩)
def o_Re_isWord_at_s5003_10 : or_T := (56, 30, [(0, (2, 0, 0, [8])), (2, (0, 2, 2, [])), (4, (0, 6, 2000, [])), (5, (0, 0, 2000, [])), (26, (0, 3, 1999, [])), (27, (0, -128, 127, [])), (28, (0, 0, 65535, [])), (29, (0, 0, 0, []))], [(7, [27, 28], [1]), (23, [28], [103, 1]), (23, [28], [-103, -1]), (10, [27, 10, 26], []), (9, [5, 0], [8]), (9, [10, 0], [0]), (9, [4, 0], [6]), (9, [2, 0], [7])], [], [], [(20, [0, 29], [60, 3, 1, 1083, 7, 6, 8, 0])], [], [(26, 5, 3, 3)])
theorem oo_Re_isWord_at_s5003_10 {kA : Nat → ClassId} : or_ok PRD kA GG o_Re_isWord_at_s5003_10 := by
  refine or_mk fun A ta ws vs hD hth hl => ?_
  intro t0 r0 t2 k2 t4 k4 t5 k5 t26 k26 t27 k27 t28 k28 t29 k29 d0 f0 f1 f2 f3 f5 f6 f31 f33
  replace f3 := shm_107 f3
  replace f5 := shm_293 f5
  replace f6 := shm_163 f6
  replace f31 := shm_111 f31
  replace f33 := shm_198 f33
  have ad_10 : v_ad (n_v vs 10) = w_ar ws (n_v vs 0) 0 := congrArg v_ad f6
  simp only [ad_10] at f3
  have h3 : v_iv (n_v vs 27) = w_ei ws (w_ar ws (n_v vs 0) 0) (v_iv (n_v vs 26)) := f3
  have g5 : v_iv (n_v vs 5) = w_fi ws (n_v vs 0) 8 := congrArg v_iv f5
  have g31 : v_iv (n_v vs 4) = w_fi ws (n_v vs 0) 6 := congrArg v_iv f31
  have g33 : v_iv (n_v vs 2) = w_fi ws (n_v vs 0) 7 := congrArg v_iv f33
  have kz_0_6 := fdq_208 hD hth r0
  have kz_0_7 := fdq_297 hD hth r0
  have kz_0_8 := fdq_99 hD hth r0
  have nf0 : fc_1 PRD (20, [0, 29], [60, 3, 1, 1083, 7, 6, 8, 0]) ws (vs) := ⟨nf_in hl rfl, sgq_1831 (vc_Re_isWord_at_s5003_10_0 (v_iv (n_v vs 2)) (v_iv (n_v vs 4)) (v_iv (n_v vs 5)) (v_iv (n_v vs 11)) (v_iv (n_v vs 16)) (v_iv (n_v vs 21)) (v_iv (n_v vs 26)) (v_iv (n_v vs 27)) (v_iv (n_v vs 28)) (v_iv (n_v vs 29)) (w_ei ws (w_ar ws (n_v vs 0) 0)) (w_fi ws (n_v vs 0) 8) (w_fi ws (n_v vs 0) 6) (w_fi ws (n_v vs 0) 7) k2 k4 k5 k26 k27 k28 k29 d0 (shm_40 f0) (shm_61 f1) (shm_62 f2) h3 g5 g31 g33 kz_0_6 kz_0_7 kz_0_8)⟩
  refine ⟨(fun _ h => (by cases h)), [], trivial, ?_, (fun _ h => (by cases h))⟩
  rw [List.append_nil]
  exact List.forall_mem_cons.mpr ⟨⟨show (20 : Nat) < 100 from by decide, nf0⟩, (fun _ h => (by cases h))⟩
set_option maxHeartbeats 4000000 in
theorem vc_Re_isWord_at_s5003_11_0 (x2 : Int) (x4 : Int) (x5 : Int) (x11 : Int) (x16 : Int) (x21 : Int) (x22 : Int) (x23 : Int) (x24 : Int) (tape_0 : Int → Int) (begin_0 : Int) (next_0 : Int) (kind_0 : Int) (k2 : 2 ≤ x2 ∧ x2 ≤ 2) (k4 : 6 ≤ x4 ∧ x4 ≤ 2000) (k5 : 0 ≤ x5 ∧ x5 ≤ 2000) (k21 : 2 ≤ x21 ∧ x21 ≤ 1999) (k22 : (-128) ≤ x22 ∧ x22 ≤ 127) (k23 : 0 ≤ x23 ∧ x23 ≤ 65535) (k24 : 0 ≤ x24 ∧ x24 ≤ 0) (d0 : x5 + 2 ≤ x21 ∧ x21 ≤ x5 + 2) (f0 : x22 ≠ x23) (f1 : 1 * x23 + 0 ≤ 105) (f2 : (-1) * x23 + 0 ≤ (-105)) (h3 : x22 = tape_0 (x21)) (g5 : x5 = begin_0) (g24 : x4 = next_0) (g26 : x2 = kind_0) (kz_0_6 : 0 ≤ next_0 ∧ next_0 ≤ 2000) (kz_0_7 : (-128) ≤ kind_0 ∧ kind_0 ≤ 127) (kz_0_8 : 0 ≤ begin_0 ∧ begin_0 ≤ 2000) : CWw (kind_0) (next_0) (begin_0) (tape_0) (x24) := by
  first | subst g5 | skip
  first | subst g24 | skip
  first | subst g26 | skip
  first
    | (right
       refine ⟨by omega, fun w => ?_⟩
       obtain ⟨w0, w1, w2, v0, v1, v2, v3, v4, v5⟩ := w
       try (rw [show x5 = x11 by omega] at v0)
       try (rw [show x5 + 1 = x16 by omega] at v1)
       try (rw [show x5 + 2 = x21 by omega] at v2)
       try (rw [show x5 + 3 = x26 by omega] at v3)
       try (rw [show x5 + 4 = x31 by omega] at v4)
       try (rw [show x5 + 5 = x36 by omega] at v5)
       omega)
    | (left; exact ⟨by omega, by omega, rfl, by omega, by rw [show x5 = x11 by omega]; omega, by rw [show x5 + 1 = x16 by omega]; omega, by rw [show x5 + 2 = x21 by omega]; omega, by rw [show x5 + 3 = x26 by omega]; omega, by rw [show x5 + 4 = x31 by omega]; omega, by rw [show x5 + 5 = x36 by omega]; omega⟩)
def o_Re_isWord_at_s5003_11 : or_T := (56, 25, [(0, (2, 0, 0, [8])), (2, (0, 2, 2, [])), (4, (0, 6, 2000, [])), (5, (0, 0, 2000, [])), (21, (0, 2, 1999, [])), (22, (0, -128, 127, [])), (23, (0, 0, 65535, [])), (24, (0, 0, 0, []))], [(7, [22, 23], [1]), (23, [23], [105, 1]), (23, [23], [-105, -1]), (10, [22, 10, 21], []), (9, [5, 0], [8]), (9, [10, 0], [0]), (9, [4, 0], [6]), (9, [2, 0], [7])], [], [], [(20, [0, 24], [60, 3, 1, 1083, 7, 6, 8, 0])], [], [(21, 5, 2, 2)])
theorem oo_Re_isWord_at_s5003_11 {kA : Nat → ClassId} : or_ok PRD kA GG o_Re_isWord_at_s5003_11 := by
  refine or_mk fun A ta ws vs hD hth hl => ?_
  intro t0 r0 t2 k2 t4 k4 t5 k5 t21 k21 t22 k22 t23 k23 t24 k24 d0 f0 f1 f2 f3 f5 f6 f24 f26
  replace f3 := shm_107 f3
  replace f5 := shm_293 f5
  replace f6 := shm_163 f6
  replace f24 := shm_111 f24
  replace f26 := shm_198 f26
  have ad_10 : v_ad (n_v vs 10) = w_ar ws (n_v vs 0) 0 := congrArg v_ad f6
  simp only [ad_10] at f3
  have h3 : v_iv (n_v vs 22) = w_ei ws (w_ar ws (n_v vs 0) 0) (v_iv (n_v vs 21)) := f3
  have g5 : v_iv (n_v vs 5) = w_fi ws (n_v vs 0) 8 := congrArg v_iv f5
  have g24 : v_iv (n_v vs 4) = w_fi ws (n_v vs 0) 6 := congrArg v_iv f24
  have g26 : v_iv (n_v vs 2) = w_fi ws (n_v vs 0) 7 := congrArg v_iv f26
  have kz_0_6 := fdq_208 hD hth r0
  have kz_0_7 := fdq_297 hD hth r0
  have kz_0_8 := fdq_99 hD hth r0
  have nf0 : fc_1 PRD (20, [0, 24], [60, 3, 1, 1083, 7, 6, 8, 0]) ws (vs) := ⟨nf_in hl rfl, sgq_1831 (vc_Re_isWord_at_s5003_11_0 (v_iv (n_v vs 2)) (v_iv (n_v vs 4)) (v_iv (n_v vs 5)) (v_iv (n_v vs 11)) (v_iv (n_v vs 16)) (v_iv (n_v vs 21)) (v_iv (n_v vs 22)) (v_iv (n_v vs 23)) (v_iv (n_v vs 24)) (w_ei ws (w_ar ws (n_v vs 0) 0)) (w_fi ws (n_v vs 0) 8) (w_fi ws (n_v vs 0) 6) (w_fi ws (n_v vs 0) 7) k2 k4 k5 k21 k22 k23 k24 d0 (shm_40 f0) (shm_71 f1) (shm_72 f2) h3 g5 g24 g26 kz_0_6 kz_0_7 kz_0_8)⟩
  refine ⟨(fun _ h => (by cases h)), [], trivial, ?_, (fun _ h => (by cases h))⟩
  rw [List.append_nil]
  exact List.forall_mem_cons.mpr ⟨⟨show (20 : Nat) < 100 from by decide, nf0⟩, (fun _ h => (by cases h))⟩
set_option maxHeartbeats 4000000 in
theorem vc_Re_isWord_at_s5003_12_0 (x2 : Int) (x4 : Int) (x5 : Int) (x11 : Int) (x16 : Int) (x17 : Int) (x18 : Int) (x19 : Int) (tape_0 : Int → Int) (begin_0 : Int) (next_0 : Int) (kind_0 : Int) (k2 : 2 ≤ x2 ∧ x2 ≤ 2) (k4 : 6 ≤ x4 ∧ x4 ≤ 2000) (k5 : 0 ≤ x5 ∧ x5 ≤ 2000) (k16 : 1 ≤ x16 ∧ x16 ≤ 1999) (k17 : (-128) ≤ x17 ∧ x17 ≤ 127) (k18 : 0 ≤ x18 ∧ x18 ≤ 65535) (k19 : 0 ≤ x19 ∧ x19 ≤ 0) (d0 : x5 + 1 ≤ x16 ∧ x16 ≤ x5 + 1) (f0 : x17 ≠ x18) (f1 : 1 * x18 + 0 ≤ 101) (f2 : (-1) * x18 + 0 ≤ (-101)) (h3 : x17 = tape_0 (x16)) (g5 : x5 = begin_0) (g17 : x4 = next_0) (g19 : x2 = kind_0) (kz_0_6 : 0 ≤ next_0 ∧ next_0 ≤ 2000) (kz_0_7 : (-128) ≤ kind_0 ∧ kind_0 ≤ 127) (kz_0_8 : 0 ≤ begin_0 ∧ begin_0 ≤ 2000) : CWw (kind_0) (next_0) (begin_0) (tape_0) (x19) := by
  first | subst g5 | skip
  first | subst g17 | skip
  first | subst g19 | skip
  first
    | (right
       refine ⟨by omega, fun w => ?_⟩
       obtain ⟨w0, w1, w2, v0, v1, v2, v3, v4, v5⟩ := w
       try (rw [show x5 = x11 by omega] at v0)
       try (rw [show x5 + 1 = x16 by omega] at v1)
       try (rw [show x5 + 2 = x21 by omega] at v2)
       try (rw [show x5 + 3 = x26 by omega] at v3)
       try (rw [show x5 + 4 = x31 by omega] at v4)
       try (rw [show x5 + 5 = x36 by omega] at v5)
       omega)
    | (left; exact ⟨by omega, by omega, rfl, by omega, by rw [show x5 = x11 by omega]; omega, by rw [show x5 + 1 = x16 by omega]; omega, by rw [show x5 + 2 = x21 by omega]; omega, by rw [show x5 + 3 = x26 by omega]; omega, by rw [show x5 + 4 = x31 by omega]; omega, by rw [show x5 + 5 = x36 by omega]; omega⟩)
def o_Re_isWord_at_s5003_12 : or_T := (56, 20, [(0, (2, 0, 0, [8])), (2, (0, 2, 2, [])), (4, (0, 6, 2000, [])), (5, (0, 0, 2000, [])), (16, (0, 1, 1999, [])), (17, (0, -128, 127, [])), (18, (0, 0, 65535, [])), (19, (0, 0, 0, []))], [(7, [17, 18], [1]), (23, [18], [101, 1]), (23, [18], [-101, -1]), (10, [17, 10, 16], []), (9, [5, 0], [8]), (9, [10, 0], [0]), (9, [4, 0], [6]), (9, [2, 0], [7])], [], [], [(20, [0, 19], [60, 3, 1, 1083, 7, 6, 8, 0])], [], [(16, 5, 1, 1)])
theorem oo_Re_isWord_at_s5003_12 {kA : Nat → ClassId} : or_ok PRD kA GG o_Re_isWord_at_s5003_12 := by
  refine or_mk fun A ta ws vs hD hth hl => ?_
  intro t0 r0 t2 k2 t4 k4 t5 k5 t16 k16 t17 k17 t18 k18 t19 k19 d0 f0 f1 f2 f3 f5 f6 f17 f19
  replace f3 := shm_107 f3
  replace f5 := shm_293 f5
  replace f6 := shm_163 f6
  replace f17 := shm_111 f17
  replace f19 := shm_198 f19
  have ad_10 : v_ad (n_v vs 10) = w_ar ws (n_v vs 0) 0 := congrArg v_ad f6
  simp only [ad_10] at f3
  have h3 : v_iv (n_v vs 17) = w_ei ws (w_ar ws (n_v vs 0) 0) (v_iv (n_v vs 16)) := f3
  have g5 : v_iv (n_v vs 5) = w_fi ws (n_v vs 0) 8 := congrArg v_iv f5
  have g17 : v_iv (n_v vs 4) = w_fi ws (n_v vs 0) 6 := congrArg v_iv f17
  have g19 : v_iv (n_v vs 2) = w_fi ws (n_v vs 0) 7 := congrArg v_iv f19
  have kz_0_6 := fdq_208 hD hth r0
  have kz_0_7 := fdq_297 hD hth r0
  have kz_0_8 := fdq_99 hD hth r0
  have nf0 : fc_1 PRD (20, [0, 19], [60, 3, 1, 1083, 7, 6, 8, 0]) ws (vs) := ⟨nf_in hl rfl, sgq_1831 (vc_Re_isWord_at_s5003_12_0 (v_iv (n_v vs 2)) (v_iv (n_v vs 4)) (v_iv (n_v vs 5)) (v_iv (n_v vs 11)) (v_iv (n_v vs 16)) (v_iv (n_v vs 17)) (v_iv (n_v vs 18)) (v_iv (n_v vs 19)) (w_ei ws (w_ar ws (n_v vs 0) 0)) (w_fi ws (n_v vs 0) 8) (w_fi ws (n_v vs 0) 6) (w_fi ws (n_v vs 0) 7) k2 k4 k5 k16 k17 k18 k19 d0 (shm_40 f0) (shm_59 f1) (shm_60 f2) h3 g5 g17 g19 kz_0_6 kz_0_7 kz_0_8)⟩
  refine ⟨(fun _ h => (by cases h)), [], trivial, ?_, (fun _ h => (by cases h))⟩
  rw [List.append_nil]
  exact List.forall_mem_cons.mpr ⟨⟨show (20 : Nat) < 100 from by decide, nf0⟩, (fun _ h => (by cases h))⟩
set_option maxHeartbeats 4000000 in
theorem vc_Re_isWord_at_s5003_13_0 (x2 : Int) (x4 : Int) (x5 : Int) (x11 : Int) (x12 : Int) (x13 : Int) (x14 : Int) (tape_0 : Int → Int) (begin_0 : Int) (next_0 : Int) (kind_0 : Int) (k2 : 2 ≤ x2 ∧ x2 ≤ 2) (k4 : 6 ≤ x4 ∧ x4 ≤ 2000) (k5 : 0 ≤ x5 ∧ x5 ≤ 2000) (k11 : 0 ≤ x11 ∧ x11 ≤ 1999) (k12 : (-128) ≤ x12 ∧ x12 ≤ 127) (k13 : 0 ≤ x13 ∧ x13 ≤ 65535) (k14 : 0 ≤ x14 ∧ x14 ≤ 0) (d0 : x5 + 0 ≤ x11 ∧ x11 ≤ x5 + 0) (f0 : x12 ≠ x13) (f1 : 1 * x13 + 0 ≤ 119) (f2 : (-1) * x13 + 0 ≤ (-119)) (h3 : x12 = tape_0 (x11)) (g5 : x5 = begin_0) (g10 : x4 = next_0) (g12 : x2 = kind_0) (kz_0_6 : 0 ≤ next_0 ∧ next_0 ≤ 2000) (kz_0_7 : (-128) ≤ kind_0 ∧ kind_0 ≤ 127) (kz_0_8 : 0 ≤ begin_0 ∧ begin_0 ≤ 2000) : CWw (kind_0) (next_0) (begin_0) (tape_0) (x14) := by
  first | subst g5 | skip
  first | subst g10 | skip
  first | subst g12 | skip
  first
    | (right
       refine ⟨by omega, fun w => ?_⟩
       obtain ⟨w0, w1, w2, v0, v1, v2, v3, v4, v5⟩ := w
       try (rw [show x5 = x11 by omega] at v0)
       try (rw [show x5 + 1 = x16 by omega] at v1)
       try (rw [show x5 + 2 = x21 by omega] at v2)
       try (rw [show x5 + 3 = x26 by omega] at v3)
       try (rw [show x5 + 4 = x31 by omega] at v4)
       try (rw [show x5 + 5 = x36 by omega] at v5)
       omega)
    | (left; exact ⟨by omega, by omega, rfl, by omega, by rw [show x5 = x11 by omega]; omega, by rw [show x5 + 1 = x16 by omega]; omega, by rw [show x5 + 2 = x21 by omega]; omega, by rw [show x5 + 3 = x26 by omega]; omega, by rw [show x5 + 4 = x31 by omega]; omega, by rw [show x5 + 5 = x36 by omega]; omega⟩)
def o_Re_isWord_at_s5003_13 : or_T := (56, 15, [(0, (2, 0, 0, [8])), (2, (0, 2, 2, [])), (4, (0, 6, 2000, [])), (5, (0, 0, 2000, [])), (11, (0, 0, 1999, [])), (12, (0, -128, 127, [])), (13, (0, 0, 65535, [])), (14, (0, 0, 0, []))], [(7, [12, 13], [1]), (23, [13], [119, 1]), (23, [13], [-119, -1]), (10, [12, 10, 11], []), (9, [5, 0], [8]), (9, [10, 0], [0]), (9, [4, 0], [6]), (9, [2, 0], [7])], [], [], [(20, [0, 14], [60, 3, 1, 1083, 7, 6, 8, 0])], [], [(11, 5, 0, 0)])
theorem oo_Re_isWord_at_s5003_13 {kA : Nat → ClassId} : or_ok PRD kA GG o_Re_isWord_at_s5003_13 := by
  refine or_mk fun A ta ws vs hD hth hl => ?_
  intro t0 r0 t2 k2 t4 k4 t5 k5 t11 k11 t12 k12 t13 k13 t14 k14 d0 f0 f1 f2 f3 f5 f6 f10 f12
  replace f3 := shm_107 f3
  replace f5 := shm_293 f5
  replace f6 := shm_163 f6
  replace f10 := shm_111 f10
  replace f12 := shm_198 f12
  have ad_10 : v_ad (n_v vs 10) = w_ar ws (n_v vs 0) 0 := congrArg v_ad f6
  simp only [ad_10] at f3
  have h3 : v_iv (n_v vs 12) = w_ei ws (w_ar ws (n_v vs 0) 0) (v_iv (n_v vs 11)) := f3
  have g5 : v_iv (n_v vs 5) = w_fi ws (n_v vs 0) 8 := congrArg v_iv f5
  have g10 : v_iv (n_v vs 4) = w_fi ws (n_v vs 0) 6 := congrArg v_iv f10
  have g12 : v_iv (n_v vs 2) = w_fi ws (n_v vs 0) 7 := congrArg v_iv f12
  have kz_0_6 := fdq_208 hD hth r0
  have kz_0_7 := fdq_297 hD hth r0
  have kz_0_8 := fdq_99 hD hth r0
  have nf0 : fc_1 PRD (20, [0, 14], [60, 3, 1, 1083, 7, 6, 8, 0]) ws (vs) := ⟨nf_in hl rfl, sgq_1831 (vc_Re_isWord_at_s5003_13_0 (v_iv (n_v vs 2)) (v_iv (n_v vs 4)) (v_iv (n_v vs 5)) (v_iv (n_v vs 11)) (v_iv (n_v vs 12)) (v_iv (n_v vs 13)) (v_iv (n_v vs 14)) (w_ei ws (w_ar ws (n_v vs 0) 0)) (w_fi ws (n_v vs 0) 8) (w_fi ws (n_v vs 0) 6) (w_fi ws (n_v vs 0) 7) k2 k4 k5 k11 k12 k13 k14 d0 (shm_40 f0) (shm_75 f1) (shm_76 f2) h3 g5 g10 g12 kz_0_6 kz_0_7 kz_0_8)⟩
  refine ⟨(fun _ h => (by cases h)), [], trivial, ?_, (fun _ h => (by cases h))⟩
  rw [List.append_nil]
  exact List.forall_mem_cons.mpr ⟨⟨show (20 : Nat) < 100 from by decide, nf0⟩, (fun _ h => (by cases h))⟩
set_option maxHeartbeats 4000000 in
theorem vc_Re_isWord_at_s5003_14_0 (x2 : Int) (x4 : Int) (x5 : Int) (x6 : Int) (x7 : Int) (x8 : Int) (begin_0 : Int) (next_0 : Int) (kind_0 : Int) (tape_0 : Int → Int) (k2 : 2 ≤ x2 ∧ x2 ≤ 2) (k4 : 0 ≤ x4 ∧ x4 ≤ 2000) (k5 : 0 ≤ x5 ∧ x5 ≤ 2000) (k6 : (-2000) ≤ x6 ∧ x6 ≤ 2000) (k7 : 6 ≤ x7 ∧ x7 ≤ 6) (k8 : 0 ≤ x8 ∧ x8 ≤ 0) (f0 : x6 ≠ x7) (f1 : x6 = x4 - x5) (g2 : x5 = begin_0) (g3 : x4 = next_0) (g5 : x2 = kind_0) (kz_0_6 : 0 ≤ next_0 ∧ next_0 ≤ 2000) (kz_0_7 : (-128) ≤ kind_0 ∧ kind_0 ≤ 127) (kz_0_8 : 0 ≤ begin_0 ∧ begin_0 ≤ 2000) : CWw (kind_0) (next_0) (begin_0) (tape_0) (x8) := by
  first | subst g2 | skip
  first | subst g3 | skip
  first | subst g5 | skip
  first
    | (right
       refine ⟨by omega, fun w => ?_⟩
       obtain ⟨w0, w1, w2, v0, v1, v2, v3, v4, v5⟩ := w
       try (rw [show x5 = x11 by omega] at v0)
       try (rw [show x5 + 1 = x16 by omega] at v1)
       try (rw [show x5 + 2 = x21 by omega] at v2)
       try (rw [show x5 + 3 = x26 by omega] at v3)
       try (rw [show x5 + 4 = x31 by omega] at v4)
       try (rw [show x5 + 5 = x36 by omega] at v5)
       omega)
    | (left; exact ⟨by omega, by omega, rfl, by omega, by rw [show x5 = x11 by omega]; omega, by rw [show x5 + 1 = x16 by omega]; omega, by rw [show x5 + 2 = x21 by omega]; omega, by rw [show x5 + 3 = x26 by omega]; omega, by rw [show x5 + 4 = x31 by omega]; omega, by rw [show x5 + 5 = x36 by omega]; omega⟩)
def o_Re_isWord_at_s5003_14 : or_T := (25, 9, [(0, (2, 0, 0, [8])), (2, (0, 2, 2, [])), (4, (0, 0, 2000, [])), (5, (0, 0, 2000, [])), (6, (0, -2000, 2000, [])), (7, (0, 6, 6, [])), (8, (0, 0, 0, []))], [(7, [6, 7], [1]), (2, [6, 4, 5], []), (9, [5, 0], [8]), (9, [4, 0], [6]), (9, [2, 0], [7])], [], [], [(20, [0, 8], [60, 3, 1, 1083, 7, 6, 8, 0])], [], [])
theorem oo_Re_isWord_at_s5003_14 {kA : Nat → ClassId} : or_ok PRD kA GG o_Re_isWord_at_s5003_14 := by
  refine or_mk fun A ta ws vs hD hth hl => ?_
  intro t0 r0 t2 k2 t4 k4 t5 k5 t6 k6 t7 k7 t8 k8 f0 f1 f2 f3 f5
  replace f2 := shm_293 f2
  replace f3 := shm_111 f3
  replace f5 := shm_198 f5
  have g2 : v_iv (n_v vs 5) = w_fi ws (n_v vs 0) 8 := congrArg v_iv f2
  have g3 : v_iv (n_v vs 4) = w_fi ws (n_v vs 0) 6 := congrArg v_iv f3
  have g5 : v_iv (n_v vs 2) = w_fi ws (n_v vs 0) 7 := congrArg v_iv f5
  have kz_0_6 := fdq_208 hD hth r0
  have kz_0_7 := fdq_297 hD hth r0
  have kz_0_8 := fdq_99 hD hth r0
  have nf0 : fc_1 PRD (20, [0, 8], [60, 3, 1, 1083, 7, 6, 8, 0]) ws (vs) := ⟨nf_in hl rfl, sgq_1831 (vc_Re_isWord_at_s5003_14_0 (v_iv (n_v vs 2)) (v_iv (n_v vs 4)) (v_iv (n_v vs 5)) (v_iv (n_v vs 6)) (v_iv (n_v vs 7)) (v_iv (n_v vs 8)) (w_fi ws (n_v vs 0) 8) (w_fi ws (n_v vs 0) 6) (w_fi ws (n_v vs 0) 7) (w_ei ws (w_ar ws (n_v vs 0) 0)) k2 k4 k5 k6 k7 k8 (shm_40 f0) (shm_14 f1) g2 g3 g5 kz_0_6 kz_0_7 kz_0_8)⟩
  refine ⟨(fun _ h => (by cases h)), [], trivial, ?_, (fun _ h => (by cases h))⟩
  rw [List.append_nil]
  exact List.forall_mem_cons.mpr ⟨⟨show (20 : Nat) < 100 from by decide, nf0⟩, (fun _ h => (by cases h))⟩
def n_Re_isWord_at_s5003_an : List an_T := []
def t_Re_isWord_at_s5003_ct : ct_L := [(58, 84, e_jStr_length_v336), (94, 84, e_jStr_length_v336), (151, 89, e_jStr_charAt_v337), (151, 89, e_jStr_charAt_v341), (151, 89, e_jStr_charAt_v345), (151, 89, e_jStr_charAt_v349), (151, 89, e_jStr_charAt_v353), (151, 89, e_jStr_charAt_v357)]
set_option maxRecDepth 100000 in
theorem c_Re_isWord_at_s5003 {l : Launch} {D : va_G} {kA : Nat → ClassId} : ct_ok PRD l D kA GG y_Re_isWord_at_s5003 z_Re_isWord_at_s5003 e_Re_isWord_at_s5003 := chk_all_ok (FT := [(9, 8, 0), (35, 8, 6), (38, 8, 7), (41, 8, 8)]) (PT := []) (CT := t_Re_isWord_at_s5003_ct) (KT := []) (NT := []) (AN := n_Re_isWord_at_s5003_an) (OT := [o_Re_isWord_at_s5003_0, o_Re_isWord_at_s5003_1, o_Re_isWord_at_s5003_2, o_Re_isWord_at_s5003_3, o_Re_isWord_at_s5003_4, o_Re_isWord_at_s5003_5, o_Re_isWord_at_s5003_6, o_Re_isWord_at_s5003_7, o_Re_isWord_at_s5003_8, o_Re_isWord_at_s5003_9, o_Re_isWord_at_s5003_10, o_Re_isWord_at_s5003_11, o_Re_isWord_at_s5003_12, o_Re_isWord_at_s5003_13, o_Re_isWord_at_s5003_14]) 0 552 (List.forall_mem_cons.mpr ⟨oo_Re_isWord_at_s5003_0, List.forall_mem_cons.mpr ⟨oo_Re_isWord_at_s5003_1, List.forall_mem_cons.mpr ⟨oo_Re_isWord_at_s5003_2, List.forall_mem_cons.mpr ⟨oo_Re_isWord_at_s5003_3, List.forall_mem_cons.mpr ⟨oo_Re_isWord_at_s5003_4, List.forall_mem_cons.mpr ⟨oo_Re_isWord_at_s5003_5, List.forall_mem_cons.mpr ⟨oo_Re_isWord_at_s5003_6, List.forall_mem_cons.mpr ⟨oo_Re_isWord_at_s5003_7, List.forall_mem_cons.mpr ⟨oo_Re_isWord_at_s5003_8, List.forall_mem_cons.mpr ⟨oo_Re_isWord_at_s5003_9, List.forall_mem_cons.mpr ⟨oo_Re_isWord_at_s5003_10, List.forall_mem_cons.mpr ⟨oo_Re_isWord_at_s5003_11, List.forall_mem_cons.mpr ⟨oo_Re_isWord_at_s5003_12, List.forall_mem_cons.mpr ⟨oo_Re_isWord_at_s5003_13, List.forall_mem_cons.mpr ⟨oo_Re_isWord_at_s5003_14, List.forall_mem_nil _⟩⟩⟩⟩⟩⟩⟩⟩⟩⟩⟩⟩⟩⟩⟩) (by decide +kernel) ⟨List.forall_mem_cons.mpr ⟨gf_Re_9, List.forall_mem_cons.mpr ⟨gf_Re_35, List.forall_mem_cons.mpr ⟨gf_Re_38, List.forall_mem_cons.mpr ⟨gf_Re_41, List.forall_mem_nil _⟩⟩⟩⟩, List.forall_mem_nil _, List.forall_mem_cons.mpr ⟨cl_string (y := y_jStr_length) (i := 3) rfl rfl (by decide +kernel) rfl c_jStr_length_v336 wm_674 wm_11 wm_671 wm_672 wm_673 ⟨by decide, by decide, by decide +kernel⟩ (by decide), List.forall_mem_cons.mpr ⟨cl_string (y := y_jStr_length) (i := 3) rfl rfl (by decide +kernel) rfl c_jStr_length_v336 wm_674 wm_11 wm_671 wm_672 wm_673 ⟨by decide, by decide, by decide +kernel⟩ (by decide), List.forall_mem_cons.mpr ⟨cl_string (y := y_jStr_charAt) (i := 3) rfl rfl (by decide +kernel) rfl c_jStr_charAt_v337 wm_684 wm_11 wm_681 wm_682 wm_683 ⟨by decide, by decide, by decide +kernel⟩ (by decide), List.forall_mem_cons.mpr ⟨cl_string (y := y_jStr_charAt) (i := 3) rfl rfl (by decide +kernel) rfl c_jStr_charAt_v341 wm_684 wm_11 wm_681 wm_682 wm_683 ⟨by decide, by decide, by decide +kernel⟩ (by decide), List.forall_mem_cons.mpr ⟨cl_string (y := y_jStr_charAt) (i := 3) rfl rfl (by decide +kernel) rfl c_jStr_charAt_v345 wm_684 wm_11 wm_681 wm_682 wm_683 ⟨by decide, by decide, by decide +kernel⟩ (by decide), List.forall_mem_cons.mpr ⟨cl_string (y := y_jStr_charAt) (i := 3) rfl rfl (by decide +kernel) rfl c_jStr_charAt_v349 wm_684 wm_11 wm_681 wm_682 wm_683 ⟨by decide, by decide, by decide +kernel⟩ (by decide), List.forall_mem_cons.mpr ⟨cl_string (y := y_jStr_charAt) (i := 3) rfl rfl (by decide +kernel) rfl c_jStr_charAt_v353 wm_684 wm_11 wm_681 wm_682 wm_683 ⟨by decide, by decide, by decide +kernel⟩ (by decide), List.forall_mem_cons.mpr ⟨cl_string (y := y_jStr_charAt) (i := 3) rfl rfl (by decide +kernel) rfl c_jStr_charAt_v357 wm_684 wm_11 wm_681 wm_682 wm_683 ⟨by decide, by decide, by decide +kernel⟩ (by decide), List.forall_mem_nil _⟩⟩⟩⟩⟩⟩⟩⟩, List.forall_mem_nil _, List.forall_mem_nil _, GG_pl⟩ (by decide +kernel)

set_option maxHeartbeats 4000000 in
theorem vc_Gr_alter_at_kx_0_0 (x9 : Int) (x11 : Int) (done_0 : Int) (past_0 : Int → Int) (k9 : 3782 ≤ x9 ∧ x9 ≤ 3782) (k11 : 0 ≤ x11 ∧ x11 ≤ 30) (g5 : x11 = done_0) (hT10 : ∀ j : Int, 0 ≤ j → j < x9 + 0 → 0 ≤ past_0 j ∧ past_0 j ≤ 0) (kz_0_17 : 0 ≤ done_0 ∧ done_0 ≤ 30) : PRO (past_0) (x11) := by
  first
    | exact pro_pdq ‹PDQ _ _ _› (by omega) (by omega)
    | exact pri_pro ‹PNI _ _› (by omega)
    | (have q := (‹MV2 _ _ _ _ _›); exact fun r a b => q r a (by omega))
    | exact pro_zero (by omega) (fun j a b => by have q := hT10 j a (by omega); omega)
  
def o_Gr_alter_at_kx_0 : or_T := (21, 12, [(0, (2, 0, 0, [3])), (9, (0, 3782, 3782, [])), (11, (0, 0, 30, []))], [(9, [10, 0], [16]), (9, [11, 0], [17]), (20, [10, 9], [8, 0, 0, 0])], [], [], [(20, [0, 11], [60, 0, 1, 737, 16])], [], [])
theorem oo_Gr_alter_at_kx_0 {kA : Nat → ClassId} : or_ok PRD kA GG o_Gr_alter_at_kx_0 := by
  refine or_mk fun A ta ws vs hD hth hl => ?_
  intro t0 r0 t9 k9 t11 k11 f0 f5 f10
  replace f0 := shm_176 f0
  replace f5 := shm_795 f5
  replace f10 := shm_0 f10
  have ad_10 : v_ad (n_v vs 10) = w_ar ws (n_v vs 0) 16 := congrArg v_ad f0
  have g5 : v_iv (n_v vs 11) = w_fi ws (n_v vs 0) 17 := congrArg v_iv f5
  have hT10 : ∀ j : Int, 0 ≤ j → j < v_iv (n_v vs 9) + 0 → 0 ≤ w_ei ws (w_ar ws (n_v vs 0) 16) j ∧ w_ei ws (w_ar ws (n_v vs 0) 16) j ≤ 0 := fun j h0 h1 => by have h2 := f10 j.toNat (by omega); rw [ad_10] at h2; exact h2
  have kz_0_17 := fdq_288 hD hth r0
  have nf0 : fc_1 PRD (20, [0, 11], [60, 0, 1, 737, 16]) ws (vs) := ⟨nf_in hl rfl, sgq_850 (vc_Gr_alter_at_kx_0_0 (v_iv (n_v vs 9)) (v_iv (n_v vs 11)) (w_fi ws (n_v vs 0) 17) (w_ei ws (w_ar ws (n_v vs 0) 16)) k9 k11 g5 hT10 kz_0_17)⟩
  refine ⟨(fun _ h => (by cases h)), [], trivial, ?_, (fun _ h => (by cases h))⟩
  rw [List.append_nil]
  exact List.forall_mem_cons.mpr ⟨⟨show (20 : Nat) < 100 from by decide, nf0⟩, (fun _ h => (by cases h))⟩
set_option maxHeartbeats 4000000 in
theorem vc_Gr_alter_at_kx_1_0 (x11 : Int) (past_0 : Int → Int) (k11 : 0 ≤ x11 ∧ x11 ≤ 30) (f9 : PRI (past_0) (x11)) : PNI (past_0) (x11) := by
  first
    | exact ‹PRI _ _›
  
def o_Gr_alter_at_kx_1 : or_T := (28, 12, [(11, (0, 0, 30, []))], [(9, [10, 0], [16]), (20, [0, 11], [60, 0, 1, 738, 16])], [], [], [(20, [10, 11], [61, 1, 762])], [], [])
theorem oo_Gr_alter_at_kx_1 {kA : Nat → ClassId} : or_ok PRD kA GG o_Gr_alter_at_kx_1 := by
  refine or_mk fun A ta ws vs hD hth hl => ?_
  intro t11 k11 f1 f9
  replace f1 := shm_176 f1
  replace f9 := shm_855 f9
  have ad_10 : v_ad (n_v vs 10) = w_ar ws (n_v vs 0) 16 := congrArg v_ad f1
  have nf0 : fc_1 PRD (20, [10, 11], [61, 1, 762]) ws (vs) := by
    refine ⟨nf_in hl rfl, sgq_1832 ?_⟩
    · show PNI (w_ei ws (v_ad (n_v vs 10))) (v_iv (n_v vs 11))
      rw [ad_10]
      exact vc_Gr_alter_at_kx_1_0 (v_iv (n_v vs 11)) (w_ei ws (w_ar ws (n_v vs 0) 16)) k11 f9
  refine ⟨(fun _ h => (by cases h)), [], trivial, ?_, (fun _ h => (by cases h))⟩
  rw [List.append_nil]
  exact List.forall_mem_cons.mpr ⟨⟨show (20 : Nat) < 100 from by decide, nf0⟩, (fun _ h => (by cases h))⟩
set_option maxHeartbeats 4000000 in
theorem vc_Gr_alter_at_kx_2_0 (x11 : Int) (x15 : Int) (nodes_0 : Int) (edges_0 : Int) (done_0 : Int) (past_0 : Int → Int) (near_0 : Int → Int) (tail_0 : Int → Int) (head_0 : Int → Int) (past_1 : Int → Int) (near_1 : Int → Int) (tail_1 : Int → Int) (head_1 : Int → Int) (nodes_1 : Int) (edges_1 : Int) (past_2 : Int → Int) (undone_2 : Int) (near_2 : Int → Int) (tail_2 : Int → Int) (head_2 : Int → Int) (nodes_2 : Int) (edges_2 : Int) (done_1 : Int) (undone_1 : Int) (k11 : 0 ≤ x11 ∧ x11 ≤ 29) (k15 : 1 ≤ x15 ∧ x15 ≤ 30) (d0 : x11 + 1 ≤ x15 ∧ x15 ≤ x11 + 1) (f18 : PNI (past_2) (x11)) (fe_0_0_1 : nodes_0 = nodes_1) (fe_0_1_1 : edges_0 = edges_1) (fe_0_17_1 : done_0 = done_1) (fe_0_0_2 : nodes_1 = nodes_2) (fe_0_1_2 : edges_1 = edges_2) (fe_0_18_2 : undone_1 = undone_2) (hE_0_7_1 : ∀ j : Int, tail_0 j = tail_1 j) (hE_0_7_2 : ∀ j : Int, tail_1 j = tail_2 j) (hE_0_8_1 : ∀ j : Int, head_0 j = head_1 j) (hE_0_8_2 : ∀ j : Int, head_1 j = head_2 j) (hE_0_14_1 : ∀ j : Int, near_0 j = near_1 j) (hE_0_14_2 : ∀ j : Int, near_1 j = near_2 j) (hE_0_16_1 : ∀ j : Int, past_0 j = past_1 j) (hE_0_16_2 : ∀ j : Int, past_1 j = past_2 j) (kz_0_0 : 0 ≤ nodes_0 ∧ nodes_0 ≤ 24) (kz_0_1 : 0 ≤ edges_0 ∧ edges_0 ≤ 48) (kz_0_17 : 0 ≤ done_0 ∧ done_0 ≤ 30) : PRO (past_0) (x15) := by
  subst fe_0_0_1
  subst fe_0_1_1
  subst fe_0_17_1
  subst fe_0_0_2
  subst fe_0_1_2
  subst fe_0_18_2
  have e_hE_0_7_1 := funext hE_0_7_1; subst e_hE_0_7_1
  have e_hE_0_7_2 := funext hE_0_7_2; subst e_hE_0_7_2
  have e_hE_0_8_1 := funext hE_0_8_1; subst e_hE_0_8_1
  have e_hE_0_8_2 := funext hE_0_8_2; subst e_hE_0_8_2
  have e_hE_0_14_1 := funext hE_0_14_1; subst e_hE_0_14_1
  have e_hE_0_14_2 := funext hE_0_14_2; subst e_hE_0_14_2
  have e_hE_0_16_1 := funext hE_0_16_1; subst e_hE_0_16_1
  have e_hE_0_16_2 := funext hE_0_16_2; subst e_hE_0_16_2
  first
    | exact pro_pdq ‹PDQ _ _ _› (by omega) (by omega)
    | exact pri_pro ‹PNI _ _› (by omega)
    | (have q := (‹MV2 _ _ _ _ _›); exact fun r a b => q r a (by omega))
    | exact pro_zero (by omega) (fun j a b => by have q := hT10 j a (by omega); omega)
  
def o_Gr_alter_at_kx_2 : or_T := (82, 17, [(0, (2, 0, 0, [3])), (5, (0, 0, 24, [])), (6, (0, 0, 48, [])), (7, (2, 0, 0, [52])), (8, (2, 0, 0, [53])), (10, (2, 0, 0, [61])), (11, (0, 0, 29, [])), (13, (0, 30, 30, [])), (14, (0, 1, 1, [])), (15, (0, 1, 30, [])), (16, (0, 0, 0, []))], [(9, [16, 0], [18]), (9, [5, 0], [0]), (9, [6, 0], [1]), (9, [7, 0], [7]), (9, [8, 0], [8]), (9, [10, 0], [16]), (9, [15, 0], [17]), (20, [10, 11], [61, 1, 762]), (20, [0], [60, 2, 3, 670, 0, 1, 14, 7, 8]), (20, [0], [60, 2, 2, 596, 0, 1, 7, 8]), (101, [0, 16], [18]), (20, [10, 11], [61, 1, 762]), (20, [0], [60, 2, 3, 670, 0, 1, 14, 7, 8]), (20, [0], [60, 2, 2, 596, 0, 1, 7, 8]), (101, [0, 15], [17]), (1, [15, 11, 14], []), (9, [11, 0], [17]), (7, [11, 13], [1]), (20, [10, 11], [61, 1, 762]), (20, [0], [50, 2, 0, 17, 18, 0, 8, 4, 3, 2, 0, 17, 2, 0, 18, 0, 30]), (20, [0], [60, 2, 3, 670, 0, 1, 14, 7, 8]), (20, [0], [60, 2, 2, 596, 0, 1, 7, 8]), (102, [11], [381944245562716141175333566576758405197150323812363046994276334253946495506784008380874752, 3000, 3001]), (102, [11], [2305843009213693952]), (101, [0, 10], [16])], [], [], [(20, [0, 15], [60, 0, 1, 737, 16])], [], [(15, 11, 1, 1)])
theorem oo_Gr_alter_at_kx_2 {kA : Nat → ClassId} : or_ok PRD kA GG o_Gr_alter_at_kx_2 := by
  refine or_mk fun A ta ws vs hD hth hl => ?_
  intro t0 r0 t5 k5 t6 k6 t7 r7 t8 r8 t10 r10 t11 k11 t13 k13 t14 k14 t15 k15 t16 k16 d0 f0 f1 f2 f3 f4 f5 f6 f7 f8 f9 ta1 w1 le1 s1 f11 f12 f13 ta2 w2 le2 s2 f15 f16 f17 f18 f19 f20 f21 ta3 w3 le3 s3 ta4 w4 le4 s4 ta5 w5 le5 s5
  replace f5 := shm_176 f5
  have s1 : (∀ b j, w_el ws b j = w_el w1 b j) ∧ ∀ b j, w_fd ws b j = if b = v_ad (n_v vs 0) ∧ j = 18 then n_v vs 16 else w_fd w1 b j := s1.2
  have s2 : (∀ b j, w_el w1 b j = w_el w2 b j) ∧ ∀ b j, w_fd w1 b j = if b = v_ad (n_v vs 0) ∧ j = 17 then n_v vs 15 else w_fd w2 b j := s2.2
  replace f18 := shm_1832 f18
  have ar_0_7_1 : w_ar w1 (n_v vs 0) 7 = w_ar ws (n_v vs 0) 7 := by show v_ad (w_fd w1 _ _) = v_ad (w_fd ws _ _); rw [s1.2, if_neg (fun e => absurd e.2 (by decide))]
  have ar_0_7_2 : w_ar w2 (n_v vs 0) 7 = w_ar ws (n_v vs 0) 7 := by rw [← ar_0_7_1]; show v_ad (w_fd w2 _ _) = v_ad (w_fd w1 _ _); rw [s2.2, if_neg (fun e => absurd e.2 (by decide))]
  have ar_0_8_1 : w_ar w1 (n_v vs 0) 8 = w_ar ws (n_v vs 0) 8 := by show v_ad (w_fd w1 _ _) = v_ad (w_fd ws _ _); rw [s1.2, if_neg (fun e => absurd e.2 (by decide))]
  have ar_0_8_2 : w_ar w2 (n_v vs 0) 8 = w_ar ws (n_v vs 0) 8 := by rw [← ar_0_8_1]; show v_ad (w_fd w2 _ _) = v_ad (w_fd w1 _ _); rw [s2.2, if_neg (fun e => absurd e.2 (by decide))]
  have ar_0_14_1 : w_ar w1 (n_v vs 0) 14 = w_ar ws (n_v vs 0) 14 := by show v_ad (w_fd w1 _ _) = v_ad (w_fd ws _ _); rw [s1.2, if_neg (fun e => absurd e.2 (by decide))]
  have ar_0_14_2 : w_ar w2 (n_v vs 0) 14 = w_ar ws (n_v vs 0) 14 := by rw [← ar_0_14_1]; show v_ad (w_fd w2 _ _) = v_ad (w_fd w1 _ _); rw [s2.2, if_neg (fun e => absurd e.2 (by decide))]
  have ad_10 : v_ad (n_v vs 10) = w_ar ws (n_v vs 0) 16 := congrArg v_ad f5
  simp only [ad_10, ar_0_7_2, ar_0_8_2, ar_0_14_2] at f18
  have fe_0_0_1 : w_fi ws (n_v vs 0) 0 = w_fi w1 (n_v vs 0) 0 := by show v_iv (w_fd _ _ _) = v_iv (w_fd _ _ _); rw [s1.2, if_neg (fun e => absurd e.2 (by decide))]
  have fe_0_1_1 : w_fi ws (n_v vs 0) 1 = w_fi w1 (n_v vs 0) 1 := by show v_iv (w_fd _ _ _) = v_iv (w_fd _ _ _); rw [s1.2, if_neg (fun e => absurd e.2 (by decide))]
  have fe_0_17_1 : w_fi ws (n_v vs 0) 17 = w_fi w1 (n_v vs 0) 17 := by show v_iv (w_fd _ _ _) = v_iv (w_fd _ _ _); rw [s1.2, if_neg (fun e => absurd e.2 (by decide))]
  have fe_0_0_2 : w_fi w1 (n_v vs 0) 0 = w_fi w2 (n_v vs 0) 0 := by show v_iv (w_fd _ _ _) = v_iv (w_fd _ _ _); rw [s2.2, if_neg (fun e => absurd e.2 (by decide))]
  have fe_0_1_2 : w_fi w1 (n_v vs 0) 1 = w_fi w2 (n_v vs 0) 1 := by show v_iv (w_fd _ _ _) = v_iv (w_fd _ _ _); rw [s2.2, if_neg (fun e => absurd e.2 (by decide))]
  have fe_0_18_2 : w_fi w1 (n_v vs 0) 18 = w_fi w2 (n_v vs 0) 18 := by show v_iv (w_fd _ _ _) = v_iv (w_fd _ _ _); rw [s2.2, if_neg (fun e => absurd e.2 (by decide))]
  have hE_0_7_1 : ∀ j : Int, w_ei ws (w_ar ws (n_v vs 0) 7) j = w_ei w1 (w_ar ws (n_v vs 0) 7) j := fun j => s1.1 _ _
  have hE_0_7_2 : ∀ j : Int, w_ei w1 (w_ar ws (n_v vs 0) 7) j = w_ei w2 (w_ar ws (n_v vs 0) 7) j := fun j => s2.1 _ _
  have hE_0_8_1 : ∀ j : Int, w_ei ws (w_ar ws (n_v vs 0) 8) j = w_ei w1 (w_ar ws (n_v vs 0) 8) j := fun j => s1.1 _ _
  have hE_0_8_2 : ∀ j : Int, w_ei w1 (w_ar ws (n_v vs 0) 8) j = w_ei w2 (w_ar ws (n_v vs 0) 8) j := fun j => s2.1 _ _
  have hE_0_14_1 : ∀ j : Int, w_ei ws (w_ar ws (n_v vs 0) 14) j = w_ei w1 (w_ar ws (n_v vs 0) 14) j := fun j => s1.1 _ _
  have hE_0_14_2 : ∀ j : Int, w_ei w1 (w_ar ws (n_v vs 0) 14) j = w_ei w2 (w_ar ws (n_v vs 0) 14) j := fun j => s2.1 _ _
  have hE_0_16_1 : ∀ j : Int, w_ei ws (w_ar ws (n_v vs 0) 16) j = w_ei w1 (w_ar ws (n_v vs 0) 16) j := fun j => s1.1 _ _
  have hE_0_16_2 : ∀ j : Int, w_ei w1 (w_ar ws (n_v vs 0) 16) j = w_ei w2 (w_ar ws (n_v vs 0) 16) j := fun j => s2.1 _ _
  have kz_0_0 := fdq_21 hD hth r0
  have kz_0_1 := fdq_30 hD hth r0
  have kz_0_17 := fdq_288 hD hth r0
  have nf0 : fc_1 PRD (20, [0, 15], [60, 0, 1, 737, 16]) ws (vs) := ⟨nf_in hl rfl, sgq_850 (vc_Gr_alter_at_kx_2_0 (v_iv (n_v vs 11)) (v_iv (n_v vs 15)) (w_fi ws (n_v vs 0) 0) (w_fi ws (n_v vs 0) 1) (w_fi ws (n_v vs 0) 17) (w_ei ws (w_ar ws (n_v vs 0) 16)) (w_ei ws (w_ar ws (n_v vs 0) 14)) (w_ei ws (w_ar ws (n_v vs 0) 7)) (w_ei ws (w_ar ws (n_v vs 0) 8)) (w_ei w1 (w_ar ws (n_v vs 0) 16)) (w_ei w1 (w_ar ws (n_v vs 0) 14)) (w_ei w1 (w_ar ws (n_v vs 0) 7)) (w_ei w1 (w_ar ws (n_v vs 0) 8)) (w_fi w1 (n_v vs 0) 0) (w_fi w1 (n_v vs 0) 1) (w_ei w2 (w_ar ws (n_v vs 0) 16)) (w_fi w2 (n_v vs 0) 18) (w_ei w2 (w_ar ws (n_v vs 0) 14)) (w_ei w2 (w_ar ws (n_v vs 0) 7)) (w_ei w2 (w_ar ws (n_v vs 0) 8)) (w_fi w2 (n_v vs 0) 0) (w_fi w2 (n_v vs 0) 1) (w_fi w1 (n_v vs 0) 17) (w_fi w1 (n_v vs 0) 18) k11 k15 d0 f18 fe_0_0_1 fe_0_1_1 fe_0_17_1 fe_0_0_2 fe_0_1_2 fe_0_18_2 hE_0_7_1 hE_0_7_2 hE_0_8_1 hE_0_8_2 hE_0_14_1 hE_0_14_2 hE_0_16_1 hE_0_16_2 kz_0_0 kz_0_1 kz_0_17)⟩
  refine ⟨(fun _ h => (by cases h)), [], trivial, ?_, (fun _ h => (by cases h))⟩
  rw [List.append_nil]
  exact List.forall_mem_cons.mpr ⟨⟨show (20 : Nat) < 100 from by decide, nf0⟩, (fun _ h => (by cases h))⟩
set_option maxHeartbeats 4000000 in
theorem vc_Gr_alter_at_kx_3_0 (x11 : Int) (x15 : Int) (x16 : Int) (undone_0 : Int) (done_0 : Int) (k11 : 0 ≤ x11 ∧ x11 ≤ 29) (k15 : 1 ≤ x15 ∧ x15 ≤ 30) (k16 : 0 ≤ x16 ∧ x16 ≤ 0) (d0 : x11 + 1 ≤ x15 ∧ x15 ≤ x11 + 1) (g0 : x16 = undone_0) (g1 : x15 = done_0) (kz_0_17 : 0 ≤ done_0 ∧ done_0 ≤ 30) (kz_0_18 : 0 ≤ undone_0 ∧ undone_0 ≤ 30) : (done_0 + undone_0) ≤ 30 := by
  first
    | omega
  
set_option maxHeartbeats 4000000 in
theorem vc_Gr_alter_at_kx_3_1 (x15 : Int) (x16 : Int) (undone_0 : Int) (done_0 : Int) (past_0 : Int → Int) (k15 : 1 ≤ x15 ∧ x15 ≤ 30) (k16 : 0 ≤ x16 ∧ x16 ≤ 0) (g0 : x16 = undone_0) (g1 : x15 = done_0) (f8 : PRI (past_0) (x15)) (kz_0_17 : 0 ≤ done_0 ∧ done_0 ≤ 30) (kz_0_18 : 0 ≤ undone_0 ∧ undone_0 ≤ 30) : PDQ (done_0) (undone_0) (past_0) := by
  first
    | assumption
    | exact pri_pdq ‹PRI _ _› (by omega) (by omega)
  
def o_Gr_alter_at_kx_3 : or_T := (87, 17, [(0, (2, 0, 0, [3])), (5, (0, 0, 24, [])), (6, (0, 0, 48, [])), (7, (2, 0, 0, [52])), (8, (2, 0, 0, [53])), (10, (2, 0, 0, [61])), (11, (0, 0, 29, [])), (13, (0, 30, 30, [])), (14, (0, 1, 1, [])), (15, (0, 1, 30, [])), (16, (0, 0, 0, []))], [(9, [16, 0], [18]), (9, [15, 0], [17]), (9, [5, 0], [0]), (9, [6, 0], [1]), (9, [7, 0], [7]), (9, [8, 0], [8]), (9, [10, 0], [16]), (20, [0], [60, 2, 3, 670, 0, 1, 14, 7, 8]), (20, [0, 15], [60, 0, 1, 738, 16]), (20, [0], [60, 2, 2, 596, 0, 1, 7, 8]), (102, [16], [2305843009213693952]), (101, [0, 16], [18]), (101, [0, 15], [17]), (1, [15, 11, 14], []), (7, [11, 13], [1]), (102, [11], [381944245562716141175333566576758405197150323812363046994276334253946495506784008380874752, 3000, 3001]), (102, [11], [2305843009213693952]), (101, [0, 10], [16])], [], [], [(20, [0], [50, 2, 0, 17, 18, 0, 8, 4, 3, 2, 0, 17, 2, 0, 18, 0, 30]), (20, [0], [60, 2, 1, 739, 17, 18, 16])], [], [(15, 11, 1, 1)])
theorem oo_Gr_alter_at_kx_3 {kA : Nat → ClassId} : or_ok PRD kA GG o_Gr_alter_at_kx_3 := by
  refine or_mk fun A ta ws vs hD hth hl => ?_
  intro t0 r0 t5 k5 t6 k6 t7 r7 t8 r8 t10 r10 t11 k11 t13 k13 t14 k14 t15 k15 t16 k16 d0 f0 f1 f2 f3 f4 f5 f6 f7 f8 f9 ta1 w1 le1 s1 ta2 w2 le2 s2 ta3 w3 le3 s3 f13 f14 ta4 w4 le4 s4 ta5 w5 le5 s5 ta6 w6 le6 s6
  replace f0 := shm_799 f0
  replace f1 := shm_795 f1
  have g0 : v_iv (n_v vs 16) = w_fi ws (n_v vs 0) 18 := congrArg v_iv f0
  have g1 : v_iv (n_v vs 15) = w_fi ws (n_v vs 0) 17 := congrArg v_iv f1
  have kz_0_17 := fdq_288 hD hth r0
  have kz_0_18 := fdq_289 hD hth r0
  have nf0 : fc_1 PRD (20, [0], [50, 2, 0, 17, 18, 0, 8, 4, 3, 2, 0, 17, 2, 0, 18, 0, 30]) ws (vs) := ⟨nf_in hl rfl, sgq_1511 (vc_Gr_alter_at_kx_3_0 (v_iv (n_v vs 11)) (v_iv (n_v vs 15)) (v_iv (n_v vs 16)) (w_fi ws (n_v vs 0) 18) (w_fi ws (n_v vs 0) 17) k11 k15 k16 d0 g0 g1 kz_0_17 kz_0_18)⟩
  have nf1 : fc_1 PRD (20, [0], [60, 2, 1, 739, 17, 18, 16]) ws (vs) := ⟨nf_in hl rfl, sgq_1361 (vc_Gr_alter_at_kx_3_1 (v_iv (n_v vs 15)) (v_iv (n_v vs 16)) (w_fi ws (n_v vs 0) 18) (w_fi ws (n_v vs 0) 17) (w_ei ws (w_ar ws (n_v vs 0) 16)) k15 k16 g0 g1 (shm_855 f8) kz_0_17 kz_0_18)⟩
  refine ⟨(fun _ h => (by cases h)), [], trivial, ?_, (fun _ h => (by cases h))⟩
  rw [List.append_nil]
  exact List.forall_mem_cons.mpr ⟨⟨show (20 : Nat) < 100 from by decide, nf0⟩, List.forall_mem_cons.mpr ⟨⟨show (20 : Nat) < 100 from by decide, nf1⟩, (fun _ h => (by cases h))⟩⟩
set_option maxHeartbeats 4000000 in
theorem vc_Gr_alter_at_kx_4_0 (x14 : Int) (x16 : Int) (k14 : 122 ≤ x14 ∧ x14 ≤ 122) (k16 : 3660 ≤ x16 ∧ x16 ≤ 3660) : x14 + x16 ≤ 3782 := by
  first
    | omega
  
set_option maxHeartbeats 4000000 in
theorem vc_Gr_alter_at_kx_4_1 (x15 : Int) (x16 : Int) (k15 : 0 ≤ x15 ∧ x15 ≤ 0) (k16 : 3660 ≤ x16 ∧ x16 ≤ 3660) : x15 + x16 ≤ 3782 := by
  first
    | omega
  
set_option maxHeartbeats 4000000 in
theorem vc_Gr_alter_at_kx_4_2 (x11 : Int) (x14 : Int) (x15 : Int) (x16 : Int) (a10_0 : Int → Int) (k11 : 30 ≤ x11 ∧ x11 ≤ 30) (k14 : 122 ≤ x14 ∧ x14 ≤ 122) (k15 : 0 ≤ x15 ∧ x15 ≤ 0) (k16 : 3660 ≤ x16 ∧ x16 ≤ 3660) (f6 : PNI (a10_0) (x11)) : MV1 (a10_0) (a10_0) (x14) (x15) (x16) := by
  first
    | exact ⟨by omega, by omega, by omega, fun r a b => (‹PNI _ _›) r a (by omega)⟩
  
def o_Gr_alter_at_kx_4 : or_T := (56, 17, [(0, (2, 0, 0, [3])), (5, (0, 0, 24, [])), (6, (0, 0, 48, [])), (7, (2, 0, 0, [52])), (8, (2, 0, 0, [53])), (10, (2, 0, 0, [61])), (11, (0, 30, 30, [])), (13, (0, 30, 30, [])), (14, (0, 122, 122, [])), (15, (0, 0, 0, [])), (16, (0, 3660, 3660, []))], [(9, [5, 0], [0]), (9, [6, 0], [1]), (9, [7, 0], [7]), (9, [8, 0], [8]), (7, [11, 13], [0]), (9, [11, 0], [17]), (20, [10, 11], [61, 1, 762]), (20, [0], [50, 2, 0, 17, 18, 0, 8, 4, 3, 2, 0, 17, 2, 0, 18, 0, 30]), (20, [0], [60, 2, 3, 670, 0, 1, 14, 7, 8]), (20, [0], [60, 2, 2, 596, 0, 1, 7, 8])], [], [], [(21, [14, 16], [3782]), (21, [15, 16], [3782]), (20, [10, 10, 14, 15, 16], [61, 2, 763])], [], [])
theorem oo_Gr_alter_at_kx_4 {kA : Nat → ClassId} : or_ok PRD kA GG o_Gr_alter_at_kx_4 := by
  refine or_mk fun A ta ws vs hD hth hl => ?_
  intro t0 r0 t5 k5 t6 k6 t7 r7 t8 r8 t10 r10 t11 k11 t13 k13 t14 k14 t15 k15 t16 k16 f0 f1 f2 f3 f4 f5 f6 f7 f8 f9
  have nf0 : fc_1 PRD (21, [14, 16], [3782]) ws (vs) := ⟨nf_in hl rfl, sgq_1833 (vc_Gr_alter_at_kx_4_0 (v_iv (n_v vs 14)) (v_iv (n_v vs 16)) k14 k16)⟩
  have nf1 : fc_1 PRD (21, [15, 16], [3782]) ws (vs) := ⟨nf_in hl rfl, sgq_1833 (vc_Gr_alter_at_kx_4_1 (v_iv (n_v vs 15)) (v_iv (n_v vs 16)) k15 k16)⟩
  have nf2 : fc_1 PRD (20, [10, 10, 14, 15, 16], [61, 2, 763]) ws (vs) := ⟨nf_in hl rfl, sgq_1834 (vc_Gr_alter_at_kx_4_2 (v_iv (n_v vs 11)) (v_iv (n_v vs 14)) (v_iv (n_v vs 15)) (v_iv (n_v vs 16)) (w_ei ws (v_ad (n_v vs 10))) k11 k14 k15 k16 (shm_1832 f6))⟩
  refine ⟨(fun _ h => (by cases h)), [], trivial, ?_, (fun _ h => (by cases h))⟩
  rw [List.append_nil]
  exact List.forall_mem_cons.mpr ⟨⟨show (21 : Nat) < 100 from by decide, nf0⟩, List.forall_mem_cons.mpr ⟨⟨show (21 : Nat) < 100 from by decide, nf1⟩, List.forall_mem_cons.mpr ⟨⟨show (20 : Nat) < 100 from by decide, nf2⟩, (fun _ h => (by cases h))⟩⟩⟩
set_option maxHeartbeats 4000000 in
theorem vc_Gr_alter_at_kx_5_0 (x11 : Int) (x14 : Int) (x15 : Int) (x16 : Int) (nodes_0 : Int) (edges_0 : Int) (done_0 : Int) (near_0 : Int → Int) (tail_0 : Int → Int) (head_0 : Int → Int) (past_0 : Int → Int) (done_1 : Int) (near_1 : Int → Int) (tail_1 : Int → Int) (head_1 : Int → Int) (nodes_1 : Int) (edges_1 : Int) (past_1 : Int → Int) (k11 : 30 ≤ x11 ∧ x11 ≤ 30) (k14 : 122 ≤ x14 ∧ x14 ≤ 122) (k15 : 0 ≤ x15 ∧ x15 ≤ 0) (k16 : 3660 ≤ x16 ∧ x16 ≤ 3660) (f18 : MV2 (past_1) (past_1) (x14) (x15) (x16)) (fe_0_0_1 : nodes_0 = nodes_1) (fe_0_1_1 : edges_0 = edges_1) (fe_0_17_1 : done_0 = done_1) (hE_0_7_1 : ∀ j : Int, tail_0 j = tail_1 j) (hE_0_8_1 : ∀ j : Int, head_0 j = head_1 j) (hE_0_14_1 : ∀ j : Int, near_0 j = near_1 j) (hE_0_16_1 : ∀ j : Int, past_0 j = past_1 j) (kz_0_0 : 0 ≤ nodes_0 ∧ nodes_0 ≤ 24) (kz_0_1 : 0 ≤ edges_0 ∧ edges_0 ≤ 48) (kz_0_17 : 0 ≤ done_0 ∧ done_0 ≤ 30) : PRO (past_0) (x11) := by
  subst fe_0_0_1
  subst fe_0_1_1
  subst fe_0_17_1
  have e_hE_0_7_1 := funext hE_0_7_1; subst e_hE_0_7_1
  have e_hE_0_8_1 := funext hE_0_8_1; subst e_hE_0_8_1
  have e_hE_0_14_1 := funext hE_0_14_1; subst e_hE_0_14_1
  have e_hE_0_16_1 := funext hE_0_16_1; subst e_hE_0_16_1
  first
    | exact pro_pdq ‹PDQ _ _ _› (by omega) (by omega)
    | exact pri_pro ‹PNI _ _› (by omega)
    | (have q := (‹MV2 _ _ _ _ _›); exact fun r a b => q r a (by omega))
    | exact pro_zero (by omega) (fun j a b => by have q := hT10 j a (by omega); omega)
  
def o_Gr_alter_at_kx_5 : or_T := (82, 18, [(0, (2, 0, 0, [3])), (5, (0, 0, 24, [])), (6, (0, 0, 48, [])), (7, (2, 0, 0, [52])), (8, (2, 0, 0, [53])), (10, (2, 0, 0, [61])), (11, (0, 30, 30, [])), (13, (0, 30, 30, [])), (14, (0, 122, 122, [])), (15, (0, 0, 0, [])), (16, (0, 3660, 3660, [])), (17, (0, 0, 0, []))], [(9, [17, 0], [18]), (9, [5, 0], [0]), (9, [6, 0], [1]), (9, [7, 0], [7]), (9, [8, 0], [8]), (9, [10, 0], [16]), (9, [11, 0], [17]), (21, [14, 16], [3782]), (21, [15, 16], [3782]), (20, [0], [60, 2, 3, 670, 0, 1, 14, 7, 8]), (20, [0], [60, 2, 2, 596, 0, 1, 7, 8]), (20, [10, 10, 14, 15, 16], [61, 2, 764]), (101, [0, 17], [18]), (21, [14, 16], [3782]), (21, [15, 16], [3782]), (20, [0], [50, 2, 0, 17, 18, 0, 8, 4, 3, 2, 0, 17, 2, 0, 18, 0, 30]), (20, [0], [60, 2, 3, 670, 0, 1, 14, 7, 8]), (20, [0], [60, 2, 2, 596, 0, 1, 7, 8]), (20, [10, 10, 14, 15, 16], [61, 2, 764]), (102, [16], [2305843009213693952]), (21, [14, 16], [3782]), (21, [15, 16], [3782]), (7, [11, 13], [0]), (102, [11], [381944245562716141175333566576758405197150323812363046994276334253946495506784008380874752, 3000, 3001]), (102, [11], [2305843009213693952]), (101, [0, 10], [16])], [], [], [(20, [0, 11], [60, 0, 1, 737, 16])], [], [])
theorem oo_Gr_alter_at_kx_5 {kA : Nat → ClassId} : or_ok PRD kA GG o_Gr_alter_at_kx_5 := by
  refine or_mk fun A ta ws vs hD hth hl => ?_
  intro t0 r0 t5 k5 t6 k6 t7 r7 t8 r8 t10 r10 t11 k11 t13 k13 t14 k14 t15 k15 t16 k16 t17 k17 f0 f1 f2 f3 f4 f5 f6 f7 f8 f9 f10 f11 ta1 w1 le1 s1 f13 f14 f15 f16 f17 f18 ta2 w2 le2 s2 f20 f21 f22 ta3 w3 le3 s3 ta4 w4 le4 s4 ta5 w5 le5 s5
  replace f5 := shm_176 f5
  have s1 : (∀ b j, w_el ws b j = w_el w1 b j) ∧ ∀ b j, w_fd ws b j = if b = v_ad (n_v vs 0) ∧ j = 18 then n_v vs 17 else w_fd w1 b j := s1.2
  replace f18 := shm_1835 f18
  have ar_0_7_1 : w_ar w1 (n_v vs 0) 7 = w_ar ws (n_v vs 0) 7 := by show v_ad (w_fd w1 _ _) = v_ad (w_fd ws _ _); rw [s1.2, if_neg (fun e => absurd e.2 (by decide))]
  have ar_0_8_1 : w_ar w1 (n_v vs 0) 8 = w_ar ws (n_v vs 0) 8 := by show v_ad (w_fd w1 _ _) = v_ad (w_fd ws _ _); rw [s1.2, if_neg (fun e => absurd e.2 (by decide))]
  have ar_0_14_1 : w_ar w1 (n_v vs 0) 14 = w_ar ws (n_v vs 0) 14 := by show v_ad (w_fd w1 _ _) = v_ad (w_fd ws _ _); rw [s1.2, if_neg (fun e => absurd e.2 (by decide))]
  have ad_10 : v_ad (n_v vs 10) = w_ar ws (n_v vs 0) 16 := congrArg v_ad f5
  simp only [ad_10, ar_0_7_1, ar_0_8_1, ar_0_14_1] at f18
  have fe_0_0_1 : w_fi ws (n_v vs 0) 0 = w_fi w1 (n_v vs 0) 0 := by show v_iv (w_fd _ _ _) = v_iv (w_fd _ _ _); rw [s1.2, if_neg (fun e => absurd e.2 (by decide))]
  have fe_0_1_1 : w_fi ws (n_v vs 0) 1 = w_fi w1 (n_v vs 0) 1 := by show v_iv (w_fd _ _ _) = v_iv (w_fd _ _ _); rw [s1.2, if_neg (fun e => absurd e.2 (by decide))]
  have fe_0_17_1 : w_fi ws (n_v vs 0) 17 = w_fi w1 (n_v vs 0) 17 := by show v_iv (w_fd _ _ _) = v_iv (w_fd _ _ _); rw [s1.2, if_neg (fun e => absurd e.2 (by decide))]
  have hE_0_7_1 : ∀ j : Int, w_ei ws (w_ar ws (n_v vs 0) 7) j = w_ei w1 (w_ar ws (n_v vs 0) 7) j := fun j => s1.1 _ _
  have hE_0_8_1 : ∀ j : Int, w_ei ws (w_ar ws (n_v vs 0) 8) j = w_ei w1 (w_ar ws (n_v vs 0) 8) j := fun j => s1.1 _ _
  have hE_0_14_1 : ∀ j : Int, w_ei ws (w_ar ws (n_v vs 0) 14) j = w_ei w1 (w_ar ws (n_v vs 0) 14) j := fun j => s1.1 _ _
  have hE_0_16_1 : ∀ j : Int, w_ei ws (w_ar ws (n_v vs 0) 16) j = w_ei w1 (w_ar ws (n_v vs 0) 16) j := fun j => s1.1 _ _
  have kz_0_0 := fdq_21 hD hth r0
  have kz_0_1 := fdq_30 hD hth r0
  have kz_0_17 := fdq_288 hD hth r0
  have nf0 : fc_1 PRD (20, [0, 11], [60, 0, 1, 737, 16]) ws (vs) := ⟨nf_in hl rfl, sgq_850 (vc_Gr_alter_at_kx_5_0 (v_iv (n_v vs 11)) (v_iv (n_v vs 14)) (v_iv (n_v vs 15)) (v_iv (n_v vs 16)) (w_fi ws (n_v vs 0) 0) (w_fi ws (n_v vs 0) 1) (w_fi ws (n_v vs 0) 17) (w_ei ws (w_ar ws (n_v vs 0) 14)) (w_ei ws (w_ar ws (n_v vs 0) 7)) (w_ei ws (w_ar ws (n_v vs 0) 8)) (w_ei ws (w_ar ws (n_v vs 0) 16)) (w_fi w1 (n_v vs 0) 17) (w_ei w1 (w_ar ws (n_v vs 0) 14)) (w_ei w1 (w_ar ws (n_v vs 0) 7)) (w_ei w1 (w_ar ws (n_v vs 0) 8)) (w_fi w1 (n_v vs 0) 0) (w_fi w1 (n_v vs 0) 1) (w_ei w1 (w_ar ws (n_v vs 0) 16)) k11 k14 k15 k16 f18 fe_0_0_1 fe_0_1_1 fe_0_17_1 hE_0_7_1 hE_0_8_1 hE_0_14_1 hE_0_16_1 kz_0_0 kz_0_1 kz_0_17)⟩
  refine ⟨(fun _ h => (by cases h)), [], trivial, ?_, (fun _ h => (by cases h))⟩
  rw [List.append_nil]
  exact List.forall_mem_cons.mpr ⟨⟨show (20 : Nat) < 100 from by decide, nf0⟩, (fun _ h => (by cases h))⟩
set_option maxHeartbeats 4000000 in
theorem vc_Gr_alter_at_kx_6_0 (x11 : Int) (x17 : Int) (undone_0 : Int) (done_0 : Int) (k11 : 30 ≤ x11 ∧ x11 ≤ 30) (k17 : 0 ≤ x17 ∧ x17 ≤ 0) (g0 : x17 = undone_0) (g5 : x11 = done_0) (kz_0_17 : 0 ≤ done_0 ∧ done_0 ≤ 30) (kz_0_18 : 0 ≤ undone_0 ∧ undone_0 ≤ 30) : (done_0 + undone_0) ≤ 30 := by
  first
    | omega
  
set_option maxHeartbeats 4000000 in
theorem vc_Gr_alter_at_kx_6_1 (x11 : Int) (x17 : Int) (undone_0 : Int) (done_0 : Int) (past_0 : Int → Int) (k11 : 30 ≤ x11 ∧ x11 ≤ 30) (k17 : 0 ≤ x17 ∧ x17 ≤ 0) (g0 : x17 = undone_0) (g5 : x11 = done_0) (f8 : PRI (past_0) (x11)) (kz_0_17 : 0 ≤ done_0 ∧ done_0 ≤ 30) (kz_0_18 : 0 ≤ undone_0 ∧ undone_0 ≤ 30) : PDQ (done_0) (undone_0) (past_0) := by
  first
    | assumption
    | exact pri_pdq ‹PRI _ _› (by omega) (by omega)
  
def o_Gr_alter_at_kx_6 : or_T := (87, 18, [(0, (2, 0, 0, [3])), (5, (0, 0, 24, [])), (6, (0, 0, 48, [])), (7, (2, 0, 0, [52])), (8, (2, 0, 0, [53])), (10, (2, 0, 0, [61])), (11, (0, 30, 30, [])), (13, (0, 30, 30, [])), (17, (0, 0, 0, []))], [(9, [17, 0], [18]), (9, [5, 0], [0]), (9, [6, 0], [1]), (9, [7, 0], [7]), (9, [8, 0], [8]), (9, [11, 0], [17]), (9, [10, 0], [16]), (20, [0], [60, 2, 3, 670, 0, 1, 14, 7, 8]), (20, [0, 11], [60, 0, 1, 738, 16]), (20, [0], [60, 2, 2, 596, 0, 1, 7, 8]), (102, [17], [2305843009213693952]), (101, [0, 17], [18]), (102, [16], [2305843009213693952]), (7, [11, 13], [0]), (102, [11], [381944245562716141175333566576758405197150323812363046994276334253946495506784008380874752, 3000, 3001]), (102, [11], [2305843009213693952]), (101, [0, 10], [16])], [], [], [(20, [0], [50, 2, 0, 17, 18, 0, 8, 4, 3, 2, 0, 17, 2, 0, 18, 0, 30]), (20, [0], [60, 2, 1, 739, 17, 18, 16])], [], [])
theorem oo_Gr_alter_at_kx_6 {kA : Nat → ClassId} : or_ok PRD kA GG o_Gr_alter_at_kx_6 := by
  refine or_mk fun A ta ws vs hD hth hl => ?_
  intro t0 r0 t5 k5 t6 k6 t7 r7 t8 r8 t10 r10 t11 k11 t13 k13 t17 k17 f0 f1 f2 f3 f4 f5 f6 f7 f8 f9 ta1 w1 le1 s1 ta2 w2 le2 s2 ta3 w3 le3 s3 f13 ta4 w4 le4 s4 ta5 w5 le5 s5 ta6 w6 le6 s6
  replace f0 := shm_799 f0
  replace f5 := shm_795 f5
  have g0 : v_iv (n_v vs 17) = w_fi ws (n_v vs 0) 18 := congrArg v_iv f0
  have g5 : v_iv (n_v vs 11) = w_fi ws (n_v vs 0) 17 := congrArg v_iv f5
  have kz_0_17 := fdq_288 hD hth r0
  have kz_0_18 := fdq_289 hD hth r0
  have nf0 : fc_1 PRD (20, [0], [50, 2, 0, 17, 18, 0, 8, 4, 3, 2, 0, 17, 2, 0, 18, 0, 30]) ws (vs) := ⟨nf_in hl rfl, sgq_1511 (vc_Gr_alter_at_kx_6_0 (v_iv (n_v vs 11)) (v_iv (n_v vs 17)) (w_fi ws (n_v vs 0) 18) (w_fi ws (n_v vs 0) 17) k11 k17 g0 g5 kz_0_17 kz_0_18)⟩
  have nf1 : fc_1 PRD (20, [0], [60, 2, 1, 739, 17, 18, 16]) ws (vs) := ⟨nf_in hl rfl, sgq_1361 (vc_Gr_alter_at_kx_6_1 (v_iv (n_v vs 11)) (v_iv (n_v vs 17)) (w_fi ws (n_v vs 0) 18) (w_fi ws (n_v vs 0) 17) (w_ei ws (w_ar ws (n_v vs 0) 16)) k11 k17 g0 g5 (shm_855 f8) kz_0_17 kz_0_18)⟩
  refine ⟨(fun _ h => (by cases h)), [], trivial, ?_, (fun _ h => (by cases h))⟩
  rw [List.append_nil]
  exact List.forall_mem_cons.mpr ⟨⟨show (20 : Nat) < 100 from by decide, nf0⟩, List.forall_mem_cons.mpr ⟨⟨show (20 : Nat) < 100 from by decide, nf1⟩, (fun _ h => (by cases h))⟩⟩
set_option maxHeartbeats 4000000 in
theorem vc_Gr_alter_at_kx_7_0 (x11 : Int) (x15 : Int) (nodes_0 : Int) (edges_0 : Int) (done_0 : Int) (past_0 : Int → Int) (near_0 : Int → Int) (tail_0 : Int → Int) (head_0 : Int → Int) (past_1 : Int → Int) (near_1 : Int → Int) (tail_1 : Int → Int) (head_1 : Int → Int) (nodes_1 : Int) (edges_1 : Int) (past_2 : Int → Int) (undone_2 : Int) (near_2 : Int → Int) (tail_2 : Int → Int) (head_2 : Int → Int) (nodes_2 : Int) (edges_2 : Int) (done_1 : Int) (undone_1 : Int) (k11 : 0 ≤ x11 ∧ x11 ≤ 29) (k15 : 1 ≤ x15 ∧ x15 ≤ 30) (d0 : x11 + 1 ≤ x15 ∧ x15 ≤ x11 + 1) (f18 : PNI (past_2) (x11)) (fe_0_0_1 : nodes_0 = nodes_1) (fe_0_1_1 : edges_0 = edges_1) (fe_0_17_1 : done_0 = done_1) (fe_0_0_2 : nodes_1 = nodes_2) (fe_0_1_2 : edges_1 = edges_2) (fe_0_18_2 : undone_1 = undone_2) (hE_0_7_1 : ∀ j : Int, tail_0 j = tail_1 j) (hE_0_7_2 : ∀ j : Int, tail_1 j = tail_2 j) (hE_0_8_1 : ∀ j : Int, head_0 j = head_1 j) (hE_0_8_2 : ∀ j : Int, head_1 j = head_2 j) (hE_0_14_1 : ∀ j : Int, near_0 j = near_1 j) (hE_0_14_2 : ∀ j : Int, near_1 j = near_2 j) (hE_0_16_1 : ∀ j : Int, past_0 j = past_1 j) (hE_0_16_2 : ∀ j : Int, past_1 j = past_2 j) (kz_0_0 : 0 ≤ nodes_0 ∧ nodes_0 ≤ 24) (kz_0_1 : 0 ≤ edges_0 ∧ edges_0 ≤ 48) (kz_0_17 : 0 ≤ done_0 ∧ done_0 ≤ 30) : PRO (past_0) (x15) := by
  subst fe_0_0_1
  subst fe_0_1_1
  subst fe_0_17_1
  subst fe_0_0_2
  subst fe_0_1_2
  subst fe_0_18_2
  have e_hE_0_7_1 := funext hE_0_7_1; subst e_hE_0_7_1
  have e_hE_0_7_2 := funext hE_0_7_2; subst e_hE_0_7_2
  have e_hE_0_8_1 := funext hE_0_8_1; subst e_hE_0_8_1
  have e_hE_0_8_2 := funext hE_0_8_2; subst e_hE_0_8_2
  have e_hE_0_14_1 := funext hE_0_14_1; subst e_hE_0_14_1
  have e_hE_0_14_2 := funext hE_0_14_2; subst e_hE_0_14_2
  have e_hE_0_16_1 := funext hE_0_16_1; subst e_hE_0_16_1
  have e_hE_0_16_2 := funext hE_0_16_2; subst e_hE_0_16_2
  first
    | exact pro_pdq ‹PDQ _ _ _› (by omega) (by omega)
    | exact pri_pro ‹PNI _ _› (by omega)
    | (have q := (‹MV2 _ _ _ _ _›); exact fun r a b => q r a (by omega))
    | exact pro_zero (by omega) (fun j a b => by have q := hT10 j a (by omega); omega)
  
def o_Gr_alter_at_kx_7 : or_T := (82, 17, [(0, (2, 0, 0, [3])), (6, (0, 0, 48, [])), (7, (2, 0, 0, [52])), (8, (2, 0, 0, [53])), (10, (2, 0, 0, [61])), (11, (0, 0, 29, [])), (12, (0, 1, 24, [])), (13, (0, 30, 30, [])), (14, (0, 1, 1, [])), (15, (0, 1, 30, [])), (16, (0, 0, 0, []))], [(9, [16, 0], [18]), (9, [12, 0], [0]), (9, [6, 0], [1]), (9, [7, 0], [7]), (9, [8, 0], [8]), (9, [10, 0], [16]), (9, [15, 0], [17]), (20, [10, 11], [61, 1, 762]), (20, [0], [60, 2, 3, 670, 0, 1, 14, 7, 8]), (20, [0], [60, 2, 2, 596, 0, 1, 7, 8]), (101, [0, 16], [18]), (20, [10, 11], [61, 1, 762]), (20, [0], [60, 2, 3, 670, 0, 1, 14, 7, 8]), (20, [0], [60, 2, 2, 596, 0, 1, 7, 8]), (101, [0, 15], [17]), (1, [15, 11, 14], []), (9, [11, 0], [17]), (7, [11, 13], [1]), (20, [10, 11], [61, 1, 762]), (20, [0], [50, 2, 0, 17, 18, 0, 8, 4, 3, 2, 0, 17, 2, 0, 18, 0, 30]), (20, [0], [60, 2, 3, 670, 0, 1, 14, 7, 8]), (20, [0], [60, 2, 2, 596, 0, 1, 7, 8]), (102, [11], [381944245562716141175333566576758405197150323812363046994276334253946495506784008380874752, 3000, 3001]), (102, [11], [2305843009213693952]), (101, [0, 10], [16])], [], [], [(20, [0, 15], [60, 0, 1, 737, 16])], [], [(15, 11, 1, 1)])
theorem oo_Gr_alter_at_kx_7 {kA : Nat → ClassId} : or_ok PRD kA GG o_Gr_alter_at_kx_7 := by
  refine or_mk fun A ta ws vs hD hth hl => ?_
  intro t0 r0 t6 k6 t7 r7 t8 r8 t10 r10 t11 k11 t12 k12 t13 k13 t14 k14 t15 k15 t16 k16 d0 f0 f1 f2 f3 f4 f5 f6 f7 f8 f9 ta1 w1 le1 s1 f11 f12 f13 ta2 w2 le2 s2 f15 f16 f17 f18 f19 f20 f21 ta3 w3 le3 s3 ta4 w4 le4 s4 ta5 w5 le5 s5
  replace f5 := shm_176 f5
  have s1 : (∀ b j, w_el ws b j = w_el w1 b j) ∧ ∀ b j, w_fd ws b j = if b = v_ad (n_v vs 0) ∧ j = 18 then n_v vs 16 else w_fd w1 b j := s1.2
  have s2 : (∀ b j, w_el w1 b j = w_el w2 b j) ∧ ∀ b j, w_fd w1 b j = if b = v_ad (n_v vs 0) ∧ j = 17 then n_v vs 15 else w_fd w2 b j := s2.2
  replace f18 := shm_1832 f18
  have ar_0_7_1 : w_ar w1 (n_v vs 0) 7 = w_ar ws (n_v vs 0) 7 := by show v_ad (w_fd w1 _ _) = v_ad (w_fd ws _ _); rw [s1.2, if_neg (fun e => absurd e.2 (by decide))]
  have ar_0_7_2 : w_ar w2 (n_v vs 0) 7 = w_ar ws (n_v vs 0) 7 := by rw [← ar_0_7_1]; show v_ad (w_fd w2 _ _) = v_ad (w_fd w1 _ _); rw [s2.2, if_neg (fun e => absurd e.2 (by decide))]
  have ar_0_8_1 : w_ar w1 (n_v vs 0) 8 = w_ar ws (n_v vs 0) 8 := by show v_ad (w_fd w1 _ _) = v_ad (w_fd ws _ _); rw [s1.2, if_neg (fun e => absurd e.2 (by decide))]
  have ar_0_8_2 : w_ar w2 (n_v vs 0) 8 = w_ar ws (n_v vs 0) 8 := by rw [← ar_0_8_1]; show v_ad (w_fd w2 _ _) = v_ad (w_fd w1 _ _); rw [s2.2, if_neg (fun e => absurd e.2 (by decide))]
  have ar_0_14_1 : w_ar w1 (n_v vs 0) 14 = w_ar ws (n_v vs 0) 14 := by show v_ad (w_fd w1 _ _) = v_ad (w_fd ws _ _); rw [s1.2, if_neg (fun e => absurd e.2 (by decide))]
  have ar_0_14_2 : w_ar w2 (n_v vs 0) 14 = w_ar ws (n_v vs 0) 14 := by rw [← ar_0_14_1]; show v_ad (w_fd w2 _ _) = v_ad (w_fd w1 _ _); rw [s2.2, if_neg (fun e => absurd e.2 (by decide))]
  have ad_10 : v_ad (n_v vs 10) = w_ar ws (n_v vs 0) 16 := congrArg v_ad f5
  simp only [ad_10, ar_0_7_2, ar_0_8_2, ar_0_14_2] at f18
  have fe_0_0_1 : w_fi ws (n_v vs 0) 0 = w_fi w1 (n_v vs 0) 0 := by show v_iv (w_fd _ _ _) = v_iv (w_fd _ _ _); rw [s1.2, if_neg (fun e => absurd e.2 (by decide))]
  have fe_0_1_1 : w_fi ws (n_v vs 0) 1 = w_fi w1 (n_v vs 0) 1 := by show v_iv (w_fd _ _ _) = v_iv (w_fd _ _ _); rw [s1.2, if_neg (fun e => absurd e.2 (by decide))]
  have fe_0_17_1 : w_fi ws (n_v vs 0) 17 = w_fi w1 (n_v vs 0) 17 := by show v_iv (w_fd _ _ _) = v_iv (w_fd _ _ _); rw [s1.2, if_neg (fun e => absurd e.2 (by decide))]
  have fe_0_0_2 : w_fi w1 (n_v vs 0) 0 = w_fi w2 (n_v vs 0) 0 := by show v_iv (w_fd _ _ _) = v_iv (w_fd _ _ _); rw [s2.2, if_neg (fun e => absurd e.2 (by decide))]
  have fe_0_1_2 : w_fi w1 (n_v vs 0) 1 = w_fi w2 (n_v vs 0) 1 := by show v_iv (w_fd _ _ _) = v_iv (w_fd _ _ _); rw [s2.2, if_neg (fun e => absurd e.2 (by decide))]
  have fe_0_18_2 : w_fi w1 (n_v vs 0) 18 = w_fi w2 (n_v vs 0) 18 := by show v_iv (w_fd _ _ _) = v_iv (w_fd _ _ _); rw [s2.2, if_neg (fun e => absurd e.2 (by decide))]
  have hE_0_7_1 : ∀ j : Int, w_ei ws (w_ar ws (n_v vs 0) 7) j = w_ei w1 (w_ar ws (n_v vs 0) 7) j := fun j => s1.1 _ _
  have hE_0_7_2 : ∀ j : Int, w_ei w1 (w_ar ws (n_v vs 0) 7) j = w_ei w2 (w_ar ws (n_v vs 0) 7) j := fun j => s2.1 _ _
  have hE_0_8_1 : ∀ j : Int, w_ei ws (w_ar ws (n_v vs 0) 8) j = w_ei w1 (w_ar ws (n_v vs 0) 8) j := fun j => s1.1 _ _
  have hE_0_8_2 : ∀ j : Int, w_ei w1 (w_ar ws (n_v vs 0) 8) j = w_ei w2 (w_ar ws (n_v vs 0) 8) j := fun j => s2.1 _ _
  have hE_0_14_1 : ∀ j : Int, w_ei ws (w_ar ws (n_v vs 0) 14) j = w_ei w1 (w_ar ws (n_v vs 0) 14) j := fun j => s1.1 _ _
  have hE_0_14_2 : ∀ j : Int, w_ei w1 (w_ar ws (n_v vs 0) 14) j = w_ei w2 (w_ar ws (n_v vs 0) 14) j := fun j => s2.1 _ _
  have hE_0_16_1 : ∀ j : Int, w_ei ws (w_ar ws (n_v vs 0) 16) j = w_ei w1 (w_ar ws (n_v vs 0) 16) j := fun j => s1.1 _ _
  have hE_0_16_2 : ∀ j : Int, w_ei w1 (w_ar ws (n_v vs 0) 16) j = w_ei w2 (w_ar ws (n_v vs 0) 16) j := fun j => s2.1 _ _
  have kz_0_0 := fdq_21 hD hth r0
  have kz_0_1 := fdq_30 hD hth r0
  have kz_0_17 := fdq_288 hD hth r0
  have nf0 : fc_1 PRD (20, [0, 15], [60, 0, 1, 737, 16]) ws (vs) := ⟨nf_in hl rfl, sgq_850 (vc_Gr_alter_at_kx_7_0 (v_iv (n_v vs 11)) (v_iv (n_v vs 15)) (w_fi ws (n_v vs 0) 0) (w_fi ws (n_v vs 0) 1) (w_fi ws (n_v vs 0) 17) (w_ei ws (w_ar ws (n_v vs 0) 16)) (w_ei ws (w_ar ws (n_v vs 0) 14)) (w_ei ws (w_ar ws (n_v vs 0) 7)) (w_ei ws (w_ar ws (n_v vs 0) 8)) (w_ei w1 (w_ar ws (n_v vs 0) 16)) (w_ei w1 (w_ar ws (n_v vs 0) 14)) (w_ei w1 (w_ar ws (n_v vs 0) 7)) (w_ei w1 (w_ar ws (n_v vs 0) 8)) (w_fi w1 (n_v vs 0) 0) (w_fi w1 (n_v vs 0) 1) (w_ei w2 (w_ar ws (n_v vs 0) 16)) (w_fi w2 (n_v vs 0) 18) (w_ei w2 (w_ar ws (n_v vs 0) 14)) (w_ei w2 (w_ar ws (n_v vs 0) 7)) (w_ei w2 (w_ar ws (n_v vs 0) 8)) (w_fi w2 (n_v vs 0) 0) (w_fi w2 (n_v vs 0) 1) (w_fi w1 (n_v vs 0) 17) (w_fi w1 (n_v vs 0) 18) k11 k15 d0 f18 fe_0_0_1 fe_0_1_1 fe_0_17_1 fe_0_0_2 fe_0_1_2 fe_0_18_2 hE_0_7_1 hE_0_7_2 hE_0_8_1 hE_0_8_2 hE_0_14_1 hE_0_14_2 hE_0_16_1 hE_0_16_2 kz_0_0 kz_0_1 kz_0_17)⟩
  refine ⟨(fun _ h => (by cases h)), [], trivial, ?_, (fun _ h => (by cases h))⟩
  rw [List.append_nil]
  exact List.forall_mem_cons.mpr ⟨⟨show (20 : Nat) < 100 from by decide, nf0⟩, (fun _ h => (by cases h))⟩
set_option maxHeartbeats 4000000 in
theorem vc_Gr_alter_at_kx_8_0 (x15 : Int) (x16 : Int) (undone_0 : Int) (done_0 : Int) (k15 : 1 ≤ x15 ∧ x15 ≤ 30) (k16 : 0 ≤ x16 ∧ x16 ≤ 0) (g0 : x16 = undone_0) (g1 : x15 = done_0) (kz_0_17 : 0 ≤ done_0 ∧ done_0 ≤ 30) (kz_0_18 : 0 ≤ undone_0 ∧ undone_0 ≤ 30) : (done_0 + undone_0) ≤ 30 := by
  first
    | omega
  
set_option maxHeartbeats 4000000 in
theorem vc_Gr_alter_at_kx_8_1 (x15 : Int) (x16 : Int) (undone_0 : Int) (done_0 : Int) (past_0 : Int → Int) (k15 : 1 ≤ x15 ∧ x15 ≤ 30) (k16 : 0 ≤ x16 ∧ x16 ≤ 0) (g0 : x16 = undone_0) (g1 : x15 = done_0) (f8 : PRI (past_0) (x15)) (kz_0_17 : 0 ≤ done_0 ∧ done_0 ≤ 30) (kz_0_18 : 0 ≤ undone_0 ∧ undone_0 ≤ 30) : PDQ (done_0) (undone_0) (past_0) := by
  first
    | assumption
    | exact pri_pdq ‹PRI _ _› (by omega) (by omega)
  
def o_Gr_alter_at_kx_8 : or_T := (87, 17, [(0, (2, 0, 0, [3])), (6, (0, 0, 48, [])), (7, (2, 0, 0, [52])), (8, (2, 0, 0, [53])), (10, (2, 0, 0, [61])), (11, (0, 0, 29, [])), (12, (0, 1, 24, [])), (13, (0, 30, 30, [])), (14, (0, 1, 1, [])), (15, (0, 1, 30, [])), (16, (0, 0, 0, []))], [(9, [16, 0], [18]), (9, [15, 0], [17]), (9, [12, 0], [0]), (9, [6, 0], [1]), (9, [7, 0], [7]), (9, [8, 0], [8]), (9, [10, 0], [16]), (20, [0], [60, 2, 3, 670, 0, 1, 14, 7, 8]), (20, [0, 15], [60, 0, 1, 738, 16]), (20, [0], [60, 2, 2, 596, 0, 1, 7, 8]), (102, [16], [2305843009213693952]), (101, [0, 16], [18]), (101, [0, 15], [17]), (1, [15, 11, 14], []), (7, [11, 13], [1]), (102, [11], [381944245562716141175333566576758405197150323812363046994276334253946495506784008380874752, 3000, 3001]), (102, [11], [2305843009213693952]), (101, [0, 10], [16])], [], [], [(20, [0], [50, 2, 0, 17, 18, 0, 8, 4, 3, 2, 0, 17, 2, 0, 18, 0, 30]), (20, [0], [60, 2, 1, 739, 17, 18, 16])], [], [(15, 11, 1, 1)])
theorem oo_Gr_alter_at_kx_8 {kA : Nat → ClassId} : or_ok PRD kA GG o_Gr_alter_at_kx_8 := by
  refine or_mk fun A ta ws vs hD hth hl => ?_
  intro t0 r0 t6 k6 t7 r7 t8 r8 t10 r10 t11 k11 t12 k12 t13 k13 t14 k14 t15 k15 t16 k16 d0 f0 f1 f2 f3 f4 f5 f6 f7 f8 f9 ta1 w1 le1 s1 ta2 w2 le2 s2 ta3 w3 le3 s3 f13 f14 ta4 w4 le4 s4 ta5 w5 le5 s5 ta6 w6 le6 s6
  replace f0 := shm_799 f0
  replace f1 := shm_795 f1
  have g0 : v_iv (n_v vs 16) = w_fi ws (n_v vs 0) 18 := congrArg v_iv f0
  have g1 : v_iv (n_v vs 15) = w_fi ws (n_v vs 0) 17 := congrArg v_iv f1
  have kz_0_17 := fdq_288 hD hth r0
  have kz_0_18 := fdq_289 hD hth r0
  have nf0 : fc_1 PRD (20, [0], [50, 2, 0, 17, 18, 0, 8, 4, 3, 2, 0, 17, 2, 0, 18, 0, 30]) ws (vs) := ⟨nf_in hl rfl, sgq_1511 (vc_Gr_alter_at_kx_8_0 (v_iv (n_v vs 15)) (v_iv (n_v vs 16)) (w_fi ws (n_v vs 0) 18) (w_fi ws (n_v vs 0) 17) k15 k16 g0 g1 kz_0_17 kz_0_18)⟩
  have nf1 : fc_1 PRD (20, [0], [60, 2, 1, 739, 17, 18, 16]) ws (vs) := ⟨nf_in hl rfl, sgq_1361 (vc_Gr_alter_at_kx_8_1 (v_iv (n_v vs 15)) (v_iv (n_v vs 16)) (w_fi ws (n_v vs 0) 18) (w_fi ws (n_v vs 0) 17) (w_ei ws (w_ar ws (n_v vs 0) 16)) k15 k16 g0 g1 (shm_855 f8) kz_0_17 kz_0_18)⟩
  refine ⟨(fun _ h => (by cases h)), [], trivial, ?_, (fun _ h => (by cases h))⟩
  rw [List.append_nil]
  exact List.forall_mem_cons.mpr ⟨⟨show (20 : Nat) < 100 from by decide, nf0⟩, List.forall_mem_cons.mpr ⟨⟨show (20 : Nat) < 100 from by decide, nf1⟩, (fun _ h => (by cases h))⟩⟩
set_option maxHeartbeats 4000000 in
theorem vc_Gr_alter_at_kx_9_0 (x14 : Int) (x16 : Int) (k14 : 122 ≤ x14 ∧ x14 ≤ 122) (k16 : 3660 ≤ x16 ∧ x16 ≤ 3660) : x14 + x16 ≤ 3782 := by
  first
    | omega
  
set_option maxHeartbeats 4000000 in
theorem vc_Gr_alter_at_kx_9_1 (x15 : Int) (x16 : Int) (k15 : 0 ≤ x15 ∧ x15 ≤ 0) (k16 : 3660 ≤ x16 ∧ x16 ≤ 3660) : x15 + x16 ≤ 3782 := by
  first
    | omega
  
set_option maxHeartbeats 4000000 in
theorem vc_Gr_alter_at_kx_9_2 (x11 : Int) (x14 : Int) (x15 : Int) (x16 : Int) (a10_0 : Int → Int) (k11 : 30 ≤ x11 ∧ x11 ≤ 30) (k14 : 122 ≤ x14 ∧ x14 ≤ 122) (k15 : 0 ≤ x15 ∧ x15 ≤ 0) (k16 : 3660 ≤ x16 ∧ x16 ≤ 3660) (f6 : PNI (a10_0) (x11)) : MV1 (a10_0) (a10_0) (x14) (x15) (x16) := by
  first
    | exact ⟨by omega, by omega, by omega, fun r a b => (‹PNI _ _›) r a (by omega)⟩
  
def o_Gr_alter_at_kx_9 : or_T := (56, 17, [(0, (2, 0, 0, [3])), (6, (0, 0, 48, [])), (7, (2, 0, 0, [52])), (8, (2, 0, 0, [53])), (10, (2, 0, 0, [61])), (11, (0, 30, 30, [])), (12, (0, 1, 24, [])), (13, (0, 30, 30, [])), (14, (0, 122, 122, [])), (15, (0, 0, 0, [])), (16, (0, 3660, 3660, []))], [(9, [12, 0], [0]), (9, [6, 0], [1]), (9, [7, 0], [7]), (9, [8, 0], [8]), (7, [11, 13], [0]), (9, [11, 0], [17]), (20, [10, 11], [61, 1, 762]), (20, [0], [50, 2, 0, 17, 18, 0, 8, 4, 3, 2, 0, 17, 2, 0, 18, 0, 30]), (20, [0], [60, 2, 3, 670, 0, 1, 14, 7, 8]), (20, [0], [60, 2, 2, 596, 0, 1, 7, 8])], [], [], [(21, [14, 16], [3782]), (21, [15, 16], [3782]), (20, [10, 10, 14, 15, 16], [61, 2, 763])], [], [])
theorem oo_Gr_alter_at_kx_9 {kA : Nat → ClassId} : or_ok PRD kA GG o_Gr_alter_at_kx_9 := by
  refine or_mk fun A ta ws vs hD hth hl => ?_
  intro t0 r0 t6 k6 t7 r7 t8 r8 t10 r10 t11 k11 t12 k12 t13 k13 t14 k14 t15 k15 t16 k16 f0 f1 f2 f3 f4 f5 f6 f7 f8 f9
  have nf0 : fc_1 PRD (21, [14, 16], [3782]) ws (vs) := ⟨nf_in hl rfl, sgq_1833 (vc_Gr_alter_at_kx_9_0 (v_iv (n_v vs 14)) (v_iv (n_v vs 16)) k14 k16)⟩
  have nf1 : fc_1 PRD (21, [15, 16], [3782]) ws (vs) := ⟨nf_in hl rfl, sgq_1833 (vc_Gr_alter_at_kx_9_1 (v_iv (n_v vs 15)) (v_iv (n_v vs 16)) k15 k16)⟩
  have nf2 : fc_1 PRD (20, [10, 10, 14, 15, 16], [61, 2, 763]) ws (vs) := ⟨nf_in hl rfl, sgq_1834 (vc_Gr_alter_at_kx_9_2 (v_iv (n_v vs 11)) (v_iv (n_v vs 14)) (v_iv (n_v vs 15)) (v_iv (n_v vs 16)) (w_ei ws (v_ad (n_v vs 10))) k11 k14 k15 k16 (shm_1832 f6))⟩
  refine ⟨(fun _ h => (by cases h)), [], trivial, ?_, (fun _ h => (by cases h))⟩
  rw [List.append_nil]
  exact List.forall_mem_cons.mpr ⟨⟨show (21 : Nat) < 100 from by decide, nf0⟩, List.forall_mem_cons.mpr ⟨⟨show (21 : Nat) < 100 from by decide, nf1⟩, List.forall_mem_cons.mpr ⟨⟨show (20 : Nat) < 100 from by decide, nf2⟩, (fun _ h => (by cases h))⟩⟩⟩
set_option maxHeartbeats 4000000 in
theorem vc_Gr_alter_at_kx_10_0 (x11 : Int) (x14 : Int) (x15 : Int) (x16 : Int) (nodes_0 : Int) (edges_0 : Int) (done_0 : Int) (near_0 : Int → Int) (tail_0 : Int → Int) (head_0 : Int → Int) (past_0 : Int → Int) (done_1 : Int) (near_1 : Int → Int) (tail_1 : Int → Int) (head_1 : Int → Int) (nodes_1 : Int) (edges_1 : Int) (past_1 : Int → Int) (k11 : 30 ≤ x11 ∧ x11 ≤ 30) (k14 : 122 ≤ x14 ∧ x14 ≤ 122) (k15 : 0 ≤ x15 ∧ x15 ≤ 0) (k16 : 3660 ≤ x16 ∧ x16 ≤ 3660) (f18 : MV2 (past_1) (past_1) (x14) (x15) (x16)) (fe_0_0_1 : nodes_0 = nodes_1) (fe_0_1_1 : edges_0 = edges_1) (fe_0_17_1 : done_0 = done_1) (hE_0_7_1 : ∀ j : Int, tail_0 j = tail_1 j) (hE_0_8_1 : ∀ j : Int, head_0 j = head_1 j) (hE_0_14_1 : ∀ j : Int, near_0 j = near_1 j) (hE_0_16_1 : ∀ j : Int, past_0 j = past_1 j) (kz_0_0 : 0 ≤ nodes_0 ∧ nodes_0 ≤ 24) (kz_0_1 : 0 ≤ edges_0 ∧ edges_0 ≤ 48) (kz_0_17 : 0 ≤ done_0 ∧ done_0 ≤ 30) : PRO (past_0) (x11) := by
  subst fe_0_0_1
  subst fe_0_1_1
  subst fe_0_17_1
  have e_hE_0_7_1 := funext hE_0_7_1; subst e_hE_0_7_1
  have e_hE_0_8_1 := funext hE_0_8_1; subst e_hE_0_8_1
  have e_hE_0_14_1 := funext hE_0_14_1; subst e_hE_0_14_1
  have e_hE_0_16_1 := funext hE_0_16_1; subst e_hE_0_16_1
  first
    | exact pro_pdq ‹PDQ _ _ _› (by omega) (by omega)
    | exact pri_pro ‹PNI _ _› (by omega)
    | (have q := (‹MV2 _ _ _ _ _›); exact fun r a b => q r a (by omega))
    | exact pro_zero (by omega) (fun j a b => by have q := hT10 j a (by omega); omega)
  
def o_Gr_alter_at_kx_10 : or_T := (82, 18, [(0, (2, 0, 0, [3])), (6, (0, 0, 48, [])), (7, (2, 0, 0, [52])), (8, (2, 0, 0, [53])), (10, (2, 0, 0, [61])), (11, (0, 30, 30, [])), (12, (0, 1, 24, [])), (13, (0, 30, 30, [])), (14, (0, 122, 122, [])), (15, (0, 0, 0, [])), (16, (0, 3660, 3660, [])), (17, (0, 0, 0, []))], [(9, [17, 0], [18]), (9, [12, 0], [0]), (9, [6, 0], [1]), (9, [7, 0], [7]), (9, [8, 0], [8]), (9, [10, 0], [16]), (9, [11, 0], [17]), (21, [14, 16], [3782]), (21, [15, 16], [3782]), (20, [0], [60, 2, 3, 670, 0, 1, 14, 7, 8]), (20, [0], [60, 2, 2, 596, 0, 1, 7, 8]), (20, [10, 10, 14, 15, 16], [61, 2, 764]), (101, [0, 17], [18]), (21, [14, 16], [3782]), (21, [15, 16], [3782]), (20, [0], [50, 2, 0, 17, 18, 0, 8, 4, 3, 2, 0, 17, 2, 0, 18, 0, 30]), (20, [0], [60, 2, 3, 670, 0, 1, 14, 7, 8]), (20, [0], [60, 2, 2, 596, 0, 1, 7, 8]), (20, [10, 10, 14, 15, 16], [61, 2, 764]), (102, [16], [2305843009213693952]), (21, [14, 16], [3782]), (21, [15, 16], [3782]), (7, [11, 13], [0]), (102, [11], [381944245562716141175333566576758405197150323812363046994276334253946495506784008380874752, 3000, 3001]), (102, [11], [2305843009213693952]), (101, [0, 10], [16])], [], [], [(20, [0, 11], [60, 0, 1, 737, 16])], [], [])
theorem oo_Gr_alter_at_kx_10 {kA : Nat → ClassId} : or_ok PRD kA GG o_Gr_alter_at_kx_10 := by
  refine or_mk fun A ta ws vs hD hth hl => ?_
  intro t0 r0 t6 k6 t7 r7 t8 r8 t10 r10 t11 k11 t12 k12 t13 k13 t14 k14 t15 k15 t16 k16 t17 k17 f0 f1 f2 f3 f4 f5 f6 f7 f8 f9 f10 f11 ta1 w1 le1 s1 f13 f14 f15 f16 f17 f18 ta2 w2 le2 s2 f20 f21 f22 ta3 w3 le3 s3 ta4 w4 le4 s4 ta5 w5 le5 s5
  replace f5 := shm_176 f5
  have s1 : (∀ b j, w_el ws b j = w_el w1 b j) ∧ ∀ b j, w_fd ws b j = if b = v_ad (n_v vs 0) ∧ j = 18 then n_v vs 17 else w_fd w1 b j := s1.2
  replace f18 := shm_1835 f18
  have ar_0_7_1 : w_ar w1 (n_v vs 0) 7 = w_ar ws (n_v vs 0) 7 := by show v_ad (w_fd w1 _ _) = v_ad (w_fd ws _ _); rw [s1.2, if_neg (fun e => absurd e.2 (by decide))]
  have ar_0_8_1 : w_ar w1 (n_v vs 0) 8 = w_ar ws (n_v vs 0) 8 := by show v_ad (w_fd w1 _ _) = v_ad (w_fd ws _ _); rw [s1.2, if_neg (fun e => absurd e.2 (by decide))]
  have ar_0_14_1 : w_ar w1 (n_v vs 0) 14 = w_ar ws (n_v vs 0) 14 := by show v_ad (w_fd w1 _ _) = v_ad (w_fd ws _ _); rw [s1.2, if_neg (fun e => absurd e.2 (by decide))]
  have ad_10 : v_ad (n_v vs 10) = w_ar ws (n_v vs 0) 16 := congrArg v_ad f5
  simp only [ad_10, ar_0_7_1, ar_0_8_1, ar_0_14_1] at f18
  have fe_0_0_1 : w_fi ws (n_v vs 0) 0 = w_fi w1 (n_v vs 0) 0 := by show v_iv (w_fd _ _ _) = v_iv (w_fd _ _ _); rw [s1.2, if_neg (fun e => absurd e.2 (by decide))]
  have fe_0_1_1 : w_fi ws (n_v vs 0) 1 = w_fi w1 (n_v vs 0) 1 := by show v_iv (w_fd _ _ _) = v_iv (w_fd _ _ _); rw [s1.2, if_neg (fun e => absurd e.2 (by decide))]
  have fe_0_17_1 : w_fi ws (n_v vs 0) 17 = w_fi w1 (n_v vs 0) 17 := by show v_iv (w_fd _ _ _) = v_iv (w_fd _ _ _); rw [s1.2, if_neg (fun e => absurd e.2 (by decide))]
  have hE_0_7_1 : ∀ j : Int, w_ei ws (w_ar ws (n_v vs 0) 7) j = w_ei w1 (w_ar ws (n_v vs 0) 7) j := fun j => s1.1 _ _
  have hE_0_8_1 : ∀ j : Int, w_ei ws (w_ar ws (n_v vs 0) 8) j = w_ei w1 (w_ar ws (n_v vs 0) 8) j := fun j => s1.1 _ _
  have hE_0_14_1 : ∀ j : Int, w_ei ws (w_ar ws (n_v vs 0) 14) j = w_ei w1 (w_ar ws (n_v vs 0) 14) j := fun j => s1.1 _ _
  have hE_0_16_1 : ∀ j : Int, w_ei ws (w_ar ws (n_v vs 0) 16) j = w_ei w1 (w_ar ws (n_v vs 0) 16) j := fun j => s1.1 _ _
  have kz_0_0 := fdq_21 hD hth r0
  have kz_0_1 := fdq_30 hD hth r0
  have kz_0_17 := fdq_288 hD hth r0
  have nf0 : fc_1 PRD (20, [0, 11], [60, 0, 1, 737, 16]) ws (vs) := ⟨nf_in hl rfl, sgq_850 (vc_Gr_alter_at_kx_10_0 (v_iv (n_v vs 11)) (v_iv (n_v vs 14)) (v_iv (n_v vs 15)) (v_iv (n_v vs 16)) (w_fi ws (n_v vs 0) 0) (w_fi ws (n_v vs 0) 1) (w_fi ws (n_v vs 0) 17) (w_ei ws (w_ar ws (n_v vs 0) 14)) (w_ei ws (w_ar ws (n_v vs 0) 7)) (w_ei ws (w_ar ws (n_v vs 0) 8)) (w_ei ws (w_ar ws (n_v vs 0) 16)) (w_fi w1 (n_v vs 0) 17) (w_ei w1 (w_ar ws (n_v vs 0) 14)) (w_ei w1 (w_ar ws (n_v vs 0) 7)) (w_ei w1 (w_ar ws (n_v vs 0) 8)) (w_fi w1 (n_v vs 0) 0) (w_fi w1 (n_v vs 0) 1) (w_ei w1 (w_ar ws (n_v vs 0) 16)) k11 k14 k15 k16 f18 fe_0_0_1 fe_0_1_1 fe_0_17_1 hE_0_7_1 hE_0_8_1 hE_0_14_1 hE_0_16_1 kz_0_0 kz_0_1 kz_0_17)⟩
  refine ⟨(fun _ h => (by cases h)), [], trivial, ?_, (fun _ h => (by cases h))⟩
  rw [List.append_nil]
  exact List.forall_mem_cons.mpr ⟨⟨show (20 : Nat) < 100 from by decide, nf0⟩, (fun _ h => (by cases h))⟩
set_option maxHeartbeats 4000000 in
theorem vc_Gr_alter_at_kx_11_0 (x11 : Int) (x17 : Int) (undone_0 : Int) (done_0 : Int) (k11 : 30 ≤ x11 ∧ x11 ≤ 30) (k17 : 0 ≤ x17 ∧ x17 ≤ 0) (g0 : x17 = undone_0) (g5 : x11 = done_0) (kz_0_17 : 0 ≤ done_0 ∧ done_0 ≤ 30) (kz_0_18 : 0 ≤ undone_0 ∧ undone_0 ≤ 30) : (done_0 + undone_0) ≤ 30 := by
  first
    | omega
  
set_option maxHeartbeats 4000000 in
theorem vc_Gr_alter_at_kx_11_1 (x11 : Int) (x17 : Int) (undone_0 : Int) (done_0 : Int) (past_0 : Int → Int) (k11 : 30 ≤ x11 ∧ x11 ≤ 30) (k17 : 0 ≤ x17 ∧ x17 ≤ 0) (g0 : x17 = undone_0) (g5 : x11 = done_0) (f8 : PRI (past_0) (x11)) (kz_0_17 : 0 ≤ done_0 ∧ done_0 ≤ 30) (kz_0_18 : 0 ≤ undone_0 ∧ undone_0 ≤ 30) : PDQ (done_0) (undone_0) (past_0) := by
  first
    | assumption
    | exact pri_pdq ‹PRI _ _› (by omega) (by omega)
  
def o_Gr_alter_at_kx_11 : or_T := (87, 18, [(0, (2, 0, 0, [3])), (6, (0, 0, 48, [])), (7, (2, 0, 0, [52])), (8, (2, 0, 0, [53])), (10, (2, 0, 0, [61])), (11, (0, 30, 30, [])), (12, (0, 1, 24, [])), (13, (0, 30, 30, [])), (17, (0, 0, 0, []))], [(9, [17, 0], [18]), (9, [12, 0], [0]), (9, [6, 0], [1]), (9, [7, 0], [7]), (9, [8, 0], [8]), (9, [11, 0], [17]), (9, [10, 0], [16]), (20, [0], [60, 2, 3, 670, 0, 1, 14, 7, 8]), (20, [0, 11], [60, 0, 1, 738, 16]), (20, [0], [60, 2, 2, 596, 0, 1, 7, 8]), (102, [17], [2305843009213693952]), (101, [0, 17], [18]), (102, [16], [2305843009213693952]), (7, [11, 13], [0]), (102, [11], [381944245562716141175333566576758405197150323812363046994276334253946495506784008380874752, 3000, 3001]), (102, [11], [2305843009213693952]), (101, [0, 10], [16])], [], [], [(20, [0], [50, 2, 0, 17, 18, 0, 8, 4, 3, 2, 0, 17, 2, 0, 18, 0, 30]), (20, [0], [60, 2, 1, 739, 17, 18, 16])], [], [])
theorem oo_Gr_alter_at_kx_11 {kA : Nat → ClassId} : or_ok PRD kA GG o_Gr_alter_at_kx_11 := by
  refine or_mk fun A ta ws vs hD hth hl => ?_
  intro t0 r0 t6 k6 t7 r7 t8 r8 t10 r10 t11 k11 t12 k12 t13 k13 t17 k17 f0 f1 f2 f3 f4 f5 f6 f7 f8 f9 ta1 w1 le1 s1 ta2 w2 le2 s2 ta3 w3 le3 s3 f13 ta4 w4 le4 s4 ta5 w5 le5 s5 ta6 w6 le6 s6
  replace f0 := shm_799 f0
  replace f5 := shm_795 f5
  have g0 : v_iv (n_v vs 17) = w_fi ws (n_v vs 0) 18 := congrArg v_iv f0
  have g5 : v_iv (n_v vs 11) = w_fi ws (n_v vs 0) 17 := congrArg v_iv f5
  have kz_0_17 := fdq_288 hD hth r0
  have kz_0_18 := fdq_289 hD hth r0
  have nf0 : fc_1 PRD (20, [0], [50, 2, 0, 17, 18, 0, 8, 4, 3, 2, 0, 17, 2, 0, 18, 0, 30]) ws (vs) := ⟨nf_in hl rfl, sgq_1511 (vc_Gr_alter_at_kx_11_0 (v_iv (n_v vs 11)) (v_iv (n_v vs 17)) (w_fi ws (n_v vs 0) 18) (w_fi ws (n_v vs 0) 17) k11 k17 g0 g5 kz_0_17 kz_0_18)⟩
  have nf1 : fc_1 PRD (20, [0], [60, 2, 1, 739, 17, 18, 16]) ws (vs) := ⟨nf_in hl rfl, sgq_1361 (vc_Gr_alter_at_kx_11_1 (v_iv (n_v vs 11)) (v_iv (n_v vs 17)) (w_fi ws (n_v vs 0) 18) (w_fi ws (n_v vs 0) 17) (w_ei ws (w_ar ws (n_v vs 0) 16)) k11 k17 g0 g5 (shm_855 f8) kz_0_17 kz_0_18)⟩
  refine ⟨(fun _ h => (by cases h)), [], trivial, ?_, (fun _ h => (by cases h))⟩
  rw [List.append_nil]
  exact List.forall_mem_cons.mpr ⟨⟨show (20 : Nat) < 100 from by decide, nf0⟩, List.forall_mem_cons.mpr ⟨⟨show (20 : Nat) < 100 from by decide, nf1⟩, (fun _ h => (by cases h))⟩⟩
set_option maxHeartbeats 4000000 in
theorem vc_Gr_alter_at_kx_12_0 (x11 : Int) (x15 : Int) (nodes_0 : Int) (edges_0 : Int) (done_0 : Int) (past_0 : Int → Int) (near_0 : Int → Int) (tail_0 : Int → Int) (head_0 : Int → Int) (past_1 : Int → Int) (near_1 : Int → Int) (tail_1 : Int → Int) (head_1 : Int → Int) (nodes_1 : Int) (edges_1 : Int) (past_2 : Int → Int) (undone_2 : Int) (near_2 : Int → Int) (tail_2 : Int → Int) (head_2 : Int → Int) (nodes_2 : Int) (edges_2 : Int) (done_1 : Int) (undone_1 : Int) (k11 : 0 ≤ x11 ∧ x11 ≤ 29) (k15 : 1 ≤ x15 ∧ x15 ≤ 30) (d0 : x11 + 1 ≤ x15 ∧ x15 ≤ x11 + 1) (f18 : PNI (past_2) (x11)) (fe_0_0_1 : nodes_0 = nodes_1) (fe_0_1_1 : edges_0 = edges_1) (fe_0_17_1 : done_0 = done_1) (fe_0_0_2 : nodes_1 = nodes_2) (fe_0_1_2 : edges_1 = edges_2) (fe_0_18_2 : undone_1 = undone_2) (hE_0_7_1 : ∀ j : Int, tail_0 j = tail_1 j) (hE_0_7_2 : ∀ j : Int, tail_1 j = tail_2 j) (hE_0_8_1 : ∀ j : Int, head_0 j = head_1 j) (hE_0_8_2 : ∀ j : Int, head_1 j = head_2 j) (hE_0_14_1 : ∀ j : Int, near_0 j = near_1 j) (hE_0_14_2 : ∀ j : Int, near_1 j = near_2 j) (hE_0_16_1 : ∀ j : Int, past_0 j = past_1 j) (hE_0_16_2 : ∀ j : Int, past_1 j = past_2 j) (kz_0_0 : 0 ≤ nodes_0 ∧ nodes_0 ≤ 24) (kz_0_1 : 0 ≤ edges_0 ∧ edges_0 ≤ 48) (kz_0_17 : 0 ≤ done_0 ∧ done_0 ≤ 30) : PRO (past_0) (x15) := by
  subst fe_0_0_1
  subst fe_0_1_1
  subst fe_0_17_1
  subst fe_0_0_2
  subst fe_0_1_2
  subst fe_0_18_2
  have e_hE_0_7_1 := funext hE_0_7_1; subst e_hE_0_7_1
  have e_hE_0_7_2 := funext hE_0_7_2; subst e_hE_0_7_2
  have e_hE_0_8_1 := funext hE_0_8_1; subst e_hE_0_8_1
  have e_hE_0_8_2 := funext hE_0_8_2; subst e_hE_0_8_2
  have e_hE_0_14_1 := funext hE_0_14_1; subst e_hE_0_14_1
  have e_hE_0_14_2 := funext hE_0_14_2; subst e_hE_0_14_2
  have e_hE_0_16_1 := funext hE_0_16_1; subst e_hE_0_16_1
  have e_hE_0_16_2 := funext hE_0_16_2; subst e_hE_0_16_2
  first
    | exact pro_pdq ‹PDQ _ _ _› (by omega) (by omega)
    | exact pri_pro ‹PNI _ _› (by omega)
    | (have q := (‹MV2 _ _ _ _ _›); exact fun r a b => q r a (by omega))
    | exact pro_zero (by omega) (fun j a b => by have q := hT10 j a (by omega); omega)
  
def o_Gr_alter_at_kx_12 : or_T := (82, 17, [(0, (2, 0, 0, [3])), (5, (0, 0, 24, [])), (7, (2, 0, 0, [52])), (8, (2, 0, 0, [53])), (10, (2, 0, 0, [61])), (11, (0, 0, 29, [])), (12, (0, 1, 48, [])), (13, (0, 30, 30, [])), (14, (0, 1, 1, [])), (15, (0, 1, 30, [])), (16, (0, 0, 0, []))], [(9, [16, 0], [18]), (9, [5, 0], [0]), (9, [12, 0], [1]), (9, [7, 0], [7]), (9, [8, 0], [8]), (9, [10, 0], [16]), (9, [15, 0], [17]), (20, [10, 11], [61, 1, 762]), (20, [0], [60, 2, 3, 670, 0, 1, 14, 7, 8]), (20, [0], [60, 2, 2, 596, 0, 1, 7, 8]), (101, [0, 16], [18]), (20, [10, 11], [61, 1, 762]), (20, [0], [60, 2, 3, 670, 0, 1, 14, 7, 8]), (20, [0], [60, 2, 2, 596, 0, 1, 7, 8]), (101, [0, 15], [17]), (1, [15, 11, 14], []), (9, [11, 0], [17]), (7, [11, 13], [1]), (20, [10, 11], [61, 1, 762]), (20, [0], [50, 2, 0, 17, 18, 0, 8, 4, 3, 2, 0, 17, 2, 0, 18, 0, 30]), (20, [0], [60, 2, 3, 670, 0, 1, 14, 7, 8]), (20, [0], [60, 2, 2, 596, 0, 1, 7, 8]), (102, [11], [381944245562716141175333566576758405197150323812363046994276334253946495506784008380874752, 3000, 3001]), (102, [11], [2305843009213693952]), (101, [0, 10], [16])], [], [], [(20, [0, 15], [60, 0, 1, 737, 16])], [], [(15, 11, 1, 1)])
theorem oo_Gr_alter_at_kx_12 {kA : Nat → ClassId} : or_ok PRD kA GG o_Gr_alter_at_kx_12 := by
  refine or_mk fun A ta ws vs hD hth hl => ?_
  intro t0 r0 t5 k5 t7 r7 t8 r8 t10 r10 t11 k11 t12 k12 t13 k13 t14 k14 t15 k15 t16 k16 d0 f0 f1 f2 f3 f4 f5 f6 f7 f8 f9 ta1 w1 le1 s1 f11 f12 f13 ta2 w2 le2 s2 f15 f16 f17 f18 f19 f20 f21 ta3 w3 le3 s3 ta4 w4 le4 s4 ta5 w5 le5 s5
  replace f5 := shm_176 f5
  have s1 : (∀ b j, w_el ws b j = w_el w1 b j) ∧ ∀ b j, w_fd ws b j = if b = v_ad (n_v vs 0) ∧ j = 18 then n_v vs 16 else w_fd w1 b j := s1.2
  have s2 : (∀ b j, w_el w1 b j = w_el w2 b j) ∧ ∀ b j, w_fd w1 b j = if b = v_ad (n_v vs 0) ∧ j = 17 then n_v vs 15 else w_fd w2 b j := s2.2
  replace f18 := shm_1832 f18
  have ar_0_7_1 : w_ar w1 (n_v vs 0) 7 = w_ar ws (n_v vs 0) 7 := by show v_ad (w_fd w1 _ _) = v_ad (w_fd ws _ _); rw [s1.2, if_neg (fun e => absurd e.2 (by decide))]
  have ar_0_7_2 : w_ar w2 (n_v vs 0) 7 = w_ar ws (n_v vs 0) 7 := by rw [← ar_0_7_1]; show v_ad (w_fd w2 _ _) = v_ad (w_fd w1 _ _); rw [s2.2, if_neg (fun e => absurd e.2 (by decide))]
  have ar_0_8_1 : w_ar w1 (n_v vs 0) 8 = w_ar ws (n_v vs 0) 8 := by show v_ad (w_fd w1 _ _) = v_ad (w_fd ws _ _); rw [s1.2, if_neg (fun e => absurd e.2 (by decide))]
  have ar_0_8_2 : w_ar w2 (n_v vs 0) 8 = w_ar ws (n_v vs 0) 8 := by rw [← ar_0_8_1]; show v_ad (w_fd w2 _ _) = v_ad (w_fd w1 _ _); rw [s2.2, if_neg (fun e => absurd e.2 (by decide))]
  have ar_0_14_1 : w_ar w1 (n_v vs 0) 14 = w_ar ws (n_v vs 0) 14 := by show v_ad (w_fd w1 _ _) = v_ad (w_fd ws _ _); rw [s1.2, if_neg (fun e => absurd e.2 (by decide))]
  have ar_0_14_2 : w_ar w2 (n_v vs 0) 14 = w_ar ws (n_v vs 0) 14 := by rw [← ar_0_14_1]; show v_ad (w_fd w2 _ _) = v_ad (w_fd w1 _ _); rw [s2.2, if_neg (fun e => absurd e.2 (by decide))]
  have ad_10 : v_ad (n_v vs 10) = w_ar ws (n_v vs 0) 16 := congrArg v_ad f5
  simp only [ad_10, ar_0_7_2, ar_0_8_2, ar_0_14_2] at f18
  have fe_0_0_1 : w_fi ws (n_v vs 0) 0 = w_fi w1 (n_v vs 0) 0 := by show v_iv (w_fd _ _ _) = v_iv (w_fd _ _ _); rw [s1.2, if_neg (fun e => absurd e.2 (by decide))]
  have fe_0_1_1 : w_fi ws (n_v vs 0) 1 = w_fi w1 (n_v vs 0) 1 := by show v_iv (w_fd _ _ _) = v_iv (w_fd _ _ _); rw [s1.2, if_neg (fun e => absurd e.2 (by decide))]
  have fe_0_17_1 : w_fi ws (n_v vs 0) 17 = w_fi w1 (n_v vs 0) 17 := by show v_iv (w_fd _ _ _) = v_iv (w_fd _ _ _); rw [s1.2, if_neg (fun e => absurd e.2 (by decide))]
  have fe_0_0_2 : w_fi w1 (n_v vs 0) 0 = w_fi w2 (n_v vs 0) 0 := by show v_iv (w_fd _ _ _) = v_iv (w_fd _ _ _); rw [s2.2, if_neg (fun e => absurd e.2 (by decide))]
  have fe_0_1_2 : w_fi w1 (n_v vs 0) 1 = w_fi w2 (n_v vs 0) 1 := by show v_iv (w_fd _ _ _) = v_iv (w_fd _ _ _); rw [s2.2, if_neg (fun e => absurd e.2 (by decide))]
  have fe_0_18_2 : w_fi w1 (n_v vs 0) 18 = w_fi w2 (n_v vs 0) 18 := by show v_iv (w_fd _ _ _) = v_iv (w_fd _ _ _); rw [s2.2, if_neg (fun e => absurd e.2 (by decide))]
  have hE_0_7_1 : ∀ j : Int, w_ei ws (w_ar ws (n_v vs 0) 7) j = w_ei w1 (w_ar ws (n_v vs 0) 7) j := fun j => s1.1 _ _
  have hE_0_7_2 : ∀ j : Int, w_ei w1 (w_ar ws (n_v vs 0) 7) j = w_ei w2 (w_ar ws (n_v vs 0) 7) j := fun j => s2.1 _ _
  have hE_0_8_1 : ∀ j : Int, w_ei ws (w_ar ws (n_v vs 0) 8) j = w_ei w1 (w_ar ws (n_v vs 0) 8) j := fun j => s1.1 _ _
  have hE_0_8_2 : ∀ j : Int, w_ei w1 (w_ar ws (n_v vs 0) 8) j = w_ei w2 (w_ar ws (n_v vs 0) 8) j := fun j => s2.1 _ _
  have hE_0_14_1 : ∀ j : Int, w_ei ws (w_ar ws (n_v vs 0) 14) j = w_ei w1 (w_ar ws (n_v vs 0) 14) j := fun j => s1.1 _ _
  have hE_0_14_2 : ∀ j : Int, w_ei w1 (w_ar ws (n_v vs 0) 14) j = w_ei w2 (w_ar ws (n_v vs 0) 14) j := fun j => s2.1 _ _
  have hE_0_16_1 : ∀ j : Int, w_ei ws (w_ar ws (n_v vs 0) 16) j = w_ei w1 (w_ar ws (n_v vs 0) 16) j := fun j => s1.1 _ _
  have hE_0_16_2 : ∀ j : Int, w_ei w1 (w_ar ws (n_v vs 0) 16) j = w_ei w2 (w_ar ws (n_v vs 0) 16) j := fun j => s2.1 _ _
  have kz_0_0 := fdq_21 hD hth r0
  have kz_0_1 := fdq_30 hD hth r0
  have kz_0_17 := fdq_288 hD hth r0
  have nf0 : fc_1 PRD (20, [0, 15], [60, 0, 1, 737, 16]) ws (vs) := ⟨nf_in hl rfl, sgq_850 (vc_Gr_alter_at_kx_12_0 (v_iv (n_v vs 11)) (v_iv (n_v vs 15)) (w_fi ws (n_v vs 0) 0) (w_fi ws (n_v vs 0) 1) (w_fi ws (n_v vs 0) 17) (w_ei ws (w_ar ws (n_v vs 0) 16)) (w_ei ws (w_ar ws (n_v vs 0) 14)) (w_ei ws (w_ar ws (n_v vs 0) 7)) (w_ei ws (w_ar ws (n_v vs 0) 8)) (w_ei w1 (w_ar ws (n_v vs 0) 16)) (w_ei w1 (w_ar ws (n_v vs 0) 14)) (w_ei w1 (w_ar ws (n_v vs 0) 7)) (w_ei w1 (w_ar ws (n_v vs 0) 8)) (w_fi w1 (n_v vs 0) 0) (w_fi w1 (n_v vs 0) 1) (w_ei w2 (w_ar ws (n_v vs 0) 16)) (w_fi w2 (n_v vs 0) 18) (w_ei w2 (w_ar ws (n_v vs 0) 14)) (w_ei w2 (w_ar ws (n_v vs 0) 7)) (w_ei w2 (w_ar ws (n_v vs 0) 8)) (w_fi w2 (n_v vs 0) 0) (w_fi w2 (n_v vs 0) 1) (w_fi w1 (n_v vs 0) 17) (w_fi w1 (n_v vs 0) 18) k11 k15 d0 f18 fe_0_0_1 fe_0_1_1 fe_0_17_1 fe_0_0_2 fe_0_1_2 fe_0_18_2 hE_0_7_1 hE_0_7_2 hE_0_8_1 hE_0_8_2 hE_0_14_1 hE_0_14_2 hE_0_16_1 hE_0_16_2 kz_0_0 kz_0_1 kz_0_17)⟩
  refine ⟨(fun _ h => (by cases h)), [], trivial, ?_, (fun _ h => (by cases h))⟩
  rw [List.append_nil]
  exact List.forall_mem_cons.mpr ⟨⟨show (20 : Nat) < 100 from by decide, nf0⟩, (fun _ h => (by cases h))⟩
set_option maxHeartbeats 4000000 in
theorem vc_Gr_alter_at_kx_13_0 (x15 : Int) (x16 : Int) (undone_0 : Int) (done_0 : Int) (k15 : 1 ≤ x15 ∧ x15 ≤ 30) (k16 : 0 ≤ x16 ∧ x16 ≤ 0) (g0 : x16 = undone_0) (g1 : x15 = done_0) (kz_0_17 : 0 ≤ done_0 ∧ done_0 ≤ 30) (kz_0_18 : 0 ≤ undone_0 ∧ undone_0 ≤ 30) : (done_0 + undone_0) ≤ 30 := by
  first
    | omega
  
set_option maxHeartbeats 4000000 in
theorem vc_Gr_alter_at_kx_13_1 (x15 : Int) (x16 : Int) (undone_0 : Int) (done_0 : Int) (past_0 : Int → Int) (k15 : 1 ≤ x15 ∧ x15 ≤ 30) (k16 : 0 ≤ x16 ∧ x16 ≤ 0) (g0 : x16 = undone_0) (g1 : x15 = done_0) (f8 : PRI (past_0) (x15)) (kz_0_17 : 0 ≤ done_0 ∧ done_0 ≤ 30) (kz_0_18 : 0 ≤ undone_0 ∧ undone_0 ≤ 30) : PDQ (done_0) (undone_0) (past_0) := by
  first
    | assumption
    | exact pri_pdq ‹PRI _ _› (by omega) (by omega)
  
def o_Gr_alter_at_kx_13 : or_T := (87, 17, [(0, (2, 0, 0, [3])), (5, (0, 0, 24, [])), (7, (2, 0, 0, [52])), (8, (2, 0, 0, [53])), (10, (2, 0, 0, [61])), (11, (0, 0, 29, [])), (12, (0, 1, 48, [])), (13, (0, 30, 30, [])), (14, (0, 1, 1, [])), (15, (0, 1, 30, [])), (16, (0, 0, 0, []))], [(9, [16, 0], [18]), (9, [15, 0], [17]), (9, [5, 0], [0]), (9, [12, 0], [1]), (9, [7, 0], [7]), (9, [8, 0], [8]), (9, [10, 0], [16]), (20, [0], [60, 2, 3, 670, 0, 1, 14, 7, 8]), (20, [0, 15], [60, 0, 1, 738, 16]), (20, [0], [60, 2, 2, 596, 0, 1, 7, 8]), (102, [16], [2305843009213693952]), (101, [0, 16], [18]), (101, [0, 15], [17]), (1, [15, 11, 14], []), (7, [11, 13], [1]), (102, [11], [381944245562716141175333566576758405197150323812363046994276334253946495506784008380874752, 3000, 3001]), (102, [11], [2305843009213693952]), (101, [0, 10], [16])], [], [], [(20, [0], [50, 2, 0, 17, 18, 0, 8, 4, 3, 2, 0, 17, 2, 0, 18, 0, 30]), (20, [0], [60, 2, 1, 739, 17, 18, 16])], [], [(15, 11, 1, 1)])
theorem oo_Gr_alter_at_kx_13 {kA : Nat → ClassId} : or_ok PRD kA GG o_Gr_alter_at_kx_13 := by
  refine or_mk fun A ta ws vs hD hth hl => ?_
  intro t0 r0 t5 k5 t7 r7 t8 r8 t10 r10 t11 k11 t12 k12 t13 k13 t14 k14 t15 k15 t16 k16 d0 f0 f1 f2 f3 f4 f5 f6 f7 f8 f9 ta1 w1 le1 s1 ta2 w2 le2 s2 ta3 w3 le3 s3 f13 f14 ta4 w4 le4 s4 ta5 w5 le5 s5 ta6 w6 le6 s6
  replace f0 := shm_799 f0
  replace f1 := shm_795 f1
  have g0 : v_iv (n_v vs 16) = w_fi ws (n_v vs 0) 18 := congrArg v_iv f0
  have g1 : v_iv (n_v vs 15) = w_fi ws (n_v vs 0) 17 := congrArg v_iv f1
  have kz_0_17 := fdq_288 hD hth r0
  have kz_0_18 := fdq_289 hD hth r0
  have nf0 : fc_1 PRD (20, [0], [50, 2, 0, 17, 18, 0, 8, 4, 3, 2, 0, 17, 2, 0, 18, 0, 30]) ws (vs) := ⟨nf_in hl rfl, sgq_1511 (vc_Gr_alter_at_kx_13_0 (v_iv (n_v vs 15)) (v_iv (n_v vs 16)) (w_fi ws (n_v vs 0) 18) (w_fi ws (n_v vs 0) 17) k15 k16 g0 g1 kz_0_17 kz_0_18)⟩
  have nf1 : fc_1 PRD (20, [0], [60, 2, 1, 739, 17, 18, 16]) ws (vs) := ⟨nf_in hl rfl, sgq_1361 (vc_Gr_alter_at_kx_13_1 (v_iv (n_v vs 15)) (v_iv (n_v vs 16)) (w_fi ws (n_v vs 0) 18) (w_fi ws (n_v vs 0) 17) (w_ei ws (w_ar ws (n_v vs 0) 16)) k15 k16 g0 g1 (shm_855 f8) kz_0_17 kz_0_18)⟩
  refine ⟨(fun _ h => (by cases h)), [], trivial, ?_, (fun _ h => (by cases h))⟩
  rw [List.append_nil]
  exact List.forall_mem_cons.mpr ⟨⟨show (20 : Nat) < 100 from by decide, nf0⟩, List.forall_mem_cons.mpr ⟨⟨show (20 : Nat) < 100 from by decide, nf1⟩, (fun _ h => (by cases h))⟩⟩
set_option maxHeartbeats 4000000 in
theorem vc_Gr_alter_at_kx_14_0 (x14 : Int) (x16 : Int) (k14 : 122 ≤ x14 ∧ x14 ≤ 122) (k16 : 3660 ≤ x16 ∧ x16 ≤ 3660) : x14 + x16 ≤ 3782 := by
  first
    | omega
  
set_option maxHeartbeats 4000000 in
theorem vc_Gr_alter_at_kx_14_1 (x15 : Int) (x16 : Int) (k15 : 0 ≤ x15 ∧ x15 ≤ 0) (k16 : 3660 ≤ x16 ∧ x16 ≤ 3660) : x15 + x16 ≤ 3782 := by
  first
    | omega
  
set_option maxHeartbeats 4000000 in
theorem vc_Gr_alter_at_kx_14_2 (x11 : Int) (x14 : Int) (x15 : Int) (x16 : Int) (a10_0 : Int → Int) (k11 : 30 ≤ x11 ∧ x11 ≤ 30) (k14 : 122 ≤ x14 ∧ x14 ≤ 122) (k15 : 0 ≤ x15 ∧ x15 ≤ 0) (k16 : 3660 ≤ x16 ∧ x16 ≤ 3660) (f6 : PNI (a10_0) (x11)) : MV1 (a10_0) (a10_0) (x14) (x15) (x16) := by
  first
    | exact ⟨by omega, by omega, by omega, fun r a b => (‹PNI _ _›) r a (by omega)⟩
  
def o_Gr_alter_at_kx_14 : or_T := (56, 17, [(0, (2, 0, 0, [3])), (5, (0, 0, 24, [])), (7, (2, 0, 0, [52])), (8, (2, 0, 0, [53])), (10, (2, 0, 0, [61])), (11, (0, 30, 30, [])), (12, (0, 1, 48, [])), (13, (0, 30, 30, [])), (14, (0, 122, 122, [])), (15, (0, 0, 0, [])), (16, (0, 3660, 3660, []))], [(9, [5, 0], [0]), (9, [12, 0], [1]), (9, [7, 0], [7]), (9, [8, 0], [8]), (7, [11, 13], [0]), (9, [11, 0], [17]), (20, [10, 11], [61, 1, 762]), (20, [0], [50, 2, 0, 17, 18, 0, 8, 4, 3, 2, 0, 17, 2, 0, 18, 0, 30]), (20, [0], [60, 2, 3, 670, 0, 1, 14, 7, 8]), (20, [0], [60, 2, 2, 596, 0, 1, 7, 8])], [], [], [(21, [14, 16], [3782]), (21, [15, 16], [3782]), (20, [10, 10, 14, 15, 16], [61, 2, 763])], [], [])
theorem oo_Gr_alter_at_kx_14 {kA : Nat → ClassId} : or_ok PRD kA GG o_Gr_alter_at_kx_14 := by
  refine or_mk fun A ta ws vs hD hth hl => ?_
  intro t0 r0 t5 k5 t7 r7 t8 r8 t10 r10 t11 k11 t12 k12 t13 k13 t14 k14 t15 k15 t16 k16 f0 f1 f2 f3 f4 f5 f6 f7 f8 f9
  have nf0 : fc_1 PRD (21, [14, 16], [3782]) ws (vs) := ⟨nf_in hl rfl, sgq_1833 (vc_Gr_alter_at_kx_14_0 (v_iv (n_v vs 14)) (v_iv (n_v vs 16)) k14 k16)⟩
  have nf1 : fc_1 PRD (21, [15, 16], [3782]) ws (vs) := ⟨nf_in hl rfl, sgq_1833 (vc_Gr_alter_at_kx_14_1 (v_iv (n_v vs 15)) (v_iv (n_v vs 16)) k15 k16)⟩
  have nf2 : fc_1 PRD (20, [10, 10, 14, 15, 16], [61, 2, 763]) ws (vs) := ⟨nf_in hl rfl, sgq_1834 (vc_Gr_alter_at_kx_14_2 (v_iv (n_v vs 11)) (v_iv (n_v vs 14)) (v_iv (n_v vs 15)) (v_iv (n_v vs 16)) (w_ei ws (v_ad (n_v vs 10))) k11 k14 k15 k16 (shm_1832 f6))⟩
  refine ⟨(fun _ h => (by cases h)), [], trivial, ?_, (fun _ h => (by cases h))⟩
  rw [List.append_nil]
  exact List.forall_mem_cons.mpr ⟨⟨show (21 : Nat) < 100 from by decide, nf0⟩, List.forall_mem_cons.mpr ⟨⟨show (21 : Nat) < 100 from by decide, nf1⟩, List.forall_mem_cons.mpr ⟨⟨show (20 : Nat) < 100 from by decide, nf2⟩, (fun _ h => (by cases h))⟩⟩⟩
set_option maxHeartbeats 4000000 in
theorem vc_Gr_alter_at_kx_15_0 (x11 : Int) (x14 : Int) (x15 : Int) (x16 : Int) (nodes_0 : Int) (edges_0 : Int) (done_0 : Int) (near_0 : Int → Int) (tail_0 : Int → Int) (head_0 : Int → Int) (past_0 : Int → Int) (done_1 : Int) (near_1 : Int → Int) (tail_1 : Int → Int) (head_1 : Int → Int) (nodes_1 : Int) (edges_1 : Int) (past_1 : Int → Int) (k11 : 30 ≤ x11 ∧ x11 ≤ 30) (k14 : 122 ≤ x14 ∧ x14 ≤ 122) (k15 : 0 ≤ x15 ∧ x15 ≤ 0) (k16 : 3660 ≤ x16 ∧ x16 ≤ 3660) (f18 : MV2 (past_1) (past_1) (x14) (x15) (x16)) (fe_0_0_1 : nodes_0 = nodes_1) (fe_0_1_1 : edges_0 = edges_1) (fe_0_17_1 : done_0 = done_1) (hE_0_7_1 : ∀ j : Int, tail_0 j = tail_1 j) (hE_0_8_1 : ∀ j : Int, head_0 j = head_1 j) (hE_0_14_1 : ∀ j : Int, near_0 j = near_1 j) (hE_0_16_1 : ∀ j : Int, past_0 j = past_1 j) (kz_0_0 : 0 ≤ nodes_0 ∧ nodes_0 ≤ 24) (kz_0_1 : 0 ≤ edges_0 ∧ edges_0 ≤ 48) (kz_0_17 : 0 ≤ done_0 ∧ done_0 ≤ 30) : PRO (past_0) (x11) := by
  subst fe_0_0_1
  subst fe_0_1_1
  subst fe_0_17_1
  have e_hE_0_7_1 := funext hE_0_7_1; subst e_hE_0_7_1
  have e_hE_0_8_1 := funext hE_0_8_1; subst e_hE_0_8_1
  have e_hE_0_14_1 := funext hE_0_14_1; subst e_hE_0_14_1
  have e_hE_0_16_1 := funext hE_0_16_1; subst e_hE_0_16_1
  first
    | exact pro_pdq ‹PDQ _ _ _› (by omega) (by omega)
    | exact pri_pro ‹PNI _ _› (by omega)
    | (have q := (‹MV2 _ _ _ _ _›); exact fun r a b => q r a (by omega))
    | exact pro_zero (by omega) (fun j a b => by have q := hT10 j a (by omega); omega)
  
def o_Gr_alter_at_kx_15 : or_T := (82, 18, [(0, (2, 0, 0, [3])), (5, (0, 0, 24, [])), (7, (2, 0, 0, [52])), (8, (2, 0, 0, [53])), (10, (2, 0, 0, [61])), (11, (0, 30, 30, [])), (12, (0, 1, 48, [])), (13, (0, 30, 30, [])), (14, (0, 122, 122, [])), (15, (0, 0, 0, [])), (16, (0, 3660, 3660, [])), (17, (0, 0, 0, []))], [(9, [17, 0], [18]), (9, [5, 0], [0]), (9, [12, 0], [1]), (9, [7, 0], [7]), (9, [8, 0], [8]), (9, [10, 0], [16]), (9, [11, 0], [17]), (21, [14, 16], [3782]), (21, [15, 16], [3782]), (20, [0], [60, 2, 3, 670, 0, 1, 14, 7, 8]), (20, [0], [60, 2, 2, 596, 0, 1, 7, 8]), (20, [10, 10, 14, 15, 16], [61, 2, 764]), (101, [0, 17], [18]), (21, [14, 16], [3782]), (21, [15, 16], [3782]), (20, [0], [50, 2, 0, 17, 18, 0, 8, 4, 3, 2, 0, 17, 2, 0, 18, 0, 30]), (20, [0], [60, 2, 3, 670, 0, 1, 14, 7, 8]), (20, [0], [60, 2, 2, 596, 0, 1, 7, 8]), (20, [10, 10, 14, 15, 16], [61, 2, 764]), (102, [16], [2305843009213693952]), (21, [14, 16], [3782]), (21, [15, 16], [3782]), (7, [11, 13], [0]), (102, [11], [381944245562716141175333566576758405197150323812363046994276334253946495506784008380874752, 3000, 3001]), (102, [11], [2305843009213693952]), (101, [0, 10], [16])], [], [], [(20, [0, 11], [60, 0, 1, 737, 16])], [], [])
theorem oo_Gr_alter_at_kx_15 {kA : Nat → ClassId} : or_ok PRD kA GG o_Gr_alter_at_kx_15 := by
  refine or_mk fun A ta ws vs hD hth hl => ?_
  intro t0 r0 t5 k5 t7 r7 t8 r8 t10 r10 t11 k11 t12 k12 t13 k13 t14 k14 t15 k15 t16 k16 t17 k17 f0 f1 f2 f3 f4 f5 f6 f7 f8 f9 f10 f11 ta1 w1 le1 s1 f13 f14 f15 f16 f17 f18 ta2 w2 le2 s2 f20 f21 f22 ta3 w3 le3 s3 ta4 w4 le4 s4 ta5 w5 le5 s5
  replace f5 := shm_176 f5
  have s1 : (∀ b j, w_el ws b j = w_el w1 b j) ∧ ∀ b j, w_fd ws b j = if b = v_ad (n_v vs 0) ∧ j = 18 then n_v vs 17 else w_fd w1 b j := s1.2
  replace f18 := shm_1835 f18
  have ar_0_7_1 : w_ar w1 (n_v vs 0) 7 = w_ar ws (n_v vs 0) 7 := by show v_ad (w_fd w1 _ _) = v_ad (w_fd ws _ _); rw [s1.2, if_neg (fun e => absurd e.2 (by decide))]
  have ar_0_8_1 : w_ar w1 (n_v vs 0) 8 = w_ar ws (n_v vs 0) 8 := by show v_ad (w_fd w1 _ _) = v_ad (w_fd ws _ _); rw [s1.2, if_neg (fun e => absurd e.2 (by decide))]
  have ar_0_14_1 : w_ar w1 (n_v vs 0) 14 = w_ar ws (n_v vs 0) 14 := by show v_ad (w_fd w1 _ _) = v_ad (w_fd ws _ _); rw [s1.2, if_neg (fun e => absurd e.2 (by decide))]
  have ad_10 : v_ad (n_v vs 10) = w_ar ws (n_v vs 0) 16 := congrArg v_ad f5
  simp only [ad_10, ar_0_7_1, ar_0_8_1, ar_0_14_1] at f18
  have fe_0_0_1 : w_fi ws (n_v vs 0) 0 = w_fi w1 (n_v vs 0) 0 := by show v_iv (w_fd _ _ _) = v_iv (w_fd _ _ _); rw [s1.2, if_neg (fun e => absurd e.2 (by decide))]
  have fe_0_1_1 : w_fi ws (n_v vs 0) 1 = w_fi w1 (n_v vs 0) 1 := by show v_iv (w_fd _ _ _) = v_iv (w_fd _ _ _); rw [s1.2, if_neg (fun e => absurd e.2 (by decide))]
  have fe_0_17_1 : w_fi ws (n_v vs 0) 17 = w_fi w1 (n_v vs 0) 17 := by show v_iv (w_fd _ _ _) = v_iv (w_fd _ _ _); rw [s1.2, if_neg (fun e => absurd e.2 (by decide))]
  have hE_0_7_1 : ∀ j : Int, w_ei ws (w_ar ws (n_v vs 0) 7) j = w_ei w1 (w_ar ws (n_v vs 0) 7) j := fun j => s1.1 _ _
  have hE_0_8_1 : ∀ j : Int, w_ei ws (w_ar ws (n_v vs 0) 8) j = w_ei w1 (w_ar ws (n_v vs 0) 8) j := fun j => s1.1 _ _
  have hE_0_14_1 : ∀ j : Int, w_ei ws (w_ar ws (n_v vs 0) 14) j = w_ei w1 (w_ar ws (n_v vs 0) 14) j := fun j => s1.1 _ _
  have hE_0_16_1 : ∀ j : Int, w_ei ws (w_ar ws (n_v vs 0) 16) j = w_ei w1 (w_ar ws (n_v vs 0) 16) j := fun j => s1.1 _ _
  have kz_0_0 := fdq_21 hD hth r0
  have kz_0_1 := fdq_30 hD hth r0
  have kz_0_17 := fdq_288 hD hth r0
  have nf0 : fc_1 PRD (20, [0, 11], [60, 0, 1, 737, 16]) ws (vs) := ⟨nf_in hl rfl, sgq_850 (vc_Gr_alter_at_kx_15_0 (v_iv (n_v vs 11)) (v_iv (n_v vs 14)) (v_iv (n_v vs 15)) (v_iv (n_v vs 16)) (w_fi ws (n_v vs 0) 0) (w_fi ws (n_v vs 0) 1) (w_fi ws (n_v vs 0) 17) (w_ei ws (w_ar ws (n_v vs 0) 14)) (w_ei ws (w_ar ws (n_v vs 0) 7)) (w_ei ws (w_ar ws (n_v vs 0) 8)) (w_ei ws (w_ar ws (n_v vs 0) 16)) (w_fi w1 (n_v vs 0) 17) (w_ei w1 (w_ar ws (n_v vs 0) 14)) (w_ei w1 (w_ar ws (n_v vs 0) 7)) (w_ei w1 (w_ar ws (n_v vs 0) 8)) (w_fi w1 (n_v vs 0) 0) (w_fi w1 (n_v vs 0) 1) (w_ei w1 (w_ar ws (n_v vs 0) 16)) k11 k14 k15 k16 f18 fe_0_0_1 fe_0_1_1 fe_0_17_1 hE_0_7_1 hE_0_8_1 hE_0_14_1 hE_0_16_1 kz_0_0 kz_0_1 kz_0_17)⟩
  refine ⟨(fun _ h => (by cases h)), [], trivial, ?_, (fun _ h => (by cases h))⟩
  rw [List.append_nil]
  exact List.forall_mem_cons.mpr ⟨⟨show (20 : Nat) < 100 from by decide, nf0⟩, (fun _ h => (by cases h))⟩
set_option maxHeartbeats 4000000 in
theorem vc_Gr_alter_at_kx_16_0 (x11 : Int) (x17 : Int) (undone_0 : Int) (done_0 : Int) (k11 : 30 ≤ x11 ∧ x11 ≤ 30) (k17 : 0 ≤ x17 ∧ x17 ≤ 0) (g0 : x17 = undone_0) (g5 : x11 = done_0) (kz_0_17 : 0 ≤ done_0 ∧ done_0 ≤ 30) (kz_0_18 : 0 ≤ undone_0 ∧ undone_0 ≤ 30) : (done_0 + undone_0) ≤ 30 := by
  first
    | omega
  
set_option maxHeartbeats 4000000 in
theorem vc_Gr_alter_at_kx_16_1 (x11 : Int) (x17 : Int) (undone_0 : Int) (done_0 : Int) (past_0 : Int → Int) (k11 : 30 ≤ x11 ∧ x11 ≤ 30) (k17 : 0 ≤ x17 ∧ x17 ≤ 0) (g0 : x17 = undone_0) (g5 : x11 = done_0) (f8 : PRI (past_0) (x11)) (kz_0_17 : 0 ≤ done_0 ∧ done_0 ≤ 30) (kz_0_18 : 0 ≤ undone_0 ∧ undone_0 ≤ 30) : PDQ (done_0) (undone_0) (past_0) := by
  first
    | assumption
    | exact pri_pdq ‹PRI _ _› (by omega) (by omega)
  
def o_Gr_alter_at_kx_16 : or_T := (87, 18, [(0, (2, 0, 0, [3])), (5, (0, 0, 24, [])), (7, (2, 0, 0, [52])), (8, (2, 0, 0, [53])), (10, (2, 0, 0, [61])), (11, (0, 30, 30, [])), (12, (0, 1, 48, [])), (13, (0, 30, 30, [])), (17, (0, 0, 0, []))], [(9, [17, 0], [18]), (9, [5, 0], [0]), (9, [12, 0], [1]), (9, [7, 0], [7]), (9, [8, 0], [8]), (9, [11, 0], [17]), (9, [10, 0], [16]), (20, [0], [60, 2, 3, 670, 0, 1, 14, 7, 8]), (20, [0, 11], [60, 0, 1, 738, 16]), (20, [0], [60, 2, 2, 596, 0, 1, 7, 8]), (102, [17], [2305843009213693952]), (101, [0, 17], [18]), (102, [16], [2305843009213693952]), (7, [11, 13], [0]), (102, [11], [381944245562716141175333566576758405197150323812363046994276334253946495506784008380874752, 3000, 3001]), (102, [11], [2305843009213693952]), (101, [0, 10], [16])], [], [], [(20, [0], [50, 2, 0, 17, 18, 0, 8, 4, 3, 2, 0, 17, 2, 0, 18, 0, 30]), (20, [0], [60, 2, 1, 739, 17, 18, 16])], [], [])
theorem oo_Gr_alter_at_kx_16 {kA : Nat → ClassId} : or_ok PRD kA GG o_Gr_alter_at_kx_16 := by
  refine or_mk fun A ta ws vs hD hth hl => ?_
  intro t0 r0 t5 k5 t7 r7 t8 r8 t10 r10 t11 k11 t12 k12 t13 k13 t17 k17 f0 f1 f2 f3 f4 f5 f6 f7 f8 f9 ta1 w1 le1 s1 ta2 w2 le2 s2 ta3 w3 le3 s3 f13 ta4 w4 le4 s4 ta5 w5 le5 s5 ta6 w6 le6 s6
  replace f0 := shm_799 f0
  replace f5 := shm_795 f5
  have g0 : v_iv (n_v vs 17) = w_fi ws (n_v vs 0) 18 := congrArg v_iv f0
  have g5 : v_iv (n_v vs 11) = w_fi ws (n_v vs 0) 17 := congrArg v_iv f5
  have kz_0_17 := fdq_288 hD hth r0
  have kz_0_18 := fdq_289 hD hth r0
  have nf0 : fc_1 PRD (20, [0], [50, 2, 0, 17, 18, 0, 8, 4, 3, 2, 0, 17, 2, 0, 18, 0, 30]) ws (vs) := ⟨nf_in hl rfl, sgq_1511 (vc_Gr_alter_at_kx_16_0 (v_iv (n_v vs 11)) (v_iv (n_v vs 17)) (w_fi ws (n_v vs 0) 18) (w_fi ws (n_v vs 0) 17) k11 k17 g0 g5 kz_0_17 kz_0_18)⟩
  have nf1 : fc_1 PRD (20, [0], [60, 2, 1, 739, 17, 18, 16]) ws (vs) := ⟨nf_in hl rfl, sgq_1361 (vc_Gr_alter_at_kx_16_1 (v_iv (n_v vs 11)) (v_iv (n_v vs 17)) (w_fi ws (n_v vs 0) 18) (w_fi ws (n_v vs 0) 17) (w_ei ws (w_ar ws (n_v vs 0) 16)) k11 k17 g0 g5 (shm_855 f8) kz_0_17 kz_0_18)⟩
  refine ⟨(fun _ h => (by cases h)), [], trivial, ?_, (fun _ h => (by cases h))⟩
  rw [List.append_nil]
  exact List.forall_mem_cons.mpr ⟨⟨show (20 : Nat) < 100 from by decide, nf0⟩, List.forall_mem_cons.mpr ⟨⟨show (20 : Nat) < 100 from by decide, nf1⟩, (fun _ h => (by cases h))⟩⟩
set_option maxHeartbeats 4000000 in
theorem vc_Gr_alter_at_kx_17_0 (x11 : Int) (x16 : Int) (nodes_0 : Int) (edges_0 : Int) (done_0 : Int) (past_0 : Int → Int) (near_0 : Int → Int) (tail_0 : Int → Int) (head_0 : Int → Int) (past_1 : Int → Int) (near_1 : Int → Int) (tail_1 : Int → Int) (head_1 : Int → Int) (nodes_1 : Int) (edges_1 : Int) (past_2 : Int → Int) (undone_2 : Int) (near_2 : Int → Int) (tail_2 : Int → Int) (head_2 : Int → Int) (nodes_2 : Int) (edges_2 : Int) (done_1 : Int) (undone_1 : Int) (k11 : 0 ≤ x11 ∧ x11 ≤ 29) (k16 : 1 ≤ x16 ∧ x16 ≤ 30) (d0 : x11 + 1 ≤ x16 ∧ x16 ≤ x11 + 1) (f18 : PNI (past_2) (x11)) (fe_0_0_1 : nodes_0 = nodes_1) (fe_0_1_1 : edges_0 = edges_1) (fe_0_17_1 : done_0 = done_1) (fe_0_0_2 : nodes_1 = nodes_2) (fe_0_1_2 : edges_1 = edges_2) (fe_0_18_2 : undone_1 = undone_2) (hE_0_7_1 : ∀ j : Int, tail_0 j = tail_1 j) (hE_0_7_2 : ∀ j : Int, tail_1 j = tail_2 j) (hE_0_8_1 : ∀ j : Int, head_0 j = head_1 j) (hE_0_8_2 : ∀ j : Int, head_1 j = head_2 j) (hE_0_14_1 : ∀ j : Int, near_0 j = near_1 j) (hE_0_14_2 : ∀ j : Int, near_1 j = near_2 j) (hE_0_16_1 : ∀ j : Int, past_0 j = past_1 j) (hE_0_16_2 : ∀ j : Int, past_1 j = past_2 j) (kz_0_0 : 0 ≤ nodes_0 ∧ nodes_0 ≤ 24) (kz_0_1 : 0 ≤ edges_0 ∧ edges_0 ≤ 48) (kz_0_17 : 0 ≤ done_0 ∧ done_0 ≤ 30) : PRO (past_0) (x16) := by
  subst fe_0_0_1
  subst fe_0_1_1
  subst fe_0_17_1
  subst fe_0_0_2
  subst fe_0_1_2
  subst fe_0_18_2
  have e_hE_0_7_1 := funext hE_0_7_1; subst e_hE_0_7_1
  have e_hE_0_7_2 := funext hE_0_7_2; subst e_hE_0_7_2
  have e_hE_0_8_1 := funext hE_0_8_1; subst e_hE_0_8_1
  have e_hE_0_8_2 := funext hE_0_8_2; subst e_hE_0_8_2
  have e_hE_0_14_1 := funext hE_0_14_1; subst e_hE_0_14_1
  have e_hE_0_14_2 := funext hE_0_14_2; subst e_hE_0_14_2
  have e_hE_0_16_1 := funext hE_0_16_1; subst e_hE_0_16_1
  have e_hE_0_16_2 := funext hE_0_16_2; subst e_hE_0_16_2
  first
    | exact pro_pdq ‹PDQ _ _ _› (by omega) (by omega)
    | exact pri_pro ‹PNI _ _› (by omega)
    | (have q := (‹MV2 _ _ _ _ _›); exact fun r a b => q r a (by omega))
    | exact pro_zero (by omega) (fun j a b => by have q := hT10 j a (by omega); omega)
  
def o_Gr_alter_at_kx_17 : or_T := (82, 18, [(0, (2, 0, 0, [3])), (5, (0, 0, 24, [])), (7, (2, 0, 0, [52])), (8, (2, 0, 0, [53])), (10, (2, 0, 0, [61])), (11, (0, 0, 29, [])), (13, (0, 0, 47, [])), (14, (0, 30, 30, [])), (15, (0, 1, 1, [])), (16, (0, 1, 30, [])), (17, (0, 0, 0, []))], [(9, [17, 0], [18]), (9, [5, 0], [0]), (9, [13, 0], [1]), (9, [7, 0], [7]), (9, [8, 0], [8]), (9, [10, 0], [16]), (9, [16, 0], [17]), (20, [10, 11], [61, 1, 762]), (20, [0], [60, 2, 3, 670, 0, 1, 14, 7, 8]), (20, [0], [60, 2, 2, 596, 0, 1, 7, 8]), (101, [0, 17], [18]), (20, [10, 11], [61, 1, 762]), (20, [0], [60, 2, 3, 670, 0, 1, 14, 7, 8]), (20, [0], [60, 2, 2, 596, 0, 1, 7, 8]), (101, [0, 16], [17]), (1, [16, 11, 15], []), (9, [11, 0], [17]), (7, [11, 14], [1]), (20, [10, 11], [61, 1, 762]), (20, [0], [50, 2, 0, 17, 18, 0, 8, 4, 3, 2, 0, 17, 2, 0, 18, 0, 30]), (20, [0], [60, 2, 3, 670, 0, 1, 14, 7, 8]), (20, [0], [60, 2, 2, 596, 0, 1, 7, 8]), (102, [11], [381944245562716141175333566576758405197150323812363046994276334253946495506784008380874752, 3000, 3001]), (102, [11], [2305843009213693952]), (101, [0, 10], [16])], [], [], [(20, [0, 16], [60, 0, 1, 737, 16])], [], [(16, 11, 1, 1)])
theorem oo_Gr_alter_at_kx_17 {kA : Nat → ClassId} : or_ok PRD kA GG o_Gr_alter_at_kx_17 := by
  refine or_mk fun A ta ws vs hD hth hl => ?_
  intro t0 r0 t5 k5 t7 r7 t8 r8 t10 r10 t11 k11 t13 k13 t14 k14 t15 k15 t16 k16 t17 k17 d0 f0 f1 f2 f3 f4 f5 f6 f7 f8 f9 ta1 w1 le1 s1 f11 f12 f13 ta2 w2 le2 s2 f15 f16 f17 f18 f19 f20 f21 ta3 w3 le3 s3 ta4 w4 le4 s4 ta5 w5 le5 s5
  replace f5 := shm_176 f5
  have s1 : (∀ b j, w_el ws b j = w_el w1 b j) ∧ ∀ b j, w_fd ws b j = if b = v_ad (n_v vs 0) ∧ j = 18 then n_v vs 17 else w_fd w1 b j := s1.2
  have s2 : (∀ b j, w_el w1 b j = w_el w2 b j) ∧ ∀ b j, w_fd w1 b j = if b = v_ad (n_v vs 0) ∧ j = 17 then n_v vs 16 else w_fd w2 b j := s2.2
  replace f18 := shm_1832 f18
  have ar_0_7_1 : w_ar w1 (n_v vs 0) 7 = w_ar ws (n_v vs 0) 7 := by show v_ad (w_fd w1 _ _) = v_ad (w_fd ws _ _); rw [s1.2, if_neg (fun e => absurd e.2 (by decide))]
  have ar_0_7_2 : w_ar w2 (n_v vs 0) 7 = w_ar ws (n_v vs 0) 7 := by rw [← ar_0_7_1]; show v_ad (w_fd w2 _ _) = v_ad (w_fd w1 _ _); rw [s2.2, if_neg (fun e => absurd e.2 (by decide))]
  have ar_0_8_1 : w_ar w1 (n_v vs 0) 8 = w_ar ws (n_v vs 0) 8 := by show v_ad (w_fd w1 _ _) = v_ad (w_fd ws _ _); rw [s1.2, if_neg (fun e => absurd e.2 (by decide))]
  have ar_0_8_2 : w_ar w2 (n_v vs 0) 8 = w_ar ws (n_v vs 0) 8 := by rw [← ar_0_8_1]; show v_ad (w_fd w2 _ _) = v_ad (w_fd w1 _ _); rw [s2.2, if_neg (fun e => absurd e.2 (by decide))]
  have ar_0_14_1 : w_ar w1 (n_v vs 0) 14 = w_ar ws (n_v vs 0) 14 := by show v_ad (w_fd w1 _ _) = v_ad (w_fd ws _ _); rw [s1.2, if_neg (fun e => absurd e.2 (by decide))]
  have ar_0_14_2 : w_ar w2 (n_v vs 0) 14 = w_ar ws (n_v vs 0) 14 := by rw [← ar_0_14_1]; show v_ad (w_fd w2 _ _) = v_ad (w_fd w1 _ _); rw [s2.2, if_neg (fun e => absurd e.2 (by decide))]
  have ad_10 : v_ad (n_v vs 10) = w_ar ws (n_v vs 0) 16 := congrArg v_ad f5
  simp only [ad_10, ar_0_7_2, ar_0_8_2, ar_0_14_2] at f18
  have fe_0_0_1 : w_fi ws (n_v vs 0) 0 = w_fi w1 (n_v vs 0) 0 := by show v_iv (w_fd _ _ _) = v_iv (w_fd _ _ _); rw [s1.2, if_neg (fun e => absurd e.2 (by decide))]
  have fe_0_1_1 : w_fi ws (n_v vs 0) 1 = w_fi w1 (n_v vs 0) 1 := by show v_iv (w_fd _ _ _) = v_iv (w_fd _ _ _); rw [s1.2, if_neg (fun e => absurd e.2 (by decide))]
  have fe_0_17_1 : w_fi ws (n_v vs 0) 17 = w_fi w1 (n_v vs 0) 17 := by show v_iv (w_fd _ _ _) = v_iv (w_fd _ _ _); rw [s1.2, if_neg (fun e => absurd e.2 (by decide))]
  have fe_0_0_2 : w_fi w1 (n_v vs 0) 0 = w_fi w2 (n_v vs 0) 0 := by show v_iv (w_fd _ _ _) = v_iv (w_fd _ _ _); rw [s2.2, if_neg (fun e => absurd e.2 (by decide))]
  have fe_0_1_2 : w_fi w1 (n_v vs 0) 1 = w_fi w2 (n_v vs 0) 1 := by show v_iv (w_fd _ _ _) = v_iv (w_fd _ _ _); rw [s2.2, if_neg (fun e => absurd e.2 (by decide))]
  have fe_0_18_2 : w_fi w1 (n_v vs 0) 18 = w_fi w2 (n_v vs 0) 18 := by show v_iv (w_fd _ _ _) = v_iv (w_fd _ _ _); rw [s2.2, if_neg (fun e => absurd e.2 (by decide))]
  have hE_0_7_1 : ∀ j : Int, w_ei ws (w_ar ws (n_v vs 0) 7) j = w_ei w1 (w_ar ws (n_v vs 0) 7) j := fun j => s1.1 _ _
  have hE_0_7_2 : ∀ j : Int, w_ei w1 (w_ar ws (n_v vs 0) 7) j = w_ei w2 (w_ar ws (n_v vs 0) 7) j := fun j => s2.1 _ _
  have hE_0_8_1 : ∀ j : Int, w_ei ws (w_ar ws (n_v vs 0) 8) j = w_ei w1 (w_ar ws (n_v vs 0) 8) j := fun j => s1.1 _ _
  have hE_0_8_2 : ∀ j : Int, w_ei w1 (w_ar ws (n_v vs 0) 8) j = w_ei w2 (w_ar ws (n_v vs 0) 8) j := fun j => s2.1 _ _
  have hE_0_14_1 : ∀ j : Int, w_ei ws (w_ar ws (n_v vs 0) 14) j = w_ei w1 (w_ar ws (n_v vs 0) 14) j := fun j => s1.1 _ _
  have hE_0_14_2 : ∀ j : Int, w_ei w1 (w_ar ws (n_v vs 0) 14) j = w_ei w2 (w_ar ws (n_v vs 0) 14) j := fun j => s2.1 _ _
  have hE_0_16_1 : ∀ j : Int, w_ei ws (w_ar ws (n_v vs 0) 16) j = w_ei w1 (w_ar ws (n_v vs 0) 16) j := fun j => s1.1 _ _
  have hE_0_16_2 : ∀ j : Int, w_ei w1 (w_ar ws (n_v vs 0) 16) j = w_ei w2 (w_ar ws (n_v vs 0) 16) j := fun j => s2.1 _ _
  have kz_0_0 := fdq_21 hD hth r0
  have kz_0_1 := fdq_30 hD hth r0
  have kz_0_17 := fdq_288 hD hth r0
  have nf0 : fc_1 PRD (20, [0, 16], [60, 0, 1, 737, 16]) ws (vs) := ⟨nf_in hl rfl, sgq_850 (vc_Gr_alter_at_kx_17_0 (v_iv (n_v vs 11)) (v_iv (n_v vs 16)) (w_fi ws (n_v vs 0) 0) (w_fi ws (n_v vs 0) 1) (w_fi ws (n_v vs 0) 17) (w_ei ws (w_ar ws (n_v vs 0) 16)) (w_ei ws (w_ar ws (n_v vs 0) 14)) (w_ei ws (w_ar ws (n_v vs 0) 7)) (w_ei ws (w_ar ws (n_v vs 0) 8)) (w_ei w1 (w_ar ws (n_v vs 0) 16)) (w_ei w1 (w_ar ws (n_v vs 0) 14)) (w_ei w1 (w_ar ws (n_v vs 0) 7)) (w_ei w1 (w_ar ws (n_v vs 0) 8)) (w_fi w1 (n_v vs 0) 0) (w_fi w1 (n_v vs 0) 1) (w_ei w2 (w_ar ws (n_v vs 0) 16)) (w_fi w2 (n_v vs 0) 18) (w_ei w2 (w_ar ws (n_v vs 0) 14)) (w_ei w2 (w_ar ws (n_v vs 0) 7)) (w_ei w2 (w_ar ws (n_v vs 0) 8)) (w_fi w2 (n_v vs 0) 0) (w_fi w2 (n_v vs 0) 1) (w_fi w1 (n_v vs 0) 17) (w_fi w1 (n_v vs 0) 18) k11 k16 d0 f18 fe_0_0_1 fe_0_1_1 fe_0_17_1 fe_0_0_2 fe_0_1_2 fe_0_18_2 hE_0_7_1 hE_0_7_2 hE_0_8_1 hE_0_8_2 hE_0_14_1 hE_0_14_2 hE_0_16_1 hE_0_16_2 kz_0_0 kz_0_1 kz_0_17)⟩
  refine ⟨(fun _ h => (by cases h)), [], trivial, ?_, (fun _ h => (by cases h))⟩
  rw [List.append_nil]
  exact List.forall_mem_cons.mpr ⟨⟨show (20 : Nat) < 100 from by decide, nf0⟩, (fun _ h => (by cases h))⟩
set_option maxHeartbeats 4000000 in
theorem vc_Gr_alter_at_kx_18_0 (x16 : Int) (x17 : Int) (undone_0 : Int) (done_0 : Int) (k16 : 1 ≤ x16 ∧ x16 ≤ 30) (k17 : 0 ≤ x17 ∧ x17 ≤ 0) (g0 : x17 = undone_0) (g1 : x16 = done_0) (kz_0_17 : 0 ≤ done_0 ∧ done_0 ≤ 30) (kz_0_18 : 0 ≤ undone_0 ∧ undone_0 ≤ 30) : (done_0 + undone_0) ≤ 30 := by
  first
    | omega
  
set_option maxHeartbeats 4000000 in
theorem vc_Gr_alter_at_kx_18_1 (x16 : Int) (x17 : Int) (undone_0 : Int) (done_0 : Int) (past_0 : Int → Int) (k16 : 1 ≤ x16 ∧ x16 ≤ 30) (k17 : 0 ≤ x17 ∧ x17 ≤ 0) (g0 : x17 = undone_0) (g1 : x16 = done_0) (f8 : PRI (past_0) (x16)) (kz_0_17 : 0 ≤ done_0 ∧ done_0 ≤ 30) (kz_0_18 : 0 ≤ undone_0 ∧ undone_0 ≤ 30) : PDQ (done_0) (undone_0) (past_0) := by
  first
    | assumption
    | exact pri_pdq ‹PRI _ _› (by omega) (by omega)
  
def o_Gr_alter_at_kx_18 : or_T := (87, 18, [(0, (2, 0, 0, [3])), (5, (0, 0, 24, [])), (7, (2, 0, 0, [52])), (8, (2, 0, 0, [53])), (10, (2, 0, 0, [61])), (11, (0, 0, 29, [])), (13, (0, 0, 47, [])), (14, (0, 30, 30, [])), (15, (0, 1, 1, [])), (16, (0, 1, 30, [])), (17, (0, 0, 0, []))], [(9, [17, 0], [18]), (9, [16, 0], [17]), (9, [5, 0], [0]), (9, [13, 0], [1]), (9, [7, 0], [7]), (9, [8, 0], [8]), (9, [10, 0], [16]), (20, [0], [60, 2, 3, 670, 0, 1, 14, 7, 8]), (20, [0, 16], [60, 0, 1, 738, 16]), (20, [0], [60, 2, 2, 596, 0, 1, 7, 8]), (102, [17], [2305843009213693952]), (101, [0, 17], [18]), (101, [0, 16], [17]), (1, [16, 11, 15], []), (7, [11, 14], [1]), (102, [11], [381944245562716141175333566576758405197150323812363046994276334253946495506784008380874752, 3000, 3001]), (102, [11], [2305843009213693952]), (101, [0, 10], [16])], [], [], [(20, [0], [50, 2, 0, 17, 18, 0, 8, 4, 3, 2, 0, 17, 2, 0, 18, 0, 30]), (20, [0], [60, 2, 1, 739, 17, 18, 16])], [], [(16, 11, 1, 1)])
theorem oo_Gr_alter_at_kx_18 {kA : Nat → ClassId} : or_ok PRD kA GG o_Gr_alter_at_kx_18 := by
  refine or_mk fun A ta ws vs hD hth hl => ?_
  intro t0 r0 t5 k5 t7 r7 t8 r8 t10 r10 t11 k11 t13 k13 t14 k14 t15 k15 t16 k16 t17 k17 d0 f0 f1 f2 f3 f4 f5 f6 f7 f8 f9 ta1 w1 le1 s1 ta2 w2 le2 s2 ta3 w3 le3 s3 f13 f14 ta4 w4 le4 s4 ta5 w5 le5 s5 ta6 w6 le6 s6
  replace f0 := shm_799 f0
  replace f1 := shm_795 f1
  have g0 : v_iv (n_v vs 17) = w_fi ws (n_v vs 0) 18 := congrArg v_iv f0
  have g1 : v_iv (n_v vs 16) = w_fi ws (n_v vs 0) 17 := congrArg v_iv f1
  have kz_0_17 := fdq_288 hD hth r0
  have kz_0_18 := fdq_289 hD hth r0
  have nf0 : fc_1 PRD (20, [0], [50, 2, 0, 17, 18, 0, 8, 4, 3, 2, 0, 17, 2, 0, 18, 0, 30]) ws (vs) := ⟨nf_in hl rfl, sgq_1511 (vc_Gr_alter_at_kx_18_0 (v_iv (n_v vs 16)) (v_iv (n_v vs 17)) (w_fi ws (n_v vs 0) 18) (w_fi ws (n_v vs 0) 17) k16 k17 g0 g1 kz_0_17 kz_0_18)⟩
  have nf1 : fc_1 PRD (20, [0], [60, 2, 1, 739, 17, 18, 16]) ws (vs) := ⟨nf_in hl rfl, sgq_1361 (vc_Gr_alter_at_kx_18_1 (v_iv (n_v vs 16)) (v_iv (n_v vs 17)) (w_fi ws (n_v vs 0) 18) (w_fi ws (n_v vs 0) 17) (w_ei ws (w_ar ws (n_v vs 0) 16)) k16 k17 g0 g1 (shm_855 f8) kz_0_17 kz_0_18)⟩
  refine ⟨(fun _ h => (by cases h)), [], trivial, ?_, (fun _ h => (by cases h))⟩
  rw [List.append_nil]
  exact List.forall_mem_cons.mpr ⟨⟨show (20 : Nat) < 100 from by decide, nf0⟩, List.forall_mem_cons.mpr ⟨⟨show (20 : Nat) < 100 from by decide, nf1⟩, (fun _ h => (by cases h))⟩⟩
set_option maxHeartbeats 4000000 in
theorem vc_Gr_alter_at_kx_19_0 (x15 : Int) (x17 : Int) (k15 : 122 ≤ x15 ∧ x15 ≤ 122) (k17 : 3660 ≤ x17 ∧ x17 ≤ 3660) : x15 + x17 ≤ 3782 := by
  first
    | omega
  
set_option maxHeartbeats 4000000 in
theorem vc_Gr_alter_at_kx_19_1 (x16 : Int) (x17 : Int) (k16 : 0 ≤ x16 ∧ x16 ≤ 0) (k17 : 3660 ≤ x17 ∧ x17 ≤ 3660) : x16 + x17 ≤ 3782 := by
  first
    | omega
  
set_option maxHeartbeats 4000000 in
theorem vc_Gr_alter_at_kx_19_2 (x11 : Int) (x15 : Int) (x16 : Int) (x17 : Int) (a10_0 : Int → Int) (k11 : 30 ≤ x11 ∧ x11 ≤ 30) (k15 : 122 ≤ x15 ∧ x15 ≤ 122) (k16 : 0 ≤ x16 ∧ x16 ≤ 0) (k17 : 3660 ≤ x17 ∧ x17 ≤ 3660) (f6 : PNI (a10_0) (x11)) : MV1 (a10_0) (a10_0) (x15) (x16) (x17) := by
  first
    | exact ⟨by omega, by omega, by omega, fun r a b => (‹PNI _ _›) r a (by omega)⟩
  
def o_Gr_alter_at_kx_19 : or_T := (56, 18, [(11, (0, 30, 30, [])), (15, (0, 122, 122, [])), (16, (0, 0, 0, [])), (17, (0, 3660, 3660, []))], [(20, [10, 11], [61, 1, 762])], [], [], [(21, [15, 17], [3782]), (21, [16, 17], [3782]), (20, [10, 10, 15, 16, 17], [61, 2, 763])], [], [])
theorem oo_Gr_alter_at_kx_19 {kA : Nat → ClassId} : or_ok PRD kA GG o_Gr_alter_at_kx_19 := by
  refine or_mk fun A ta ws vs hD hth hl => ?_
  intro t11 k11 t15 k15 t16 k16 t17 k17 f6
  have nf0 : fc_1 PRD (21, [15, 17], [3782]) ws (vs) := ⟨nf_in hl rfl, sgq_1833 (vc_Gr_alter_at_kx_19_0 (v_iv (n_v vs 15)) (v_iv (n_v vs 17)) k15 k17)⟩
  have nf1 : fc_1 PRD (21, [16, 17], [3782]) ws (vs) := ⟨nf_in hl rfl, sgq_1833 (vc_Gr_alter_at_kx_19_1 (v_iv (n_v vs 16)) (v_iv (n_v vs 17)) k16 k17)⟩
  have nf2 : fc_1 PRD (20, [10, 10, 15, 16, 17], [61, 2, 763]) ws (vs) := ⟨nf_in hl rfl, sgq_1834 (vc_Gr_alter_at_kx_19_2 (v_iv (n_v vs 11)) (v_iv (n_v vs 15)) (v_iv (n_v vs 16)) (v_iv (n_v vs 17)) (w_ei ws (v_ad (n_v vs 10))) k11 k15 k16 k17 (shm_1832 f6))⟩
  refine ⟨(fun _ h => (by cases h)), [], trivial, ?_, (fun _ h => (by cases h))⟩
  rw [List.append_nil]
  exact List.forall_mem_cons.mpr ⟨⟨show (21 : Nat) < 100 from by decide, nf0⟩, List.forall_mem_cons.mpr ⟨⟨show (21 : Nat) < 100 from by decide, nf1⟩, List.forall_mem_cons.mpr ⟨⟨show (20 : Nat) < 100 from by decide, nf2⟩, (fun _ h => (by cases h))⟩⟩⟩
set_option maxHeartbeats 4000000 in
theorem vc_Gr_alter_at_kx_20_0 (x11 : Int) (x15 : Int) (x16 : Int) (x17 : Int) (nodes_0 : Int) (edges_0 : Int) (done_0 : Int) (near_0 : Int → Int) (tail_0 : Int → Int) (head_0 : Int → Int) (past_0 : Int → Int) (done_1 : Int) (near_1 : Int → Int) (tail_1 : Int → Int) (head_1 : Int → Int) (nodes_1 : Int) (edges_1 : Int) (past_1 : Int → Int) (k11 : 30 ≤ x11 ∧ x11 ≤ 30) (k15 : 122 ≤ x15 ∧ x15 ≤ 122) (k16 : 0 ≤ x16 ∧ x16 ≤ 0) (k17 : 3660 ≤ x17 ∧ x17 ≤ 3660) (f18 : MV2 (past_1) (past_1) (x15) (x16) (x17)) (fe_0_0_1 : nodes_0 = nodes_1) (fe_0_1_1 : edges_0 = edges_1) (fe_0_17_1 : done_0 = done_1) (hE_0_7_1 : ∀ j : Int, tail_0 j = tail_1 j) (hE_0_8_1 : ∀ j : Int, head_0 j = head_1 j) (hE_0_14_1 : ∀ j : Int, near_0 j = near_1 j) (hE_0_16_1 : ∀ j : Int, past_0 j = past_1 j) (kz_0_0 : 0 ≤ nodes_0 ∧ nodes_0 ≤ 24) (kz_0_1 : 0 ≤ edges_0 ∧ edges_0 ≤ 48) (kz_0_17 : 0 ≤ done_0 ∧ done_0 ≤ 30) : PRO (past_0) (x11) := by
  subst fe_0_0_1
  subst fe_0_1_1
  subst fe_0_17_1
  have e_hE_0_7_1 := funext hE_0_7_1; subst e_hE_0_7_1
  have e_hE_0_8_1 := funext hE_0_8_1; subst e_hE_0_8_1
  have e_hE_0_14_1 := funext hE_0_14_1; subst e_hE_0_14_1
  have e_hE_0_16_1 := funext hE_0_16_1; subst e_hE_0_16_1
  first
    | exact pro_pdq ‹PDQ _ _ _› (by omega) (by omega)
    | exact pri_pro ‹PNI _ _› (by omega)
    | (have q := (‹MV2 _ _ _ _ _›); exact fun r a b => q r a (by omega))
    | exact pro_zero (by omega) (fun j a b => by have q := hT10 j a (by omega); omega)
  
def o_Gr_alter_at_kx_20 : or_T := (82, 19, [(0, (2, 0, 0, [3])), (11, (0, 30, 30, [])), (15, (0, 122, 122, [])), (16, (0, 0, 0, [])), (17, (0, 3660, 3660, []))], [(9, [10, 0], [16]), (101, [0, 18], [18]), (20, [10, 10, 15, 16, 17], [61, 2, 764])], [], [], [(20, [0, 11], [60, 0, 1, 737, 16])], [], [])
theorem oo_Gr_alter_at_kx_20 {kA : Nat → ClassId} : or_ok PRD kA GG o_Gr_alter_at_kx_20 := by
  refine or_mk fun A ta ws vs hD hth hl => ?_
  intro t0 r0 t11 k11 t15 k15 t16 k16 t17 k17 f5 ta1 w1 le1 s1 f18
  replace f5 := shm_176 f5
  have s1 : (∀ b j, w_el ws b j = w_el w1 b j) ∧ ∀ b j, w_fd ws b j = if b = v_ad (n_v vs 0) ∧ j = 18 then n_v vs 18 else w_fd w1 b j := s1.2
  replace f18 := shm_1835 f18
  have ar_0_7_1 : w_ar w1 (n_v vs 0) 7 = w_ar ws (n_v vs 0) 7 := by show v_ad (w_fd w1 _ _) = v_ad (w_fd ws _ _); rw [s1.2, if_neg (fun e => absurd e.2 (by decide))]
  have ar_0_8_1 : w_ar w1 (n_v vs 0) 8 = w_ar ws (n_v vs 0) 8 := by show v_ad (w_fd w1 _ _) = v_ad (w_fd ws _ _); rw [s1.2, if_neg (fun e => absurd e.2 (by decide))]
  have ar_0_14_1 : w_ar w1 (n_v vs 0) 14 = w_ar ws (n_v vs 0) 14 := by show v_ad (w_fd w1 _ _) = v_ad (w_fd ws _ _); rw [s1.2, if_neg (fun e => absurd e.2 (by decide))]
  have ad_10 : v_ad (n_v vs 10) = w_ar ws (n_v vs 0) 16 := congrArg v_ad f5
  simp only [ad_10, ar_0_7_1, ar_0_8_1, ar_0_14_1] at f18
  have fe_0_0_1 : w_fi ws (n_v vs 0) 0 = w_fi w1 (n_v vs 0) 0 := by show v_iv (w_fd _ _ _) = v_iv (w_fd _ _ _); rw [s1.2, if_neg (fun e => absurd e.2 (by decide))]
  have fe_0_1_1 : w_fi ws (n_v vs 0) 1 = w_fi w1 (n_v vs 0) 1 := by show v_iv (w_fd _ _ _) = v_iv (w_fd _ _ _); rw [s1.2, if_neg (fun e => absurd e.2 (by decide))]
  have fe_0_17_1 : w_fi ws (n_v vs 0) 17 = w_fi w1 (n_v vs 0) 17 := by show v_iv (w_fd _ _ _) = v_iv (w_fd _ _ _); rw [s1.2, if_neg (fun e => absurd e.2 (by decide))]
  have hE_0_7_1 : ∀ j : Int, w_ei ws (w_ar ws (n_v vs 0) 7) j = w_ei w1 (w_ar ws (n_v vs 0) 7) j := fun j => s1.1 _ _
  have hE_0_8_1 : ∀ j : Int, w_ei ws (w_ar ws (n_v vs 0) 8) j = w_ei w1 (w_ar ws (n_v vs 0) 8) j := fun j => s1.1 _ _
  have hE_0_14_1 : ∀ j : Int, w_ei ws (w_ar ws (n_v vs 0) 14) j = w_ei w1 (w_ar ws (n_v vs 0) 14) j := fun j => s1.1 _ _
  have hE_0_16_1 : ∀ j : Int, w_ei ws (w_ar ws (n_v vs 0) 16) j = w_ei w1 (w_ar ws (n_v vs 0) 16) j := fun j => s1.1 _ _
  have kz_0_0 := fdq_21 hD hth r0
  have kz_0_1 := fdq_30 hD hth r0
  have kz_0_17 := fdq_288 hD hth r0
  have nf0 : fc_1 PRD (20, [0, 11], [60, 0, 1, 737, 16]) ws (vs) := ⟨nf_in hl rfl, sgq_850 (vc_Gr_alter_at_kx_20_0 (v_iv (n_v vs 11)) (v_iv (n_v vs 15)) (v_iv (n_v vs 16)) (v_iv (n_v vs 17)) (w_fi ws (n_v vs 0) 0) (w_fi ws (n_v vs 0) 1) (w_fi ws (n_v vs 0) 17) (w_ei ws (w_ar ws (n_v vs 0) 14)) (w_ei ws (w_ar ws (n_v vs 0) 7)) (w_ei ws (w_ar ws (n_v vs 0) 8)) (w_ei ws (w_ar ws (n_v vs 0) 16)) (w_fi w1 (n_v vs 0) 17) (w_ei w1 (w_ar ws (n_v vs 0) 14)) (w_ei w1 (w_ar ws (n_v vs 0) 7)) (w_ei w1 (w_ar ws (n_v vs 0) 8)) (w_fi w1 (n_v vs 0) 0) (w_fi w1 (n_v vs 0) 1) (w_ei w1 (w_ar ws (n_v vs 0) 16)) k11 k15 k16 k17 f18 fe_0_0_1 fe_0_1_1 fe_0_17_1 hE_0_7_1 hE_0_8_1 hE_0_14_1 hE_0_16_1 kz_0_0 kz_0_1 kz_0_17)⟩
  refine ⟨(fun _ h => (by cases h)), [], trivial, ?_, (fun _ h => (by cases h))⟩
  rw [List.append_nil]
  exact List.forall_mem_cons.mpr ⟨⟨show (20 : Nat) < 100 from by decide, nf0⟩, (fun _ h => (by cases h))⟩
set_option maxHeartbeats 4000000 in
theorem vc_Gr_alter_at_kx_21_0 (x11 : Int) (x18 : Int) (undone_0 : Int) (done_0 : Int) (k11 : 30 ≤ x11 ∧ x11 ≤ 30) (k18 : 0 ≤ x18 ∧ x18 ≤ 0) (g0 : x18 = undone_0) (g5 : x11 = done_0) (kz_0_17 : 0 ≤ done_0 ∧ done_0 ≤ 30) (kz_0_18 : 0 ≤ undone_0 ∧ undone_0 ≤ 30) : (done_0 + undone_0) ≤ 30 := by
  first
    | omega
  
set_option maxHeartbeats 4000000 in
theorem vc_Gr_alter_at_kx_21_1 (x11 : Int) (x18 : Int) (undone_0 : Int) (done_0 : Int) (past_0 : Int → Int) (k11 : 30 ≤ x11 ∧ x11 ≤ 30) (k18 : 0 ≤ x18 ∧ x18 ≤ 0) (g0 : x18 = undone_0) (g5 : x11 = done_0) (f8 : PRI (past_0) (x11)) (kz_0_17 : 0 ≤ done_0 ∧ done_0 ≤ 30) (kz_0_18 : 0 ≤ undone_0 ∧ undone_0 ≤ 30) : PDQ (done_0) (undone_0) (past_0) := by
  first
    | assumption
    | exact pri_pdq ‹PRI _ _› (by omega) (by omega)
  
def o_Gr_alter_at_kx_21 : or_T := (87, 19, [(0, (2, 0, 0, [3])), (11, (0, 30, 30, [])), (18, (0, 0, 0, []))], [(9, [18, 0], [18]), (9, [11, 0], [17]), (20, [0, 11], [60, 0, 1, 738, 16])], [], [], [(20, [0], [50, 2, 0, 17, 18, 0, 8, 4, 3, 2, 0, 17, 2, 0, 18, 0, 30]), (20, [0], [60, 2, 1, 739, 17, 18, 16])], [], [])
theorem oo_Gr_alter_at_kx_21 {kA : Nat → ClassId} : or_ok PRD kA GG o_Gr_alter_at_kx_21 := by
  refine or_mk fun A ta ws vs hD hth hl => ?_
  intro t0 r0 t11 k11 t18 k18 f0 f5 f8
  replace f0 := shm_799 f0
  replace f5 := shm_795 f5
  have g0 : v_iv (n_v vs 18) = w_fi ws (n_v vs 0) 18 := congrArg v_iv f0
  have g5 : v_iv (n_v vs 11) = w_fi ws (n_v vs 0) 17 := congrArg v_iv f5
  have kz_0_17 := fdq_288 hD hth r0
  have kz_0_18 := fdq_289 hD hth r0
  have nf0 : fc_1 PRD (20, [0], [50, 2, 0, 17, 18, 0, 8, 4, 3, 2, 0, 17, 2, 0, 18, 0, 30]) ws (vs) := ⟨nf_in hl rfl, sgq_1511 (vc_Gr_alter_at_kx_21_0 (v_iv (n_v vs 11)) (v_iv (n_v vs 18)) (w_fi ws (n_v vs 0) 18) (w_fi ws (n_v vs 0) 17) k11 k18 g0 g5 kz_0_17 kz_0_18)⟩
  have nf1 : fc_1 PRD (20, [0], [60, 2, 1, 739, 17, 18, 16]) ws (vs) := ⟨nf_in hl rfl, sgq_1361 (vc_Gr_alter_at_kx_21_1 (v_iv (n_v vs 11)) (v_iv (n_v vs 18)) (w_fi ws (n_v vs 0) 18) (w_fi ws (n_v vs 0) 17) (w_ei ws (w_ar ws (n_v vs 0) 16)) k11 k18 g0 g5 (shm_855 f8) kz_0_17 kz_0_18)⟩
  refine ⟨(fun _ h => (by cases h)), [], trivial, ?_, (fun _ h => (by cases h))⟩
  rw [List.append_nil]
  exact List.forall_mem_cons.mpr ⟨⟨show (20 : Nat) < 100 from by decide, nf0⟩, List.forall_mem_cons.mpr ⟨⟨show (20 : Nat) < 100 from by decide, nf1⟩, (fun _ h => (by cases h))⟩⟩
set_option maxHeartbeats 4000000 in
theorem vc_Gr_alter_at_kx_22_0 (x11 : Int) (x15 : Int) (done_0 : Int) (past_0 : Int → Int) (near_0 : Int → Int) (tail_0 : Int → Int) (head_0 : Int → Int) (nodes_0 : Int) (edges_0 : Int) (past_1 : Int → Int) (near_1 : Int → Int) (tail_1 : Int → Int) (head_1 : Int → Int) (nodes_1 : Int) (edges_1 : Int) (past_2 : Int → Int) (undone_2 : Int) (near_2 : Int → Int) (tail_2 : Int → Int) (head_2 : Int → Int) (nodes_2 : Int) (edges_2 : Int) (done_1 : Int) (undone_1 : Int) (k11 : 0 ≤ x11 ∧ x11 ≤ 29) (k15 : 1 ≤ x15 ∧ x15 ≤ 30) (d0 : x11 + 1 ≤ x15 ∧ x15 ≤ x11 + 1) (f16 : PNI (past_2) (x11)) (fe_0_0_1 : nodes_0 = nodes_1) (fe_0_1_1 : edges_0 = edges_1) (fe_0_17_1 : done_0 = done_1) (fe_0_0_2 : nodes_1 = nodes_2) (fe_0_1_2 : edges_1 = edges_2) (fe_0_18_2 : undone_1 = undone_2) (hE_0_7_1 : ∀ j : Int, tail_0 j = tail_1 j) (hE_0_7_2 : ∀ j : Int, tail_1 j = tail_2 j) (hE_0_8_1 : ∀ j : Int, head_0 j = head_1 j) (hE_0_8_2 : ∀ j : Int, head_1 j = head_2 j) (hE_0_14_1 : ∀ j : Int, near_0 j = near_1 j) (hE_0_14_2 : ∀ j : Int, near_1 j = near_2 j) (hE_0_16_1 : ∀ j : Int, past_0 j = past_1 j) (hE_0_16_2 : ∀ j : Int, past_1 j = past_2 j) (kz_0_0 : 0 ≤ nodes_0 ∧ nodes_0 ≤ 24) (kz_0_1 : 0 ≤ edges_0 ∧ edges_0 ≤ 48) (kz_0_17 : 0 ≤ done_0 ∧ done_0 ≤ 30) : PRO (past_0) (x15) := by
  subst fe_0_0_1
  subst fe_0_1_1
  subst fe_0_17_1
  subst fe_0_0_2
  subst fe_0_1_2
  subst fe_0_18_2
  have e_hE_0_7_1 := funext hE_0_7_1; subst e_hE_0_7_1
  have e_hE_0_7_2 := funext hE_0_7_2; subst e_hE_0_7_2
  have e_hE_0_8_1 := funext hE_0_8_1; subst e_hE_0_8_1
  have e_hE_0_8_2 := funext hE_0_8_2; subst e_hE_0_8_2
  have e_hE_0_14_1 := funext hE_0_14_1; subst e_hE_0_14_1
  have e_hE_0_14_2 := funext hE_0_14_2; subst e_hE_0_14_2
  have e_hE_0_16_1 := funext hE_0_16_1; subst e_hE_0_16_1
  have e_hE_0_16_2 := funext hE_0_16_2; subst e_hE_0_16_2
  first
    | exact pro_pdq ‹PDQ _ _ _› (by omega) (by omega)
    | exact pri_pro ‹PNI _ _› (by omega)
    | (have q := (‹MV2 _ _ _ _ _›); exact fun r a b => q r a (by omega))
    | exact pro_zero (by omega) (fun j a b => by have q := hT10 j a (by omega); omega)
  
def o_Gr_alter_at_kx_22 : or_T := (82, 17, [(0, (2, 0, 0, [3])), (7, (2, 0, 0, [52])), (8, (2, 0, 0, [53])), (10, (2, 0, 0, [61])), (11, (0, 0, 29, [])), (13, (0, 30, 30, [])), (14, (0, 1, 1, [])), (15, (0, 1, 30, [])), (16, (0, 0, 0, []))], [(9, [16, 0], [18]), (9, [7, 0], [7]), (9, [8, 0], [8]), (9, [10, 0], [16]), (9, [15, 0], [17]), (20, [10, 11], [61, 1, 762]), (20, [0], [60, 2, 3, 670, 0, 1, 14, 7, 8]), (20, [0], [60, 2, 2, 596, 0, 1, 7, 8]), (101, [0, 16], [18]), (20, [10, 11], [61, 1, 762]), (20, [0], [60, 2, 3, 670, 0, 1, 14, 7, 8]), (20, [0], [60, 2, 2, 596, 0, 1, 7, 8]), (101, [0, 15], [17]), (1, [15, 11, 14], []), (9, [11, 0], [17]), (7, [11, 13], [1]), (20, [10, 11], [61, 1, 762]), (20, [0], [50, 2, 0, 17, 18, 0, 8, 4, 3, 2, 0, 17, 2, 0, 18, 0, 30]), (20, [0], [60, 2, 3, 670, 0, 1, 14, 7, 8]), (20, [0], [60, 2, 2, 596, 0, 1, 7, 8]), (102, [11], [381944245562716141175333566576758405197150323812363046994276334253946495506784008380874752, 3000, 3001]), (102, [11], [2305843009213693952]), (101, [0, 10], [16])], [], [], [(20, [0, 15], [60, 0, 1, 737, 16])], [], [(15, 11, 1, 1)])
theorem oo_Gr_alter_at_kx_22 {kA : Nat → ClassId} : or_ok PRD kA GG o_Gr_alter_at_kx_22 := by
  refine or_mk fun A ta ws vs hD hth hl => ?_
  intro t0 r0 t7 r7 t8 r8 t10 r10 t11 k11 t13 k13 t14 k14 t15 k15 t16 k16 d0 f0 f1 f2 f3 f4 f5 f6 f7 ta1 w1 le1 s1 f9 f10 f11 ta2 w2 le2 s2 f13 f14 f15 f16 f17 f18 f19 ta3 w3 le3 s3 ta4 w4 le4 s4 ta5 w5 le5 s5
  replace f3 := shm_176 f3
  have s1 : (∀ b j, w_el ws b j = w_el w1 b j) ∧ ∀ b j, w_fd ws b j = if b = v_ad (n_v vs 0) ∧ j = 18 then n_v vs 16 else w_fd w1 b j := s1.2
  have s2 : (∀ b j, w_el w1 b j = w_el w2 b j) ∧ ∀ b j, w_fd w1 b j = if b = v_ad (n_v vs 0) ∧ j = 17 then n_v vs 15 else w_fd w2 b j := s2.2
  replace f16 := shm_1832 f16
  have ar_0_7_1 : w_ar w1 (n_v vs 0) 7 = w_ar ws (n_v vs 0) 7 := by show v_ad (w_fd w1 _ _) = v_ad (w_fd ws _ _); rw [s1.2, if_neg (fun e => absurd e.2 (by decide))]
  have ar_0_7_2 : w_ar w2 (n_v vs 0) 7 = w_ar ws (n_v vs 0) 7 := by rw [← ar_0_7_1]; show v_ad (w_fd w2 _ _) = v_ad (w_fd w1 _ _); rw [s2.2, if_neg (fun e => absurd e.2 (by decide))]
  have ar_0_8_1 : w_ar w1 (n_v vs 0) 8 = w_ar ws (n_v vs 0) 8 := by show v_ad (w_fd w1 _ _) = v_ad (w_fd ws _ _); rw [s1.2, if_neg (fun e => absurd e.2 (by decide))]
  have ar_0_8_2 : w_ar w2 (n_v vs 0) 8 = w_ar ws (n_v vs 0) 8 := by rw [← ar_0_8_1]; show v_ad (w_fd w2 _ _) = v_ad (w_fd w1 _ _); rw [s2.2, if_neg (fun e => absurd e.2 (by decide))]
  have ar_0_14_1 : w_ar w1 (n_v vs 0) 14 = w_ar ws (n_v vs 0) 14 := by show v_ad (w_fd w1 _ _) = v_ad (w_fd ws _ _); rw [s1.2, if_neg (fun e => absurd e.2 (by decide))]
  have ar_0_14_2 : w_ar w2 (n_v vs 0) 14 = w_ar ws (n_v vs 0) 14 := by rw [← ar_0_14_1]; show v_ad (w_fd w2 _ _) = v_ad (w_fd w1 _ _); rw [s2.2, if_neg (fun e => absurd e.2 (by decide))]
  have ad_10 : v_ad (n_v vs 10) = w_ar ws (n_v vs 0) 16 := congrArg v_ad f3
  simp only [ad_10, ar_0_7_2, ar_0_8_2, ar_0_14_2] at f16
  have fe_0_0_1 : w_fi ws (n_v vs 0) 0 = w_fi w1 (n_v vs 0) 0 := by show v_iv (w_fd _ _ _) = v_iv (w_fd _ _ _); rw [s1.2, if_neg (fun e => absurd e.2 (by decide))]
  have fe_0_1_1 : w_fi ws (n_v vs 0) 1 = w_fi w1 (n_v vs 0) 1 := by show v_iv (w_fd _ _ _) = v_iv (w_fd _ _ _); rw [s1.2, if_neg (fun e => absurd e.2 (by decide))]
  have fe_0_17_1 : w_fi ws (n_v vs 0) 17 = w_fi w1 (n_v vs 0) 17 := by show v_iv (w_fd _ _ _) = v_iv (w_fd _ _ _); rw [s1.2, if_neg (fun e => absurd e.2 (by decide))]
  have fe_0_0_2 : w_fi w1 (n_v vs 0) 0 = w_fi w2 (n_v vs 0) 0 := by show v_iv (w_fd _ _ _) = v_iv (w_fd _ _ _); rw [s2.2, if_neg (fun e => absurd e.2 (by decide))]
  have fe_0_1_2 : w_fi w1 (n_v vs 0) 1 = w_fi w2 (n_v vs 0) 1 := by show v_iv (w_fd _ _ _) = v_iv (w_fd _ _ _); rw [s2.2, if_neg (fun e => absurd e.2 (by decide))]
  have fe_0_18_2 : w_fi w1 (n_v vs 0) 18 = w_fi w2 (n_v vs 0) 18 := by show v_iv (w_fd _ _ _) = v_iv (w_fd _ _ _); rw [s2.2, if_neg (fun e => absurd e.2 (by decide))]
  have hE_0_7_1 : ∀ j : Int, w_ei ws (w_ar ws (n_v vs 0) 7) j = w_ei w1 (w_ar ws (n_v vs 0) 7) j := fun j => s1.1 _ _
  have hE_0_7_2 : ∀ j : Int, w_ei w1 (w_ar ws (n_v vs 0) 7) j = w_ei w2 (w_ar ws (n_v vs 0) 7) j := fun j => s2.1 _ _
  have hE_0_8_1 : ∀ j : Int, w_ei ws (w_ar ws (n_v vs 0) 8) j = w_ei w1 (w_ar ws (n_v vs 0) 8) j := fun j => s1.1 _ _
  have hE_0_8_2 : ∀ j : Int, w_ei w1 (w_ar ws (n_v vs 0) 8) j = w_ei w2 (w_ar ws (n_v vs 0) 8) j := fun j => s2.1 _ _
  have hE_0_14_1 : ∀ j : Int, w_ei ws (w_ar ws (n_v vs 0) 14) j = w_ei w1 (w_ar ws (n_v vs 0) 14) j := fun j => s1.1 _ _
  have hE_0_14_2 : ∀ j : Int, w_ei w1 (w_ar ws (n_v vs 0) 14) j = w_ei w2 (w_ar ws (n_v vs 0) 14) j := fun j => s2.1 _ _
  have hE_0_16_1 : ∀ j : Int, w_ei ws (w_ar ws (n_v vs 0) 16) j = w_ei w1 (w_ar ws (n_v vs 0) 16) j := fun j => s1.1 _ _
  have hE_0_16_2 : ∀ j : Int, w_ei w1 (w_ar ws (n_v vs 0) 16) j = w_ei w2 (w_ar ws (n_v vs 0) 16) j := fun j => s2.1 _ _
  have kz_0_0 := fdq_21 hD hth r0
  have kz_0_1 := fdq_30 hD hth r0
  have kz_0_17 := fdq_288 hD hth r0
  have nf0 : fc_1 PRD (20, [0, 15], [60, 0, 1, 737, 16]) ws (vs) := ⟨nf_in hl rfl, sgq_850 (vc_Gr_alter_at_kx_22_0 (v_iv (n_v vs 11)) (v_iv (n_v vs 15)) (w_fi ws (n_v vs 0) 17) (w_ei ws (w_ar ws (n_v vs 0) 16)) (w_ei ws (w_ar ws (n_v vs 0) 14)) (w_ei ws (w_ar ws (n_v vs 0) 7)) (w_ei ws (w_ar ws (n_v vs 0) 8)) (w_fi ws (n_v vs 0) 0) (w_fi ws (n_v vs 0) 1) (w_ei w1 (w_ar ws (n_v vs 0) 16)) (w_ei w1 (w_ar ws (n_v vs 0) 14)) (w_ei w1 (w_ar ws (n_v vs 0) 7)) (w_ei w1 (w_ar ws (n_v vs 0) 8)) (w_fi w1 (n_v vs 0) 0) (w_fi w1 (n_v vs 0) 1) (w_ei w2 (w_ar ws (n_v vs 0) 16)) (w_fi w2 (n_v vs 0) 18) (w_ei w2 (w_ar ws (n_v vs 0) 14)) (w_ei w2 (w_ar ws (n_v vs 0) 7)) (w_ei w2 (w_ar ws (n_v vs 0) 8)) (w_fi w2 (n_v vs 0) 0) (w_fi w2 (n_v vs 0) 1) (w_fi w1 (n_v vs 0) 17) (w_fi w1 (n_v vs 0) 18) k11 k15 d0 f16 fe_0_0_1 fe_0_1_1 fe_0_17_1 fe_0_0_2 fe_0_1_2 fe_0_18_2 hE_0_7_1 hE_0_7_2 hE_0_8_1 hE_0_8_2 hE_0_14_1 hE_0_14_2 hE_0_16_1 hE_0_16_2 kz_0_0 kz_0_1 kz_0_17)⟩
  refine ⟨(fun _ h => (by cases h)), [], trivial, ?_, (fun _ h => (by cases h))⟩
  rw [List.append_nil]
  exact List.forall_mem_cons.mpr ⟨⟨show (20 : Nat) < 100 from by decide, nf0⟩, (fun _ h => (by cases h))⟩
set_option maxHeartbeats 4000000 in
theorem vc_Gr_alter_at_kx_23_0 (x11 : Int) (x15 : Int) (x16 : Int) (undone_0 : Int) (done_0 : Int) (k11 : 0 ≤ x11 ∧ x11 ≤ 29) (k15 : 1 ≤ x15 ∧ x15 ≤ 30) (k16 : 0 ≤ x16 ∧ x16 ≤ 0) (d0 : x11 + 1 ≤ x15 ∧ x15 ≤ x11 + 1) (g0 : x16 = undone_0) (g1 : x15 = done_0) (kz_0_17 : 0 ≤ done_0 ∧ done_0 ≤ 30) (kz_0_18 : 0 ≤ undone_0 ∧ undone_0 ≤ 30) : (done_0 + undone_0) ≤ 30 := by
  first
    | omega
  
set_option maxHeartbeats 4000000 in
theorem vc_Gr_alter_at_kx_23_1 (x15 : Int) (x16 : Int) (undone_0 : Int) (done_0 : Int) (past_0 : Int → Int) (k15 : 1 ≤ x15 ∧ x15 ≤ 30) (k16 : 0 ≤ x16 ∧ x16 ≤ 0) (g0 : x16 = undone_0) (g1 : x15 = done_0) (f6 : PRI (past_0) (x15)) (kz_0_17 : 0 ≤ done_0 ∧ done_0 ≤ 30) (kz_0_18 : 0 ≤ undone_0 ∧ undone_0 ≤ 30) : PDQ (done_0) (undone_0) (past_0) := by
  first
    | assumption
    | exact pri_pdq ‹PRI _ _› (by omega) (by omega)
  
def o_Gr_alter_at_kx_23 : or_T := (87, 17, [(0, (2, 0, 0, [3])), (7, (2, 0, 0, [52])), (8, (2, 0, 0, [53])), (10, (2, 0, 0, [61])), (11, (0, 0, 29, [])), (13, (0, 30, 30, [])), (14, (0, 1, 1, [])), (15, (0, 1, 30, [])), (16, (0, 0, 0, []))], [(9, [16, 0], [18]), (9, [15, 0], [17]), (9, [7, 0], [7]), (9, [8, 0], [8]), (9, [10, 0], [16]), (20, [0], [60, 2, 3, 670, 0, 1, 14, 7, 8]), (20, [0, 15], [60, 0, 1, 738, 16]), (20, [0], [60, 2, 2, 596, 0, 1, 7, 8]), (102, [16], [2305843009213693952]), (101, [0, 16], [18]), (101, [0, 15], [17]), (1, [15, 11, 14], []), (7, [11, 13], [1]), (102, [11], [381944245562716141175333566576758405197150323812363046994276334253946495506784008380874752, 3000, 3001]), (102, [11], [2305843009213693952]), (101, [0, 10], [16])], [], [], [(20, [0], [50, 2, 0, 17, 18, 0, 8, 4, 3, 2, 0, 17, 2, 0, 18, 0, 30]), (20, [0], [60, 2, 1, 739, 17, 18, 16])], [], [(15, 11, 1, 1)])
theorem oo_Gr_alter_at_kx_23 {kA : Nat → ClassId} : or_ok PRD kA GG o_Gr_alter_at_kx_23 := by
  refine or_mk fun A ta ws vs hD hth hl => ?_
  intro t0 r0 t7 r7 t8 r8 t10 r10 t11 k11 t13 k13 t14 k14 t15 k15 t16 k16 d0 f0 f1 f2 f3 f4 f5 f6 f7 ta1 w1 le1 s1 ta2 w2 le2 s2 ta3 w3 le3 s3 f11 f12 ta4 w4 le4 s4 ta5 w5 le5 s5 ta6 w6 le6 s6
  replace f0 := shm_799 f0
  replace f1 := shm_795 f1
  have g0 : v_iv (n_v vs 16) = w_fi ws (n_v vs 0) 18 := congrArg v_iv f0
  have g1 : v_iv (n_v vs 15) = w_fi ws (n_v vs 0) 17 := congrArg v_iv f1
  have kz_0_17 := fdq_288 hD hth r0
  have kz_0_18 := fdq_289 hD hth r0
  have nf0 : fc_1 PRD (20, [0], [50, 2, 0, 17, 18, 0, 8, 4, 3, 2, 0, 17, 2, 0, 18, 0, 30]) ws (vs) := ⟨nf_in hl rfl, sgq_1511 (vc_Gr_alter_at_kx_23_0 (v_iv (n_v vs 11)) (v_iv (n_v vs 15)) (v_iv (n_v vs 16)) (w_fi ws (n_v vs 0) 18) (w_fi ws (n_v vs 0) 17) k11 k15 k16 d0 g0 g1 kz_0_17 kz_0_18)⟩
  have nf1 : fc_1 PRD (20, [0], [60, 2, 1, 739, 17, 18, 16]) ws (vs) := ⟨nf_in hl rfl, sgq_1361 (vc_Gr_alter_at_kx_23_1 (v_iv (n_v vs 15)) (v_iv (n_v vs 16)) (w_fi ws (n_v vs 0) 18) (w_fi ws (n_v vs 0) 17) (w_ei ws (w_ar ws (n_v vs 0) 16)) k15 k16 g0 g1 (shm_855 f6) kz_0_17 kz_0_18)⟩
  refine ⟨(fun _ h => (by cases h)), [], trivial, ?_, (fun _ h => (by cases h))⟩
  rw [List.append_nil]
  exact List.forall_mem_cons.mpr ⟨⟨show (20 : Nat) < 100 from by decide, nf0⟩, List.forall_mem_cons.mpr ⟨⟨show (20 : Nat) < 100 from by decide, nf1⟩, (fun _ h => (by cases h))⟩⟩
set_option maxHeartbeats 4000000 in
theorem vc_Gr_alter_at_kx_24_0 (x14 : Int) (x16 : Int) (k14 : 122 ≤ x14 ∧ x14 ≤ 122) (k16 : 3660 ≤ x16 ∧ x16 ≤ 3660) : x14 + x16 ≤ 3782 := by
  first
    | omega
  
set_option maxHeartbeats 4000000 in
theorem vc_Gr_alter_at_kx_24_1 (x15 : Int) (x16 : Int) (k15 : 0 ≤ x15 ∧ x15 ≤ 0) (k16 : 3660 ≤ x16 ∧ x16 ≤ 3660) : x15 + x16 ≤ 3782 := by
  first
    | omega
  
set_option maxHeartbeats 4000000 in
theorem vc_Gr_alter_at_kx_24_2 (x11 : Int) (x14 : Int) (x15 : Int) (x16 : Int) (a10_0 : Int → Int) (k11 : 30 ≤ x11 ∧ x11 ≤ 30) (k14 : 122 ≤ x14 ∧ x14 ≤ 122) (k15 : 0 ≤ x15 ∧ x15 ≤ 0) (k16 : 3660 ≤ x16 ∧ x16 ≤ 3660) (f4 : PNI (a10_0) (x11)) : MV1 (a10_0) (a10_0) (x14) (x15) (x16) := by
  first
    | exact ⟨by omega, by omega, by omega, fun r a b => (‹PNI _ _›) r a (by omega)⟩
  
def o_Gr_alter_at_kx_24 : or_T := (56, 17, [(0, (2, 0, 0, [3])), (7, (2, 0, 0, [52])), (8, (2, 0, 0, [53])), (10, (2, 0, 0, [61])), (11, (0, 30, 30, [])), (13, (0, 30, 30, [])), (14, (0, 122, 122, [])), (15, (0, 0, 0, [])), (16, (0, 3660, 3660, []))], [(9, [7, 0], [7]), (9, [8, 0], [8]), (7, [11, 13], [0]), (9, [11, 0], [17]), (20, [10, 11], [61, 1, 762]), (20, [0], [50, 2, 0, 17, 18, 0, 8, 4, 3, 2, 0, 17, 2, 0, 18, 0, 30]), (20, [0], [60, 2, 3, 670, 0, 1, 14, 7, 8]), (20, [0], [60, 2, 2, 596, 0, 1, 7, 8])], [], [], [(21, [14, 16], [3782]), (21, [15, 16], [3782]), (20, [10, 10, 14, 15, 16], [61, 2, 763])], [], [])
theorem oo_Gr_alter_at_kx_24 {kA : Nat → ClassId} : or_ok PRD kA GG o_Gr_alter_at_kx_24 := by
  refine or_mk fun A ta ws vs hD hth hl => ?_
  intro t0 r0 t7 r7 t8 r8 t10 r10 t11 k11 t13 k13 t14 k14 t15 k15 t16 k16 f0 f1 f2 f3 f4 f5 f6 f7
  have nf0 : fc_1 PRD (21, [14, 16], [3782]) ws (vs) := ⟨nf_in hl rfl, sgq_1833 (vc_Gr_alter_at_kx_24_0 (v_iv (n_v vs 14)) (v_iv (n_v vs 16)) k14 k16)⟩
  have nf1 : fc_1 PRD (21, [15, 16], [3782]) ws (vs) := ⟨nf_in hl rfl, sgq_1833 (vc_Gr_alter_at_kx_24_1 (v_iv (n_v vs 15)) (v_iv (n_v vs 16)) k15 k16)⟩
  have nf2 : fc_1 PRD (20, [10, 10, 14, 15, 16], [61, 2, 763]) ws (vs) := ⟨nf_in hl rfl, sgq_1834 (vc_Gr_alter_at_kx_24_2 (v_iv (n_v vs 11)) (v_iv (n_v vs 14)) (v_iv (n_v vs 15)) (v_iv (n_v vs 16)) (w_ei ws (v_ad (n_v vs 10))) k11 k14 k15 k16 (shm_1832 f4))⟩
  refine ⟨(fun _ h => (by cases h)), [], trivial, ?_, (fun _ h => (by cases h))⟩
  rw [List.append_nil]
  exact List.forall_mem_cons.mpr ⟨⟨show (21 : Nat) < 100 from by decide, nf0⟩, List.forall_mem_cons.mpr ⟨⟨show (21 : Nat) < 100 from by decide, nf1⟩, List.forall_mem_cons.mpr ⟨⟨show (20 : Nat) < 100 from by decide, nf2⟩, (fun _ h => (by cases h))⟩⟩⟩
set_option maxHeartbeats 4000000 in
theorem vc_Gr_alter_at_kx_25_0 (x11 : Int) (x14 : Int) (x15 : Int) (x16 : Int) (done_0 : Int) (near_0 : Int → Int) (tail_0 : Int → Int) (head_0 : Int → Int) (nodes_0 : Int) (edges_0 : Int) (past_0 : Int → Int) (done_1 : Int) (near_1 : Int → Int) (tail_1 : Int → Int) (head_1 : Int → Int) (nodes_1 : Int) (edges_1 : Int) (past_1 : Int → Int) (k11 : 30 ≤ x11 ∧ x11 ≤ 30) (k14 : 122 ≤ x14 ∧ x14 ≤ 122) (k15 : 0 ≤ x15 ∧ x15 ≤ 0) (k16 : 3660 ≤ x16 ∧ x16 ≤ 3660) (f16 : MV2 (past_1) (past_1) (x14) (x15) (x16)) (fe_0_0_1 : nodes_0 = nodes_1) (fe_0_1_1 : edges_0 = edges_1) (fe_0_17_1 : done_0 = done_1) (hE_0_7_1 : ∀ j : Int, tail_0 j = tail_1 j) (hE_0_8_1 : ∀ j : Int, head_0 j = head_1 j) (hE_0_14_1 : ∀ j : Int, near_0 j = near_1 j) (hE_0_16_1 : ∀ j : Int, past_0 j = past_1 j) (kz_0_0 : 0 ≤ nodes_0 ∧ nodes_0 ≤ 24) (kz_0_1 : 0 ≤ edges_0 ∧ edges_0 ≤ 48) (kz_0_17 : 0 ≤ done_0 ∧ done_0 ≤ 30) : PRO (past_0) (x11) := by
  subst fe_0_0_1
  subst fe_0_1_1
  subst fe_0_17_1
  have e_hE_0_7_1 := funext hE_0_7_1; subst e_hE_0_7_1
  have e_hE_0_8_1 := funext hE_0_8_1; subst e_hE_0_8_1
  have e_hE_0_14_1 := funext hE_0_14_1; subst e_hE_0_14_1
  have e_hE_0_16_1 := funext hE_0_16_1; subst e_hE_0_16_1
  first
    | exact pro_pdq ‹PDQ _ _ _› (by omega) (by omega)
    | exact pri_pro ‹PNI _ _› (by omega)
    | (have q := (‹MV2 _ _ _ _ _›); exact fun r a b => q r a (by omega))
    | exact pro_zero (by omega) (fun j a b => by have q := hT10 j a (by omega); omega)
  
def o_Gr_alter_at_kx_25 : or_T := (82, 18, [(0, (2, 0, 0, [3])), (7, (2, 0, 0, [52])), (8, (2, 0, 0, [53])), (10, (2, 0, 0, [61])), (11, (0, 30, 30, [])), (13, (0, 30, 30, [])), (14, (0, 122, 122, [])), (15, (0, 0, 0, [])), (16, (0, 3660, 3660, [])), (17, (0, 0, 0, []))], [(9, [17, 0], [18]), (9, [7, 0], [7]), (9, [8, 0], [8]), (9, [10, 0], [16]), (9, [11, 0], [17]), (21, [14, 16], [3782]), (21, [15, 16], [3782]), (20, [0], [60, 2, 3, 670, 0, 1, 14, 7, 8]), (20, [0], [60, 2, 2, 596, 0, 1, 7, 8]), (20, [10, 10, 14, 15, 16], [61, 2, 764]), (101, [0, 17], [18]), (21, [14, 16], [3782]), (21, [15, 16], [3782]), (20, [0], [50, 2, 0, 17, 18, 0, 8, 4, 3, 2, 0, 17, 2, 0, 18, 0, 30]), (20, [0], [60, 2, 3, 670, 0, 1, 14, 7, 8]), (20, [0], [60, 2, 2, 596, 0, 1, 7, 8]), (20, [10, 10, 14, 15, 16], [61, 2, 764]), (102, [16], [2305843009213693952]), (21, [14, 16], [3782]), (21, [15, 16], [3782]), (7, [11, 13], [0]), (102, [11], [381944245562716141175333566576758405197150323812363046994276334253946495506784008380874752, 3000, 3001]), (102, [11], [2305843009213693952]), (101, [0, 10], [16])], [], [], [(20, [0, 11], [60, 0, 1, 737, 16])], [], [])
theorem oo_Gr_alter_at_kx_25 {kA : Nat → ClassId} : or_ok PRD kA GG o_Gr_alter_at_kx_25 := by
  refine or_mk fun A ta ws vs hD hth hl => ?_
  intro t0 r0 t7 r7 t8 r8 t10 r10 t11 k11 t13 k13 t14 k14 t15 k15 t16 k16 t17 k17 f0 f1 f2 f3 f4 f5 f6 f7 f8 f9 ta1 w1 le1 s1 f11 f12 f13 f14 f15 f16 ta2 w2 le2 s2 f18 f19 f20 ta3 w3 le3 s3 ta4 w4 le4 s4 ta5 w5 le5 s5
  replace f3 := shm_176 f3
  have s1 : (∀ b j, w_el ws b j = w_el w1 b j) ∧ ∀ b j, w_fd ws b j = if b = v_ad (n_v vs 0) ∧ j = 18 then n_v vs 17 else w_fd w1 b j := s1.2
  replace f16 := shm_1835 f16
  have ar_0_7_1 : w_ar w1 (n_v vs 0) 7 = w_ar ws (n_v vs 0) 7 := by show v_ad (w_fd w1 _ _) = v_ad (w_fd ws _ _); rw [s1.2, if_neg (fun e => absurd e.2 (by decide))]
  have ar_0_8_1 : w_ar w1 (n_v vs 0) 8 = w_ar ws (n_v vs 0) 8 := by show v_ad (w_fd w1 _ _) = v_ad (w_fd ws _ _); rw [s1.2, if_neg (fun e => absurd e.2 (by decide))]
  have ar_0_14_1 : w_ar w1 (n_v vs 0) 14 = w_ar ws (n_v vs 0) 14 := by show v_ad (w_fd w1 _ _) = v_ad (w_fd ws _ _); rw [s1.2, if_neg (fun e => absurd e.2 (by decide))]
  have ad_10 : v_ad (n_v vs 10) = w_ar ws (n_v vs 0) 16 := congrArg v_ad f3
  simp only [ad_10, ar_0_7_1, ar_0_8_1, ar_0_14_1] at f16
  have fe_0_0_1 : w_fi ws (n_v vs 0) 0 = w_fi w1 (n_v vs 0) 0 := by show v_iv (w_fd _ _ _) = v_iv (w_fd _ _ _); rw [s1.2, if_neg (fun e => absurd e.2 (by decide))]
  have fe_0_1_1 : w_fi ws (n_v vs 0) 1 = w_fi w1 (n_v vs 0) 1 := by show v_iv (w_fd _ _ _) = v_iv (w_fd _ _ _); rw [s1.2, if_neg (fun e => absurd e.2 (by decide))]
  have fe_0_17_1 : w_fi ws (n_v vs 0) 17 = w_fi w1 (n_v vs 0) 17 := by show v_iv (w_fd _ _ _) = v_iv (w_fd _ _ _); rw [s1.2, if_neg (fun e => absurd e.2 (by decide))]
  have hE_0_7_1 : ∀ j : Int, w_ei ws (w_ar ws (n_v vs 0) 7) j = w_ei w1 (w_ar ws (n_v vs 0) 7) j := fun j => s1.1 _ _
  have hE_0_8_1 : ∀ j : Int, w_ei ws (w_ar ws (n_v vs 0) 8) j = w_ei w1 (w_ar ws (n_v vs 0) 8) j := fun j => s1.1 _ _
  have hE_0_14_1 : ∀ j : Int, w_ei ws (w_ar ws (n_v vs 0) 14) j = w_ei w1 (w_ar ws (n_v vs 0) 14) j := fun j => s1.1 _ _
  have hE_0_16_1 : ∀ j : Int, w_ei ws (w_ar ws (n_v vs 0) 16) j = w_ei w1 (w_ar ws (n_v vs 0) 16) j := fun j => s1.1 _ _
  have kz_0_0 := fdq_21 hD hth r0
  have kz_0_1 := fdq_30 hD hth r0
  have kz_0_17 := fdq_288 hD hth r0
  have nf0 : fc_1 PRD (20, [0, 11], [60, 0, 1, 737, 16]) ws (vs) := ⟨nf_in hl rfl, sgq_850 (vc_Gr_alter_at_kx_25_0 (v_iv (n_v vs 11)) (v_iv (n_v vs 14)) (v_iv (n_v vs 15)) (v_iv (n_v vs 16)) (w_fi ws (n_v vs 0) 17) (w_ei ws (w_ar ws (n_v vs 0) 14)) (w_ei ws (w_ar ws (n_v vs 0) 7)) (w_ei ws (w_ar ws (n_v vs 0) 8)) (w_fi ws (n_v vs 0) 0) (w_fi ws (n_v vs 0) 1) (w_ei ws (w_ar ws (n_v vs 0) 16)) (w_fi w1 (n_v vs 0) 17) (w_ei w1 (w_ar ws (n_v vs 0) 14)) (w_ei w1 (w_ar ws (n_v vs 0) 7)) (w_ei w1 (w_ar ws (n_v vs 0) 8)) (w_fi w1 (n_v vs 0) 0) (w_fi w1 (n_v vs 0) 1) (w_ei w1 (w_ar ws (n_v vs 0) 16)) k11 k14 k15 k16 f16 fe_0_0_1 fe_0_1_1 fe_0_17_1 hE_0_7_1 hE_0_8_1 hE_0_14_1 hE_0_16_1 kz_0_0 kz_0_1 kz_0_17)⟩
  refine ⟨(fun _ h => (by cases h)), [], trivial, ?_, (fun _ h => (by cases h))⟩
  rw [List.append_nil]
  exact List.forall_mem_cons.mpr ⟨⟨show (20 : Nat) < 100 from by decide, nf0⟩, (fun _ h => (by cases h))⟩
set_option maxHeartbeats 4000000 in
theorem vc_Gr_alter_at_kx_26_0 (x11 : Int) (x17 : Int) (undone_0 : Int) (done_0 : Int) (k11 : 30 ≤ x11 ∧ x11 ≤ 30) (k17 : 0 ≤ x17 ∧ x17 ≤ 0) (g0 : x17 = undone_0) (g3 : x11 = done_0) (kz_0_17 : 0 ≤ done_0 ∧ done_0 ≤ 30) (kz_0_18 : 0 ≤ undone_0 ∧ undone_0 ≤ 30) : (done_0 + undone_0) ≤ 30 := by
  first
    | omega
  
set_option maxHeartbeats 4000000 in
theorem vc_Gr_alter_at_kx_26_1 (x11 : Int) (x17 : Int) (undone_0 : Int) (done_0 : Int) (past_0 : Int → Int) (k11 : 30 ≤ x11 ∧ x11 ≤ 30) (k17 : 0 ≤ x17 ∧ x17 ≤ 0) (g0 : x17 = undone_0) (g3 : x11 = done_0) (f6 : PRI (past_0) (x11)) (kz_0_17 : 0 ≤ done_0 ∧ done_0 ≤ 30) (kz_0_18 : 0 ≤ undone_0 ∧ undone_0 ≤ 30) : PDQ (done_0) (undone_0) (past_0) := by
  first
    | assumption
    | exact pri_pdq ‹PRI _ _› (by omega) (by omega)
  
def o_Gr_alter_at_kx_26 : or_T := (87, 18, [(0, (2, 0, 0, [3])), (7, (2, 0, 0, [52])), (8, (2, 0, 0, [53])), (10, (2, 0, 0, [61])), (11, (0, 30, 30, [])), (13, (0, 30, 30, [])), (17, (0, 0, 0, []))], [(9, [17, 0], [18]), (9, [7, 0], [7]), (9, [8, 0], [8]), (9, [11, 0], [17]), (9, [10, 0], [16]), (20, [0], [60, 2, 3, 670, 0, 1, 14, 7, 8]), (20, [0, 11], [60, 0, 1, 738, 16]), (20, [0], [60, 2, 2, 596, 0, 1, 7, 8]), (102, [17], [2305843009213693952]), (101, [0, 17], [18]), (102, [16], [2305843009213693952]), (7, [11, 13], [0]), (102, [11], [381944245562716141175333566576758405197150323812363046994276334253946495506784008380874752, 3000, 3001]), (102, [11], [2305843009213693952]), (101, [0, 10], [16])], [], [], [(20, [0], [50, 2, 0, 17, 18, 0, 8, 4, 3, 2, 0, 17, 2, 0, 18, 0, 30]), (20, [0], [60, 2, 1, 739, 17, 18, 16])], [], [])
theorem oo_Gr_alter_at_kx_26 {kA : Nat → ClassId} : or_ok PRD kA GG o_Gr_alter_at_kx_26 := by
  refine or_mk fun A ta ws vs hD hth hl => ?_
  intro t0 r0 t7 r7 t8 r8 t10 r10 t11 k11 t13 k13 t17 k17 f0 f1 f2 f3 f4 f5 f6 f7 ta1 w1 le1 s1 ta2 w2 le2 s2 ta3 w3 le3 s3 f11 ta4 w4 le4 s4 ta5 w5 le5 s5 ta6 w6 le6 s6
  replace f0 := shm_799 f0
  replace f3 := shm_795 f3
  have g0 : v_iv (n_v vs 17) = w_fi ws (n_v vs 0) 18 := congrArg v_iv f0
  have g3 : v_iv (n_v vs 11) = w_fi ws (n_v vs 0) 17 := congrArg v_iv f3
  have kz_0_17 := fdq_288 hD hth r0
  have kz_0_18 := fdq_289 hD hth r0
  have nf0 : fc_1 PRD (20, [0], [50, 2, 0, 17, 18, 0, 8, 4, 3, 2, 0, 17, 2, 0, 18, 0, 30]) ws (vs) := ⟨nf_in hl rfl, sgq_1511 (vc_Gr_alter_at_kx_26_0 (v_iv (n_v vs 11)) (v_iv (n_v vs 17)) (w_fi ws (n_v vs 0) 18) (w_fi ws (n_v vs 0) 17) k11 k17 g0 g3 kz_0_17 kz_0_18)⟩
  have nf1 : fc_1 PRD (20, [0], [60, 2, 1, 739, 17, 18, 16]) ws (vs) := ⟨nf_in hl rfl, sgq_1361 (vc_Gr_alter_at_kx_26_1 (v_iv (n_v vs 11)) (v_iv (n_v vs 17)) (w_fi ws (n_v vs 0) 18) (w_fi ws (n_v vs 0) 17) (w_ei ws (w_ar ws (n_v vs 0) 16)) k11 k17 g0 g3 (shm_855 f6) kz_0_17 kz_0_18)⟩
  refine ⟨(fun _ h => (by cases h)), [], trivial, ?_, (fun _ h => (by cases h))⟩
  rw [List.append_nil]
  exact List.forall_mem_cons.mpr ⟨⟨show (20 : Nat) < 100 from by decide, nf0⟩, List.forall_mem_cons.mpr ⟨⟨show (20 : Nat) < 100 from by decide, nf1⟩, (fun _ h => (by cases h))⟩⟩
set_option maxHeartbeats 4000000 in
theorem vc_Gr_alter_at_kx_27_0 (x9 : Int) (done_0 : Int) (undone_0 : Int) (past_0 : Int → Int) (k9 : 0 ≤ x9 ∧ x9 ≤ 30) (g4 : x9 = done_0) (f8 : PDQ (done_0) (undone_0) (past_0)) (kz_0_17 : 0 ≤ done_0 ∧ done_0 ≤ 30) (kz_0_18 : 0 ≤ undone_0 ∧ undone_0 ≤ 30) : PRO (past_0) (x9) := by
  first
    | exact pro_pdq ‹PDQ _ _ _› (by omega) (by omega)
    | exact pri_pro ‹PNI _ _› (by omega)
    | (have q := (‹MV2 _ _ _ _ _›); exact fun r a b => q r a (by omega))
    | exact pro_zero (by omega) (fun j a b => by have q := hT10 j a (by omega); omega)
  
def o_Gr_alter_at_kx_27 : or_T := (21, 10, [(0, (2, 0, 0, [3])), (9, (0, 0, 30, []))], [(9, [9, 0], [17]), (20, [0], [60, 2, 1, 739, 17, 18, 16])], [], [], [(20, [0, 9], [60, 0, 1, 737, 16])], [], [])
theorem oo_Gr_alter_at_kx_27 {kA : Nat → ClassId} : or_ok PRD kA GG o_Gr_alter_at_kx_27 := by
  refine or_mk fun A ta ws vs hD hth hl => ?_
  intro t0 r0 t9 k9 f4 f8
  replace f4 := shm_795 f4
  have g4 : v_iv (n_v vs 9) = w_fi ws (n_v vs 0) 17 := congrArg v_iv f4
  have kz_0_17 := fdq_288 hD hth r0
  have kz_0_18 := fdq_289 hD hth r0
  have nf0 : fc_1 PRD (20, [0, 9], [60, 0, 1, 737, 16]) ws (vs) := ⟨nf_in hl rfl, sgq_850 (vc_Gr_alter_at_kx_27_0 (v_iv (n_v vs 9)) (w_fi ws (n_v vs 0) 17) (w_fi ws (n_v vs 0) 18) (w_ei ws (w_ar ws (n_v vs 0) 16)) k9 g4 (shm_1361 f8) kz_0_17 kz_0_18)⟩
  refine ⟨(fun _ h => (by cases h)), [], trivial, ?_, (fun _ h => (by cases h))⟩
  rw [List.append_nil]
  exact List.forall_mem_cons.mpr ⟨⟨show (20 : Nat) < 100 from by decide, nf0⟩, (fun _ h => (by cases h))⟩
set_option maxHeartbeats 4000000 in
theorem vc_Gr_alter_at_kx_28_0 (x9 : Int) (past_0 : Int → Int) (k9 : 0 ≤ x9 ∧ x9 ≤ 30) (f9 : PRI (past_0) (x9)) : PNI (past_0) (x9) := by
  first
    | exact ‹PRI _ _›
  
def o_Gr_alter_at_kx_28 : or_T := (28, 10, [(9, (0, 0, 30, []))], [(9, [4, 0], [16]), (20, [0, 9], [60, 0, 1, 738, 16])], [], [], [(20, [4, 9], [61, 1, 762])], [], [])
theorem oo_Gr_alter_at_kx_28 {kA : Nat → ClassId} : or_ok PRD kA GG o_Gr_alter_at_kx_28 := by
  refine or_mk fun A ta ws vs hD hth hl => ?_
  intro t9 k9 f1 f9
  replace f1 := shm_176 f1
  replace f9 := shm_855 f9
  have ad_4 : v_ad (n_v vs 4) = w_ar ws (n_v vs 0) 16 := congrArg v_ad f1
  have nf0 : fc_1 PRD (20, [4, 9], [61, 1, 762]) ws (vs) := by
    refine ⟨nf_in hl rfl, sgq_1832 ?_⟩
    · show PNI (w_ei ws (v_ad (n_v vs 4))) (v_iv (n_v vs 9))
      rw [ad_4]
      exact vc_Gr_alter_at_kx_28_0 (v_iv (n_v vs 9)) (w_ei ws (w_ar ws (n_v vs 0) 16)) k9 f9
  refine ⟨(fun _ h => (by cases h)), [], trivial, ?_, (fun _ h => (by cases h))⟩
  rw [List.append_nil]
  exact List.forall_mem_cons.mpr ⟨⟨show (20 : Nat) < 100 from by decide, nf0⟩, (fun _ h => (by cases h))⟩
set_option maxHeartbeats 4000000 in
theorem vc_Gr_alter_at_kx_29_0 (x9 : Int) (x13 : Int) (nodes_0 : Int) (edges_0 : Int) (done_0 : Int) (past_0 : Int → Int) (near_0 : Int → Int) (tail_0 : Int → Int) (head_0 : Int → Int) (past_1 : Int → Int) (near_1 : Int → Int) (tail_1 : Int → Int) (head_1 : Int → Int) (nodes_1 : Int) (edges_1 : Int) (past_2 : Int → Int) (undone_2 : Int) (near_2 : Int → Int) (tail_2 : Int → Int) (head_2 : Int → Int) (nodes_2 : Int) (edges_2 : Int) (done_1 : Int) (undone_1 : Int) (k9 : 0 ≤ x9 ∧ x9 ≤ 29) (k13 : 1 ≤ x13 ∧ x13 ≤ 30) (d0 : x9 + 1 ≤ x13 ∧ x13 ≤ x9 + 1) (f18 : PNI (past_2) (x9)) (fe_0_0_1 : nodes_0 = nodes_1) (fe_0_1_1 : edges_0 = edges_1) (fe_0_17_1 : done_0 = done_1) (fe_0_0_2 : nodes_1 = nodes_2) (fe_0_1_2 : edges_1 = edges_2) (fe_0_18_2 : undone_1 = undone_2) (hE_0_7_1 : ∀ j : Int, tail_0 j = tail_1 j) (hE_0_7_2 : ∀ j : Int, tail_1 j = tail_2 j) (hE_0_8_1 : ∀ j : Int, head_0 j = head_1 j) (hE_0_8_2 : ∀ j : Int, head_1 j = head_2 j) (hE_0_14_1 : ∀ j : Int, near_0 j = near_1 j) (hE_0_14_2 : ∀ j : Int, near_1 j = near_2 j) (hE_0_16_1 : ∀ j : Int, past_0 j = past_1 j) (hE_0_16_2 : ∀ j : Int, past_1 j = past_2 j) (kz_0_0 : 0 ≤ nodes_0 ∧ nodes_0 ≤ 24) (kz_0_1 : 0 ≤ edges_0 ∧ edges_0 ≤ 48) (kz_0_17 : 0 ≤ done_0 ∧ done_0 ≤ 30) : PRO (past_0) (x13) := by
  subst fe_0_0_1
  subst fe_0_1_1
  subst fe_0_17_1
  subst fe_0_0_2
  subst fe_0_1_2
  subst fe_0_18_2
  have e_hE_0_7_1 := funext hE_0_7_1; subst e_hE_0_7_1
  have e_hE_0_7_2 := funext hE_0_7_2; subst e_hE_0_7_2
  have e_hE_0_8_1 := funext hE_0_8_1; subst e_hE_0_8_1
  have e_hE_0_8_2 := funext hE_0_8_2; subst e_hE_0_8_2
  have e_hE_0_14_1 := funext hE_0_14_1; subst e_hE_0_14_1
  have e_hE_0_14_2 := funext hE_0_14_2; subst e_hE_0_14_2
  have e_hE_0_16_1 := funext hE_0_16_1; subst e_hE_0_16_1
  have e_hE_0_16_2 := funext hE_0_16_2; subst e_hE_0_16_2
  first
    | exact pro_pdq ‹PDQ _ _ _› (by omega) (by omega)
    | exact pri_pro ‹PNI _ _› (by omega)
    | (have q := (‹MV2 _ _ _ _ _›); exact fun r a b => q r a (by omega))
    | exact pro_zero (by omega) (fun j a b => by have q := hT10 j a (by omega); omega)
  
def o_Gr_alter_at_kx_29 : or_T := (82, 15, [(0, (2, 0, 0, [3])), (4, (2, 0, 0, [61])), (5, (0, 0, 24, [])), (6, (0, 0, 48, [])), (7, (2, 0, 0, [52])), (8, (2, 0, 0, [53])), (9, (0, 0, 29, [])), (11, (0, 30, 30, [])), (12, (0, 1, 1, [])), (13, (0, 1, 30, [])), (14, (0, 0, 0, []))], [(9, [14, 0], [18]), (9, [5, 0], [0]), (9, [6, 0], [1]), (9, [7, 0], [7]), (9, [8, 0], [8]), (9, [4, 0], [16]), (9, [13, 0], [17]), (20, [4, 9], [61, 1, 762]), (20, [0], [60, 2, 3, 670, 0, 1, 14, 7, 8]), (20, [0], [60, 2, 2, 596, 0, 1, 7, 8]), (101, [0, 14], [18]), (20, [4, 9], [61, 1, 762]), (20, [0], [60, 2, 3, 670, 0, 1, 14, 7, 8]), (20, [0], [60, 2, 2, 596, 0, 1, 7, 8]), (101, [0, 13], [17]), (1, [13, 9, 12], []), (9, [9, 0], [17]), (7, [9, 11], [1]), (20, [4, 9], [61, 1, 762]), (20, [0], [50, 2, 0, 17, 18, 0, 8, 4, 3, 2, 0, 17, 2, 0, 18, 0, 30]), (20, [0], [60, 2, 3, 670, 0, 1, 14, 7, 8]), (20, [0], [60, 2, 2, 596, 0, 1, 7, 8])], [], [], [(20, [0, 13], [60, 0, 1, 737, 16])], [], [(13, 9, 1, 1)])
theorem oo_Gr_alter_at_kx_29 {kA : Nat → ClassId} : or_ok PRD kA GG o_Gr_alter_at_kx_29 := by
  refine or_mk fun A ta ws vs hD hth hl => ?_
  intro t0 r0 t4 r4 t5 k5 t6 k6 t7 r7 t8 r8 t9 k9 t11 k11 t12 k12 t13 k13 t14 k14 d0 f0 f1 f2 f3 f4 f5 f6 f7 f8 f9 ta1 w1 le1 s1 f11 f12 f13 ta2 w2 le2 s2 f15 f16 f17 f18 f19 f20 f21
  replace f5 := shm_176 f5
  have s1 : (∀ b j, w_el ws b j = w_el w1 b j) ∧ ∀ b j, w_fd ws b j = if b = v_ad (n_v vs 0) ∧ j = 18 then n_v vs 14 else w_fd w1 b j := s1.2
  have s2 : (∀ b j, w_el w1 b j = w_el w2 b j) ∧ ∀ b j, w_fd w1 b j = if b = v_ad (n_v vs 0) ∧ j = 17 then n_v vs 13 else w_fd w2 b j := s2.2
  replace f18 := shm_1832 f18
  have ar_0_7_1 : w_ar w1 (n_v vs 0) 7 = w_ar ws (n_v vs 0) 7 := by show v_ad (w_fd w1 _ _) = v_ad (w_fd ws _ _); rw [s1.2, if_neg (fun e => absurd e.2 (by decide))]
  have ar_0_7_2 : w_ar w2 (n_v vs 0) 7 = w_ar ws (n_v vs 0) 7 := by rw [← ar_0_7_1]; show v_ad (w_fd w2 _ _) = v_ad (w_fd w1 _ _); rw [s2.2, if_neg (fun e => absurd e.2 (by decide))]
  have ar_0_8_1 : w_ar w1 (n_v vs 0) 8 = w_ar ws (n_v vs 0) 8 := by show v_ad (w_fd w1 _ _) = v_ad (w_fd ws _ _); rw [s1.2, if_neg (fun e => absurd e.2 (by decide))]
  have ar_0_8_2 : w_ar w2 (n_v vs 0) 8 = w_ar ws (n_v vs 0) 8 := by rw [← ar_0_8_1]; show v_ad (w_fd w2 _ _) = v_ad (w_fd w1 _ _); rw [s2.2, if_neg (fun e => absurd e.2 (by decide))]
  have ar_0_14_1 : w_ar w1 (n_v vs 0) 14 = w_ar ws (n_v vs 0) 14 := by show v_ad (w_fd w1 _ _) = v_ad (w_fd ws _ _); rw [s1.2, if_neg (fun e => absurd e.2 (by decide))]
  have ar_0_14_2 : w_ar w2 (n_v vs 0) 14 = w_ar ws (n_v vs 0) 14 := by rw [← ar_0_14_1]; show v_ad (w_fd w2 _ _) = v_ad (w_fd w1 _ _); rw [s2.2, if_neg (fun e => absurd e.2 (by decide))]
  have ad_4 : v_ad (n_v vs 4) = w_ar ws (n_v vs 0) 16 := congrArg v_ad f5
  simp only [ad_4, ar_0_7_2, ar_0_8_2, ar_0_14_2] at f18
  have fe_0_0_1 : w_fi ws (n_v vs 0) 0 = w_fi w1 (n_v vs 0) 0 := by show v_iv (w_fd _ _ _) = v_iv (w_fd _ _ _); rw [s1.2, if_neg (fun e => absurd e.2 (by decide))]
  have fe_0_1_1 : w_fi ws (n_v vs 0) 1 = w_fi w1 (n_v vs 0) 1 := by show v_iv (w_fd _ _ _) = v_iv (w_fd _ _ _); rw [s1.2, if_neg (fun e => absurd e.2 (by decide))]
  have fe_0_17_1 : w_fi ws (n_v vs 0) 17 = w_fi w1 (n_v vs 0) 17 := by show v_iv (w_fd _ _ _) = v_iv (w_fd _ _ _); rw [s1.2, if_neg (fun e => absurd e.2 (by decide))]
  have fe_0_0_2 : w_fi w1 (n_v vs 0) 0 = w_fi w2 (n_v vs 0) 0 := by show v_iv (w_fd _ _ _) = v_iv (w_fd _ _ _); rw [s2.2, if_neg (fun e => absurd e.2 (by decide))]
  have fe_0_1_2 : w_fi w1 (n_v vs 0) 1 = w_fi w2 (n_v vs 0) 1 := by show v_iv (w_fd _ _ _) = v_iv (w_fd _ _ _); rw [s2.2, if_neg (fun e => absurd e.2 (by decide))]
  have fe_0_18_2 : w_fi w1 (n_v vs 0) 18 = w_fi w2 (n_v vs 0) 18 := by show v_iv (w_fd _ _ _) = v_iv (w_fd _ _ _); rw [s2.2, if_neg (fun e => absurd e.2 (by decide))]
  have hE_0_7_1 : ∀ j : Int, w_ei ws (w_ar ws (n_v vs 0) 7) j = w_ei w1 (w_ar ws (n_v vs 0) 7) j := fun j => s1.1 _ _
  have hE_0_7_2 : ∀ j : Int, w_ei w1 (w_ar ws (n_v vs 0) 7) j = w_ei w2 (w_ar ws (n_v vs 0) 7) j := fun j => s2.1 _ _
  have hE_0_8_1 : ∀ j : Int, w_ei ws (w_ar ws (n_v vs 0) 8) j = w_ei w1 (w_ar ws (n_v vs 0) 8) j := fun j => s1.1 _ _
  have hE_0_8_2 : ∀ j : Int, w_ei w1 (w_ar ws (n_v vs 0) 8) j = w_ei w2 (w_ar ws (n_v vs 0) 8) j := fun j => s2.1 _ _
  have hE_0_14_1 : ∀ j : Int, w_ei ws (w_ar ws (n_v vs 0) 14) j = w_ei w1 (w_ar ws (n_v vs 0) 14) j := fun j => s1.1 _ _
  have hE_0_14_2 : ∀ j : Int, w_ei w1 (w_ar ws (n_v vs 0) 14) j = w_ei w2 (w_ar ws (n_v vs 0) 14) j := fun j => s2.1 _ _
  have hE_0_16_1 : ∀ j : Int, w_ei ws (w_ar ws (n_v vs 0) 16) j = w_ei w1 (w_ar ws (n_v vs 0) 16) j := fun j => s1.1 _ _
  have hE_0_16_2 : ∀ j : Int, w_ei w1 (w_ar ws (n_v vs 0) 16) j = w_ei w2 (w_ar ws (n_v vs 0) 16) j := fun j => s2.1 _ _
  have kz_0_0 := fdq_21 hD hth r0
  have kz_0_1 := fdq_30 hD hth r0
  have kz_0_17 := fdq_288 hD hth r0
  have nf0 : fc_1 PRD (20, [0, 13], [60, 0, 1, 737, 16]) ws (vs) := ⟨nf_in hl rfl, sgq_850 (vc_Gr_alter_at_kx_29_0 (v_iv (n_v vs 9)) (v_iv (n_v vs 13)) (w_fi ws (n_v vs 0) 0) (w_fi ws (n_v vs 0) 1) (w_fi ws (n_v vs 0) 17) (w_ei ws (w_ar ws (n_v vs 0) 16)) (w_ei ws (w_ar ws (n_v vs 0) 14)) (w_ei ws (w_ar ws (n_v vs 0) 7)) (w_ei ws (w_ar ws (n_v vs 0) 8)) (w_ei w1 (w_ar ws (n_v vs 0) 16)) (w_ei w1 (w_ar ws (n_v vs 0) 14)) (w_ei w1 (w_ar ws (n_v vs 0) 7)) (w_ei w1 (w_ar ws (n_v vs 0) 8)) (w_fi w1 (n_v vs 0) 0) (w_fi w1 (n_v vs 0) 1) (w_ei w2 (w_ar ws (n_v vs 0) 16)) (w_fi w2 (n_v vs 0) 18) (w_ei w2 (w_ar ws (n_v vs 0) 14)) (w_ei w2 (w_ar ws (n_v vs 0) 7)) (w_ei w2 (w_ar ws (n_v vs 0) 8)) (w_fi w2 (n_v vs 0) 0) (w_fi w2 (n_v vs 0) 1) (w_fi w1 (n_v vs 0) 17) (w_fi w1 (n_v vs 0) 18) k9 k13 d0 f18 fe_0_0_1 fe_0_1_1 fe_0_17_1 fe_0_0_2 fe_0_1_2 fe_0_18_2 hE_0_7_1 hE_0_7_2 hE_0_8_1 hE_0_8_2 hE_0_14_1 hE_0_14_2 hE_0_16_1 hE_0_16_2 kz_0_0 kz_0_1 kz_0_17)⟩
  refine ⟨(fun _ h => (by cases h)), [], trivial, ?_, (fun _ h => (by cases h))⟩
  rw [List.append_nil]
  exact List.forall_mem_cons.mpr ⟨⟨show (20 : Nat) < 100 from by decide, nf0⟩, (fun _ h => (by cases h))⟩
set_option maxHeartbeats 4000000 in
theorem vc_Gr_alter_at_kx_30_0 (x9 : Int) (x13 : Int) (x14 : Int) (undone_0 : Int) (done_0 : Int) (k9 : 0 ≤ x9 ∧ x9 ≤ 29) (k13 : 1 ≤ x13 ∧ x13 ≤ 30) (k14 : 0 ≤ x14 ∧ x14 ≤ 0) (d0 : x9 + 1 ≤ x13 ∧ x13 ≤ x9 + 1) (g0 : x14 = undone_0) (g1 : x13 = done_0) (kz_0_17 : 0 ≤ done_0 ∧ done_0 ≤ 30) (kz_0_18 : 0 ≤ undone_0 ∧ undone_0 ≤ 30) : (done_0 + undone_0) ≤ 30 := by
  first
    | omega
  
set_option maxHeartbeats 4000000 in
theorem vc_Gr_alter_at_kx_30_1 (x13 : Int) (x14 : Int) (undone_0 : Int) (done_0 : Int) (past_0 : Int → Int) (k13 : 1 ≤ x13 ∧ x13 ≤ 30) (k14 : 0 ≤ x14 ∧ x14 ≤ 0) (g0 : x14 = undone_0) (g1 : x13 = done_0) (f8 : PRI (past_0) (x13)) (kz_0_17 : 0 ≤ done_0 ∧ done_0 ≤ 30) (kz_0_18 : 0 ≤ undone_0 ∧ undone_0 ≤ 30) : PDQ (done_0) (undone_0) (past_0) := by
  first
    | assumption
    | exact pri_pdq ‹PRI _ _› (by omega) (by omega)
  
def o_Gr_alter_at_kx_30 : or_T := (87, 15, [(0, (2, 0, 0, [3])), (4, (2, 0, 0, [61])), (5, (0, 0, 24, [])), (6, (0, 0, 48, [])), (7, (2, 0, 0, [52])), (8, (2, 0, 0, [53])), (9, (0, 0, 29, [])), (11, (0, 30, 30, [])), (12, (0, 1, 1, [])), (13, (0, 1, 30, [])), (14, (0, 0, 0, []))], [(9, [14, 0], [18]), (9, [13, 0], [17]), (9, [5, 0], [0]), (9, [6, 0], [1]), (9, [7, 0], [7]), (9, [8, 0], [8]), (9, [4, 0], [16]), (20, [0], [60, 2, 3, 670, 0, 1, 14, 7, 8]), (20, [0, 13], [60, 0, 1, 738, 16]), (20, [0], [60, 2, 2, 596, 0, 1, 7, 8]), (102, [14], [2305843009213693952]), (101, [0, 14], [18]), (101, [0, 13], [17]), (1, [13, 9, 12], []), (7, [9, 11], [1])], [], [], [(20, [0], [50, 2, 0, 17, 18, 0, 8, 4, 3, 2, 0, 17, 2, 0, 18, 0, 30]), (20, [0], [60, 2, 1, 739, 17, 18, 16])], [], [(13, 9, 1, 1)])
theorem oo_Gr_alter_at_kx_30 {kA : Nat → ClassId} : or_ok PRD kA GG o_Gr_alter_at_kx_30 := by
  refine or_mk fun A ta ws vs hD hth hl => ?_
  intro t0 r0 t4 r4 t5 k5 t6 k6 t7 r7 t8 r8 t9 k9 t11 k11 t12 k12 t13 k13 t14 k14 d0 f0 f1 f2 f3 f4 f5 f6 f7 f8 f9 ta1 w1 le1 s1 ta2 w2 le2 s2 ta3 w3 le3 s3 f13 f14
  replace f0 := shm_799 f0
  replace f1 := shm_795 f1
  have g0 : v_iv (n_v vs 14) = w_fi ws (n_v vs 0) 18 := congrArg v_iv f0
  have g1 : v_iv (n_v vs 13) = w_fi ws (n_v vs 0) 17 := congrArg v_iv f1
  have kz_0_17 := fdq_288 hD hth r0
  have kz_0_18 := fdq_289 hD hth r0
  have nf0 : fc_1 PRD (20, [0], [50, 2, 0, 17, 18, 0, 8, 4, 3, 2, 0, 17, 2, 0, 18, 0, 30]) ws (vs) := ⟨nf_in hl rfl, sgq_1511 (vc_Gr_alter_at_kx_30_0 (v_iv (n_v vs 9)) (v_iv (n_v vs 13)) (v_iv (n_v vs 14)) (w_fi ws (n_v vs 0) 18) (w_fi ws (n_v vs 0) 17) k9 k13 k14 d0 g0 g1 kz_0_17 kz_0_18)⟩
  have nf1 : fc_1 PRD (20, [0], [60, 2, 1, 739, 17, 18, 16]) ws (vs) := ⟨nf_in hl rfl, sgq_1361 (vc_Gr_alter_at_kx_30_1 (v_iv (n_v vs 13)) (v_iv (n_v vs 14)) (w_fi ws (n_v vs 0) 18) (w_fi ws (n_v vs 0) 17) (w_ei ws (w_ar ws (n_v vs 0) 16)) k13 k14 g0 g1 (shm_855 f8) kz_0_17 kz_0_18)⟩
  refine ⟨(fun _ h => (by cases h)), [], trivial, ?_, (fun _ h => (by cases h))⟩
  rw [List.append_nil]
  exact List.forall_mem_cons.mpr ⟨⟨show (20 : Nat) < 100 from by decide, nf0⟩, List.forall_mem_cons.mpr ⟨⟨show (20 : Nat) < 100 from by decide, nf1⟩, (fun _ h => (by cases h))⟩⟩

set_option maxHeartbeats 4000000 in
theorem vc_Gr_alter_at_kx_31_0 (x12 : Int) (x14 : Int) (k12 : 122 ≤ x12 ∧ x12 ≤ 122) (k14 : 3660 ≤ x14 ∧ x14 ≤ 3660) : x12 + x14 ≤ 3782 := by
  first
    | omega
  
set_option maxHeartbeats 4000000 in
theorem vc_Gr_alter_at_kx_31_1 (x13 : Int) (x14 : Int) (k13 : 0 ≤ x13 ∧ x13 ≤ 0) (k14 : 3660 ≤ x14 ∧ x14 ≤ 3660) : x13 + x14 ≤ 3782 := by
  first
    | omega
  
set_option maxHeartbeats 4000000 in
theorem vc_Gr_alter_at_kx_31_2 (x9 : Int) (x12 : Int) (x13 : Int) (x14 : Int) (a4_0 : Int → Int) (k9 : 30 ≤ x9 ∧ x9 ≤ 30) (k12 : 122 ≤ x12 ∧ x12 ≤ 122) (k13 : 0 ≤ x13 ∧ x13 ≤ 0) (k14 : 3660 ≤ x14 ∧ x14 ≤ 3660) (f6 : PNI (a4_0) (x9)) : MV1 (a4_0) (a4_0) (x12) (x13) (x14) := by
  first
    | exact ⟨by omega, by omega, by omega, fun r a b => (‹PNI _ _›) r a (by omega)⟩
  
def o_Gr_alter_at_kx_31 : or_T := (56, 15, [(0, (2, 0, 0, [3])), (4, (2, 0, 0, [61])), (5, (0, 0, 24, [])), (6, (0, 0, 48, [])), (7, (2, 0, 0, [52])), (8, (2, 0, 0, [53])), (9, (0, 30, 30, [])), (11, (0, 30, 30, [])), (12, (0, 122, 122, [])), (13, (0, 0, 0, [])), (14, (0, 3660, 3660, []))], [(9, [5, 0], [0]), (9, [6, 0], [1]), (9, [7, 0], [7]), (9, [8, 0], [8]), (7, [9, 11], [0]), (9, [9, 0], [17]), (20, [4, 9], [61, 1, 762]), (20, [0], [50, 2, 0, 17, 18, 0, 8, 4, 3, 2, 0, 17, 2, 0, 18, 0, 30]), (20, [0], [60, 2, 3, 670, 0, 1, 14, 7, 8]), (20, [0], [60, 2, 2, 596, 0, 1, 7, 8])], [], [], [(21, [12, 14], [3782]), (21, [13, 14], [3782]), (20, [4, 4, 12, 13, 14], [61, 2, 763])], [], [])
theorem oo_Gr_alter_at_kx_31 {kA : Nat → ClassId} : or_ok PRD kA GG o_Gr_alter_at_kx_31 := by
  refine or_mk fun A ta ws vs hD hth hl => ?_
  intro t0 r0 t4 r4 t5 k5 t6 k6 t7 r7 t8 r8 t9 k9 t11 k11 t12 k12 t13 k13 t14 k14 f0 f1 f2 f3 f4 f5 f6 f7 f8 f9
  have nf0 : fc_1 PRD (21, [12, 14], [3782]) ws (vs) := ⟨nf_in hl rfl, sgq_1833 (vc_Gr_alter_at_kx_31_0 (v_iv (n_v vs 12)) (v_iv (n_v vs 14)) k12 k14)⟩
  have nf1 : fc_1 PRD (21, [13, 14], [3782]) ws (vs) := ⟨nf_in hl rfl, sgq_1833 (vc_Gr_alter_at_kx_31_1 (v_iv (n_v vs 13)) (v_iv (n_v vs 14)) k13 k14)⟩
  have nf2 : fc_1 PRD (20, [4, 4, 12, 13, 14], [61, 2, 763]) ws (vs) := ⟨nf_in hl rfl, sgq_1834 (vc_Gr_alter_at_kx_31_2 (v_iv (n_v vs 9)) (v_iv (n_v vs 12)) (v_iv (n_v vs 13)) (v_iv (n_v vs 14)) (w_ei ws (v_ad (n_v vs 4))) k9 k12 k13 k14 (shm_1832 f6))⟩
  refine ⟨(fun _ h => (by cases h)), [], trivial, ?_, (fun _ h => (by cases h))⟩
  rw [List.append_nil]
  exact List.forall_mem_cons.mpr ⟨⟨show (21 : Nat) < 100 from by decide, nf0⟩, List.forall_mem_cons.mpr ⟨⟨show (21 : Nat) < 100 from by decide, nf1⟩, List.forall_mem_cons.mpr ⟨⟨show (20 : Nat) < 100 from by decide, nf2⟩, (fun _ h => (by cases h))⟩⟩⟩
set_option maxHeartbeats 4000000 in
theorem vc_Gr_alter_at_kx_32_0 (x9 : Int) (x12 : Int) (x13 : Int) (x14 : Int) (nodes_0 : Int) (edges_0 : Int) (done_0 : Int) (near_0 : Int → Int) (tail_0 : Int → Int) (head_0 : Int → Int) (past_0 : Int → Int) (done_1 : Int) (near_1 : Int → Int) (tail_1 : Int → Int) (head_1 : Int → Int) (nodes_1 : Int) (edges_1 : Int) (past_1 : Int → Int) (k9 : 30 ≤ x9 ∧ x9 ≤ 30) (k12 : 122 ≤ x12 ∧ x12 ≤ 122) (k13 : 0 ≤ x13 ∧ x13 ≤ 0) (k14 : 3660 ≤ x14 ∧ x14 ≤ 3660) (f18 : MV2 (past_1) (past_1) (x12) (x13) (x14)) (fe_0_0_1 : nodes_0 = nodes_1) (fe_0_1_1 : edges_0 = edges_1) (fe_0_17_1 : done_0 = done_1) (hE_0_7_1 : ∀ j : Int, tail_0 j = tail_1 j) (hE_0_8_1 : ∀ j : Int, head_0 j = head_1 j) (hE_0_14_1 : ∀ j : Int, near_0 j = near_1 j) (hE_0_16_1 : ∀ j : Int, past_0 j = past_1 j) (kz_0_0 : 0 ≤ nodes_0 ∧ nodes_0 ≤ 24) (kz_0_1 : 0 ≤ edges_0 ∧ edges_0 ≤ 48) (kz_0_17 : 0 ≤ done_0 ∧ done_0 ≤ 30) : PRO (past_0) (x9) := by
  subst fe_0_0_1
  subst fe_0_1_1
  subst fe_0_17_1
  have e_hE_0_7_1 := funext hE_0_7_1; subst e_hE_0_7_1
  have e_hE_0_8_1 := funext hE_0_8_1; subst e_hE_0_8_1
  have e_hE_0_14_1 := funext hE_0_14_1; subst e_hE_0_14_1
  have e_hE_0_16_1 := funext hE_0_16_1; subst e_hE_0_16_1
  first
    | exact pro_pdq ‹PDQ _ _ _› (by omega) (by omega)
    | exact pri_pro ‹PNI _ _› (by omega)
    | (have q := (‹MV2 _ _ _ _ _›); exact fun r a b => q r a (by omega))
    | exact pro_zero (by omega) (fun j a b => by have q := hT10 j a (by omega); omega)
  
def o_Gr_alter_at_kx_32 : or_T := (82, 16, [(0, (2, 0, 0, [3])), (4, (2, 0, 0, [61])), (5, (0, 0, 24, [])), (6, (0, 0, 48, [])), (7, (2, 0, 0, [52])), (8, (2, 0, 0, [53])), (9, (0, 30, 30, [])), (11, (0, 30, 30, [])), (12, (0, 122, 122, [])), (13, (0, 0, 0, [])), (14, (0, 3660, 3660, [])), (15, (0, 0, 0, []))], [(9, [15, 0], [18]), (9, [5, 0], [0]), (9, [6, 0], [1]), (9, [7, 0], [7]), (9, [8, 0], [8]), (9, [4, 0], [16]), (9, [9, 0], [17]), (21, [12, 14], [3782]), (21, [13, 14], [3782]), (20, [0], [60, 2, 3, 670, 0, 1, 14, 7, 8]), (20, [0], [60, 2, 2, 596, 0, 1, 7, 8]), (20, [4, 4, 12, 13, 14], [61, 2, 764]), (101, [0, 15], [18]), (21, [12, 14], [3782]), (21, [13, 14], [3782]), (20, [0], [50, 2, 0, 17, 18, 0, 8, 4, 3, 2, 0, 17, 2, 0, 18, 0, 30]), (20, [0], [60, 2, 3, 670, 0, 1, 14, 7, 8]), (20, [0], [60, 2, 2, 596, 0, 1, 7, 8]), (20, [4, 4, 12, 13, 14], [61, 2, 764]), (102, [14], [2305843009213693952]), (21, [12, 14], [3782]), (21, [13, 14], [3782]), (7, [9, 11], [0])], [], [], [(20, [0, 9], [60, 0, 1, 737, 16])], [], [])
theorem oo_Gr_alter_at_kx_32 {kA : Nat → ClassId} : or_ok PRD kA GG o_Gr_alter_at_kx_32 := by
  refine or_mk fun A ta ws vs hD hth hl => ?_
  intro t0 r0 t4 r4 t5 k5 t6 k6 t7 r7 t8 r8 t9 k9 t11 k11 t12 k12 t13 k13 t14 k14 t15 k15 f0 f1 f2 f3 f4 f5 f6 f7 f8 f9 f10 f11 ta1 w1 le1 s1 f13 f14 f15 f16 f17 f18 ta2 w2 le2 s2 f20 f21 f22
  replace f5 := shm_176 f5
  have s1 : (∀ b j, w_el ws b j = w_el w1 b j) ∧ ∀ b j, w_fd ws b j = if b = v_ad (n_v vs 0) ∧ j = 18 then n_v vs 15 else w_fd w1 b j := s1.2
  replace f18 := shm_1835 f18
  have ar_0_7_1 : w_ar w1 (n_v vs 0) 7 = w_ar ws (n_v vs 0) 7 := by show v_ad (w_fd w1 _ _) = v_ad (w_fd ws _ _); rw [s1.2, if_neg (fun e => absurd e.2 (by decide))]
  have ar_0_8_1 : w_ar w1 (n_v vs 0) 8 = w_ar ws (n_v vs 0) 8 := by show v_ad (w_fd w1 _ _) = v_ad (w_fd ws _ _); rw [s1.2, if_neg (fun e => absurd e.2 (by decide))]
  have ar_0_14_1 : w_ar w1 (n_v vs 0) 14 = w_ar ws (n_v vs 0) 14 := by show v_ad (w_fd w1 _ _) = v_ad (w_fd ws _ _); rw [s1.2, if_neg (fun e => absurd e.2 (by decide))]
  have ad_4 : v_ad (n_v vs 4) = w_ar ws (n_v vs 0) 16 := congrArg v_ad f5
  simp only [ad_4, ar_0_7_1, ar_0_8_1, ar_0_14_1] at f18
  have fe_0_0_1 : w_fi ws (n_v vs 0) 0 = w_fi w1 (n_v vs 0) 0 := by show v_iv (w_fd _ _ _) = v_iv (w_fd _ _ _); rw [s1.2, if_neg (fun e => absurd e.2 (by decide))]
  have fe_0_1_1 : w_fi ws (n_v vs 0) 1 = w_fi w1 (n_v vs 0) 1 := by show v_iv (w_fd _ _ _) = v_iv (w_fd _ _ _); rw [s1.2, if_neg (fun e => absurd e.2 (by decide))]
  have fe_0_17_1 : w_fi ws (n_v vs 0) 17 = w_fi w1 (n_v vs 0) 17 := by show v_iv (w_fd _ _ _) = v_iv (w_fd _ _ _); rw [s1.2, if_neg (fun e => absurd e.2 (by decide))]
  have hE_0_7_1 : ∀ j : Int, w_ei ws (w_ar ws (n_v vs 0) 7) j = w_ei w1 (w_ar ws (n_v vs 0) 7) j := fun j => s1.1 _ _
  have hE_0_8_1 : ∀ j : Int, w_ei ws (w_ar ws (n_v vs 0) 8) j = w_ei w1 (w_ar ws (n_v vs 0) 8) j := fun j => s1.1 _ _
  have hE_0_14_1 : ∀ j : Int, w_ei ws (w_ar ws (n_v vs 0) 14) j = w_ei w1 (w_ar ws (n_v vs 0) 14) j := fun j => s1.1 _ _
  have hE_0_16_1 : ∀ j : Int, w_ei ws (w_ar ws (n_v vs 0) 16) j = w_ei w1 (w_ar ws (n_v vs 0) 16) j := fun j => s1.1 _ _
  have kz_0_0 := fdq_21 hD hth r0
  have kz_0_1 := fdq_30 hD hth r0
  have kz_0_17 := fdq_288 hD hth r0
  have nf0 : fc_1 PRD (20, [0, 9], [60, 0, 1, 737, 16]) ws (vs) := ⟨nf_in hl rfl, sgq_850 (vc_Gr_alter_at_kx_32_0 (v_iv (n_v vs 9)) (v_iv (n_v vs 12)) (v_iv (n_v vs 13)) (v_iv (n_v vs 14)) (w_fi ws (n_v vs 0) 0) (w_fi ws (n_v vs 0) 1) (w_fi ws (n_v vs 0) 17) (w_ei ws (w_ar ws (n_v vs 0) 14)) (w_ei ws (w_ar ws (n_v vs 0) 7)) (w_ei ws (w_ar ws (n_v vs 0) 8)) (w_ei ws (w_ar ws (n_v vs 0) 16)) (w_fi w1 (n_v vs 0) 17) (w_ei w1 (w_ar ws (n_v vs 0) 14)) (w_ei w1 (w_ar ws (n_v vs 0) 7)) (w_ei w1 (w_ar ws (n_v vs 0) 8)) (w_fi w1 (n_v vs 0) 0) (w_fi w1 (n_v vs 0) 1) (w_ei w1 (w_ar ws (n_v vs 0) 16)) k9 k12 k13 k14 f18 fe_0_0_1 fe_0_1_1 fe_0_17_1 hE_0_7_1 hE_0_8_1 hE_0_14_1 hE_0_16_1 kz_0_0 kz_0_1 kz_0_17)⟩
  refine ⟨(fun _ h => (by cases h)), [], trivial, ?_, (fun _ h => (by cases h))⟩
  rw [List.append_nil]
  exact List.forall_mem_cons.mpr ⟨⟨show (20 : Nat) < 100 from by decide, nf0⟩, (fun _ h => (by cases h))⟩
set_option maxHeartbeats 4000000 in
theorem vc_Gr_alter_at_kx_33_0 (x9 : Int) (x15 : Int) (undone_0 : Int) (done_0 : Int) (k9 : 30 ≤ x9 ∧ x9 ≤ 30) (k15 : 0 ≤ x15 ∧ x15 ≤ 0) (g0 : x15 = undone_0) (g5 : x9 = done_0) (kz_0_17 : 0 ≤ done_0 ∧ done_0 ≤ 30) (kz_0_18 : 0 ≤ undone_0 ∧ undone_0 ≤ 30) : (done_0 + undone_0) ≤ 30 := by
  first
    | omega
  
set_option maxHeartbeats 4000000 in
theorem vc_Gr_alter_at_kx_33_1 (x9 : Int) (x15 : Int) (undone_0 : Int) (done_0 : Int) (past_0 : Int → Int) (k9 : 30 ≤ x9 ∧ x9 ≤ 30) (k15 : 0 ≤ x15 ∧ x15 ≤ 0) (g0 : x15 = undone_0) (g5 : x9 = done_0) (f8 : PRI (past_0) (x9)) (kz_0_17 : 0 ≤ done_0 ∧ done_0 ≤ 30) (kz_0_18 : 0 ≤ undone_0 ∧ undone_0 ≤ 30) : PDQ (done_0) (undone_0) (past_0) := by
  first
    | assumption
    | exact pri_pdq ‹PRI _ _› (by omega) (by omega)
  
def o_Gr_alter_at_kx_33 : or_T := (87, 16, [(0, (2, 0, 0, [3])), (4, (2, 0, 0, [61])), (5, (0, 0, 24, [])), (6, (0, 0, 48, [])), (7, (2, 0, 0, [52])), (8, (2, 0, 0, [53])), (9, (0, 30, 30, [])), (11, (0, 30, 30, [])), (15, (0, 0, 0, []))], [(9, [15, 0], [18]), (9, [5, 0], [0]), (9, [6, 0], [1]), (9, [7, 0], [7]), (9, [8, 0], [8]), (9, [9, 0], [17]), (9, [4, 0], [16]), (20, [0], [60, 2, 3, 670, 0, 1, 14, 7, 8]), (20, [0, 9], [60, 0, 1, 738, 16]), (20, [0], [60, 2, 2, 596, 0, 1, 7, 8]), (102, [15], [2305843009213693952]), (101, [0, 15], [18]), (102, [14], [2305843009213693952]), (7, [9, 11], [0])], [], [], [(20, [0], [50, 2, 0, 17, 18, 0, 8, 4, 3, 2, 0, 17, 2, 0, 18, 0, 30]), (20, [0], [60, 2, 1, 739, 17, 18, 16])], [], [])
theorem oo_Gr_alter_at_kx_33 {kA : Nat → ClassId} : or_ok PRD kA GG o_Gr_alter_at_kx_33 := by
  refine or_mk fun A ta ws vs hD hth hl => ?_
  intro t0 r0 t4 r4 t5 k5 t6 k6 t7 r7 t8 r8 t9 k9 t11 k11 t15 k15 f0 f1 f2 f3 f4 f5 f6 f7 f8 f9 ta1 w1 le1 s1 ta2 w2 le2 s2 ta3 w3 le3 s3 f13
  replace f0 := shm_799 f0
  replace f5 := shm_795 f5
  have g0 : v_iv (n_v vs 15) = w_fi ws (n_v vs 0) 18 := congrArg v_iv f0
  have g5 : v_iv (n_v vs 9) = w_fi ws (n_v vs 0) 17 := congrArg v_iv f5
  have kz_0_17 := fdq_288 hD hth r0
  have kz_0_18 := fdq_289 hD hth r0
  have nf0 : fc_1 PRD (20, [0], [50, 2, 0, 17, 18, 0, 8, 4, 3, 2, 0, 17, 2, 0, 18, 0, 30]) ws (vs) := ⟨nf_in hl rfl, sgq_1511 (vc_Gr_alter_at_kx_33_0 (v_iv (n_v vs 9)) (v_iv (n_v vs 15)) (w_fi ws (n_v vs 0) 18) (w_fi ws (n_v vs 0) 17) k9 k15 g0 g5 kz_0_17 kz_0_18)⟩
  have nf1 : fc_1 PRD (20, [0], [60, 2, 1, 739, 17, 18, 16]) ws (vs) := ⟨nf_in hl rfl, sgq_1361 (vc_Gr_alter_at_kx_33_1 (v_iv (n_v vs 9)) (v_iv (n_v vs 15)) (w_fi ws (n_v vs 0) 18) (w_fi ws (n_v vs 0) 17) (w_ei ws (w_ar ws (n_v vs 0) 16)) k9 k15 g0 g5 (shm_855 f8) kz_0_17 kz_0_18)⟩
  refine ⟨(fun _ h => (by cases h)), [], trivial, ?_, (fun _ h => (by cases h))⟩
  rw [List.append_nil]
  exact List.forall_mem_cons.mpr ⟨⟨show (20 : Nat) < 100 from by decide, nf0⟩, List.forall_mem_cons.mpr ⟨⟨show (20 : Nat) < 100 from by decide, nf1⟩, (fun _ h => (by cases h))⟩⟩
set_option maxHeartbeats 4000000 in
theorem vc_Gr_alter_at_kx_34_0 (x9 : Int) (x13 : Int) (nodes_0 : Int) (edges_0 : Int) (done_0 : Int) (past_0 : Int → Int) (near_0 : Int → Int) (tail_0 : Int → Int) (head_0 : Int → Int) (past_1 : Int → Int) (near_1 : Int → Int) (tail_1 : Int → Int) (head_1 : Int → Int) (nodes_1 : Int) (edges_1 : Int) (past_2 : Int → Int) (undone_2 : Int) (near_2 : Int → Int) (tail_2 : Int → Int) (head_2 : Int → Int) (nodes_2 : Int) (edges_2 : Int) (done_1 : Int) (undone_1 : Int) (k9 : 0 ≤ x9 ∧ x9 ≤ 29) (k13 : 1 ≤ x13 ∧ x13 ≤ 30) (d0 : x9 + 1 ≤ x13 ∧ x13 ≤ x9 + 1) (f18 : PNI (past_2) (x9)) (fe_0_0_1 : nodes_0 = nodes_1) (fe_0_1_1 : edges_0 = edges_1) (fe_0_17_1 : done_0 = done_1) (fe_0_0_2 : nodes_1 = nodes_2) (fe_0_1_2 : edges_1 = edges_2) (fe_0_18_2 : undone_1 = undone_2) (hE_0_7_1 : ∀ j : Int, tail_0 j = tail_1 j) (hE_0_7_2 : ∀ j : Int, tail_1 j = tail_2 j) (hE_0_8_1 : ∀ j : Int, head_0 j = head_1 j) (hE_0_8_2 : ∀ j : Int, head_1 j = head_2 j) (hE_0_14_1 : ∀ j : Int, near_0 j = near_1 j) (hE_0_14_2 : ∀ j : Int, near_1 j = near_2 j) (hE_0_16_1 : ∀ j : Int, past_0 j = past_1 j) (hE_0_16_2 : ∀ j : Int, past_1 j = past_2 j) (kz_0_0 : 0 ≤ nodes_0 ∧ nodes_0 ≤ 24) (kz_0_1 : 0 ≤ edges_0 ∧ edges_0 ≤ 48) (kz_0_17 : 0 ≤ done_0 ∧ done_0 ≤ 30) : PRO (past_0) (x13) := by
  subst fe_0_0_1
  subst fe_0_1_1
  subst fe_0_17_1
  subst fe_0_0_2
  subst fe_0_1_2
  subst fe_0_18_2
  have e_hE_0_7_1 := funext hE_0_7_1; subst e_hE_0_7_1
  have e_hE_0_7_2 := funext hE_0_7_2; subst e_hE_0_7_2
  have e_hE_0_8_1 := funext hE_0_8_1; subst e_hE_0_8_1
  have e_hE_0_8_2 := funext hE_0_8_2; subst e_hE_0_8_2
  have e_hE_0_14_1 := funext hE_0_14_1; subst e_hE_0_14_1
  have e_hE_0_14_2 := funext hE_0_14_2; subst e_hE_0_14_2
  have e_hE_0_16_1 := funext hE_0_16_1; subst e_hE_0_16_1
  have e_hE_0_16_2 := funext hE_0_16_2; subst e_hE_0_16_2
  first
    | exact pro_pdq ‹PDQ _ _ _› (by omega) (by omega)
    | exact pri_pro ‹PNI _ _› (by omega)
    | (have q := (‹MV2 _ _ _ _ _›); exact fun r a b => q r a (by omega))
    | exact pro_zero (by omega) (fun j a b => by have q := hT10 j a (by omega); omega)
  
def o_Gr_alter_at_kx_34 : or_T := (82, 15, [(0, (2, 0, 0, [3])), (4, (2, 0, 0, [61])), (6, (0, 0, 48, [])), (7, (2, 0, 0, [52])), (8, (2, 0, 0, [53])), (9, (0, 0, 29, [])), (10, (0, 1, 24, [])), (11, (0, 30, 30, [])), (12, (0, 1, 1, [])), (13, (0, 1, 30, [])), (14, (0, 0, 0, []))], [(9, [14, 0], [18]), (9, [10, 0], [0]), (9, [6, 0], [1]), (9, [7, 0], [7]), (9, [8, 0], [8]), (9, [4, 0], [16]), (9, [13, 0], [17]), (20, [4, 9], [61, 1, 762]), (20, [0], [60, 2, 3, 670, 0, 1, 14, 7, 8]), (20, [0], [60, 2, 2, 596, 0, 1, 7, 8]), (101, [0, 14], [18]), (20, [4, 9], [61, 1, 762]), (20, [0], [60, 2, 3, 670, 0, 1, 14, 7, 8]), (20, [0], [60, 2, 2, 596, 0, 1, 7, 8]), (101, [0, 13], [17]), (1, [13, 9, 12], []), (9, [9, 0], [17]), (7, [9, 11], [1]), (20, [4, 9], [61, 1, 762]), (20, [0], [50, 2, 0, 17, 18, 0, 8, 4, 3, 2, 0, 17, 2, 0, 18, 0, 30]), (20, [0], [60, 2, 3, 670, 0, 1, 14, 7, 8]), (20, [0], [60, 2, 2, 596, 0, 1, 7, 8])], [], [], [(20, [0, 13], [60, 0, 1, 737, 16])], [], [(13, 9, 1, 1)])
theorem oo_Gr_alter_at_kx_34 {kA : Nat → ClassId} : or_ok PRD kA GG o_Gr_alter_at_kx_34 := by
  refine or_mk fun A ta ws vs hD hth hl => ?_
  intro t0 r0 t4 r4 t6 k6 t7 r7 t8 r8 t9 k9 t10 k10 t11 k11 t12 k12 t13 k13 t14 k14 d0 f0 f1 f2 f3 f4 f5 f6 f7 f8 f9 ta1 w1 le1 s1 f11 f12 f13 ta2 w2 le2 s2 f15 f16 f17 f18 f19 f20 f21
  replace f5 := shm_176 f5
  have s1 : (∀ b j, w_el ws b j = w_el w1 b j) ∧ ∀ b j, w_fd ws b j = if b = v_ad (n_v vs 0) ∧ j = 18 then n_v vs 14 else w_fd w1 b j := s1.2
  have s2 : (∀ b j, w_el w1 b j = w_el w2 b j) ∧ ∀ b j, w_fd w1 b j = if b = v_ad (n_v vs 0) ∧ j = 17 then n_v vs 13 else w_fd w2 b j := s2.2
  replace f18 := shm_1832 f18
  have ar_0_7_1 : w_ar w1 (n_v vs 0) 7 = w_ar ws (n_v vs 0) 7 := by show v_ad (w_fd w1 _ _) = v_ad (w_fd ws _ _); rw [s1.2, if_neg (fun e => absurd e.2 (by decide))]
  have ar_0_7_2 : w_ar w2 (n_v vs 0) 7 = w_ar ws (n_v vs 0) 7 := by rw [← ar_0_7_1]; show v_ad (w_fd w2 _ _) = v_ad (w_fd w1 _ _); rw [s2.2, if_neg (fun e => absurd e.2 (by decide))]
  have ar_0_8_1 : w_ar w1 (n_v vs 0) 8 = w_ar ws (n_v vs 0) 8 := by show v_ad (w_fd w1 _ _) = v_ad (w_fd ws _ _); rw [s1.2, if_neg (fun e => absurd e.2 (by decide))]
  have ar_0_8_2 : w_ar w2 (n_v vs 0) 8 = w_ar ws (n_v vs 0) 8 := by rw [← ar_0_8_1]; show v_ad (w_fd w2 _ _) = v_ad (w_fd w1 _ _); rw [s2.2, if_neg (fun e => absurd e.2 (by decide))]
  have ar_0_14_1 : w_ar w1 (n_v vs 0) 14 = w_ar ws (n_v vs 0) 14 := by show v_ad (w_fd w1 _ _) = v_ad (w_fd ws _ _); rw [s1.2, if_neg (fun e => absurd e.2 (by decide))]
  have ar_0_14_2 : w_ar w2 (n_v vs 0) 14 = w_ar ws (n_v vs 0) 14 := by rw [← ar_0_14_1]; show v_ad (w_fd w2 _ _) = v_ad (w_fd w1 _ _); rw [s2.2, if_neg (fun e => absurd e.2 (by decide))]
  have ad_4 : v_ad (n_v vs 4) = w_ar ws (n_v vs 0) 16 := congrArg v_ad f5
  simp only [ad_4, ar_0_7_2, ar_0_8_2, ar_0_14_2] at f18
  have fe_0_0_1 : w_fi ws (n_v vs 0) 0 = w_fi w1 (n_v vs 0) 0 := by show v_iv (w_fd _ _ _) = v_iv (w_fd _ _ _); rw [s1.2, if_neg (fun e => absurd e.2 (by decide))]
  have fe_0_1_1 : w_fi ws (n_v vs 0) 1 = w_fi w1 (n_v vs 0) 1 := by show v_iv (w_fd _ _ _) = v_iv (w_fd _ _ _); rw [s1.2, if_neg (fun e => absurd e.2 (by decide))]
  have fe_0_17_1 : w_fi ws (n_v vs 0) 17 = w_fi w1 (n_v vs 0) 17 := by show v_iv (w_fd _ _ _) = v_iv (w_fd _ _ _); rw [s1.2, if_neg (fun e => absurd e.2 (by decide))]
  have fe_0_0_2 : w_fi w1 (n_v vs 0) 0 = w_fi w2 (n_v vs 0) 0 := by show v_iv (w_fd _ _ _) = v_iv (w_fd _ _ _); rw [s2.2, if_neg (fun e => absurd e.2 (by decide))]
  have fe_0_1_2 : w_fi w1 (n_v vs 0) 1 = w_fi w2 (n_v vs 0) 1 := by show v_iv (w_fd _ _ _) = v_iv (w_fd _ _ _); rw [s2.2, if_neg (fun e => absurd e.2 (by decide))]
  have fe_0_18_2 : w_fi w1 (n_v vs 0) 18 = w_fi w2 (n_v vs 0) 18 := by show v_iv (w_fd _ _ _) = v_iv (w_fd _ _ _); rw [s2.2, if_neg (fun e => absurd e.2 (by decide))]
  have hE_0_7_1 : ∀ j : Int, w_ei ws (w_ar ws (n_v vs 0) 7) j = w_ei w1 (w_ar ws (n_v vs 0) 7) j := fun j => s1.1 _ _
  have hE_0_7_2 : ∀ j : Int, w_ei w1 (w_ar ws (n_v vs 0) 7) j = w_ei w2 (w_ar ws (n_v vs 0) 7) j := fun j => s2.1 _ _
  have hE_0_8_1 : ∀ j : Int, w_ei ws (w_ar ws (n_v vs 0) 8) j = w_ei w1 (w_ar ws (n_v vs 0) 8) j := fun j => s1.1 _ _
  have hE_0_8_2 : ∀ j : Int, w_ei w1 (w_ar ws (n_v vs 0) 8) j = w_ei w2 (w_ar ws (n_v vs 0) 8) j := fun j => s2.1 _ _
  have hE_0_14_1 : ∀ j : Int, w_ei ws (w_ar ws (n_v vs 0) 14) j = w_ei w1 (w_ar ws (n_v vs 0) 14) j := fun j => s1.1 _ _
  have hE_0_14_2 : ∀ j : Int, w_ei w1 (w_ar ws (n_v vs 0) 14) j = w_ei w2 (w_ar ws (n_v vs 0) 14) j := fun j => s2.1 _ _
  have hE_0_16_1 : ∀ j : Int, w_ei ws (w_ar ws (n_v vs 0) 16) j = w_ei w1 (w_ar ws (n_v vs 0) 16) j := fun j => s1.1 _ _
  have hE_0_16_2 : ∀ j : Int, w_ei w1 (w_ar ws (n_v vs 0) 16) j = w_ei w2 (w_ar ws (n_v vs 0) 16) j := fun j => s2.1 _ _
  have kz_0_0 := fdq_21 hD hth r0
  have kz_0_1 := fdq_30 hD hth r0
  have kz_0_17 := fdq_288 hD hth r0
  have nf0 : fc_1 PRD (20, [0, 13], [60, 0, 1, 737, 16]) ws (vs) := ⟨nf_in hl rfl, sgq_850 (vc_Gr_alter_at_kx_34_0 (v_iv (n_v vs 9)) (v_iv (n_v vs 13)) (w_fi ws (n_v vs 0) 0) (w_fi ws (n_v vs 0) 1) (w_fi ws (n_v vs 0) 17) (w_ei ws (w_ar ws (n_v vs 0) 16)) (w_ei ws (w_ar ws (n_v vs 0) 14)) (w_ei ws (w_ar ws (n_v vs 0) 7)) (w_ei ws (w_ar ws (n_v vs 0) 8)) (w_ei w1 (w_ar ws (n_v vs 0) 16)) (w_ei w1 (w_ar ws (n_v vs 0) 14)) (w_ei w1 (w_ar ws (n_v vs 0) 7)) (w_ei w1 (w_ar ws (n_v vs 0) 8)) (w_fi w1 (n_v vs 0) 0) (w_fi w1 (n_v vs 0) 1) (w_ei w2 (w_ar ws (n_v vs 0) 16)) (w_fi w2 (n_v vs 0) 18) (w_ei w2 (w_ar ws (n_v vs 0) 14)) (w_ei w2 (w_ar ws (n_v vs 0) 7)) (w_ei w2 (w_ar ws (n_v vs 0) 8)) (w_fi w2 (n_v vs 0) 0) (w_fi w2 (n_v vs 0) 1) (w_fi w1 (n_v vs 0) 17) (w_fi w1 (n_v vs 0) 18) k9 k13 d0 f18 fe_0_0_1 fe_0_1_1 fe_0_17_1 fe_0_0_2 fe_0_1_2 fe_0_18_2 hE_0_7_1 hE_0_7_2 hE_0_8_1 hE_0_8_2 hE_0_14_1 hE_0_14_2 hE_0_16_1 hE_0_16_2 kz_0_0 kz_0_1 kz_0_17)⟩
  refine ⟨(fun _ h => (by cases h)), [], trivial, ?_, (fun _ h => (by cases h))⟩
  rw [List.append_nil]
  exact List.forall_mem_cons.mpr ⟨⟨show (20 : Nat) < 100 from by decide, nf0⟩, (fun _ h => (by cases h))⟩
set_option maxHeartbeats 4000000 in
theorem vc_Gr_alter_at_kx_35_0 (x13 : Int) (x14 : Int) (undone_0 : Int) (done_0 : Int) (k13 : 1 ≤ x13 ∧ x13 ≤ 30) (k14 : 0 ≤ x14 ∧ x14 ≤ 0) (g0 : x14 = undone_0) (g1 : x13 = done_0) (kz_0_17 : 0 ≤ done_0 ∧ done_0 ≤ 30) (kz_0_18 : 0 ≤ undone_0 ∧ undone_0 ≤ 30) : (done_0 + undone_0) ≤ 30 := by
  first
    | omega
  
set_option maxHeartbeats 4000000 in
theorem vc_Gr_alter_at_kx_35_1 (x13 : Int) (x14 : Int) (undone_0 : Int) (done_0 : Int) (past_0 : Int → Int) (k13 : 1 ≤ x13 ∧ x13 ≤ 30) (k14 : 0 ≤ x14 ∧ x14 ≤ 0) (g0 : x14 = undone_0) (g1 : x13 = done_0) (f8 : PRI (past_0) (x13)) (kz_0_17 : 0 ≤ done_0 ∧ done_0 ≤ 30) (kz_0_18 : 0 ≤ undone_0 ∧ undone_0 ≤ 30) : PDQ (done_0) (undone_0) (past_0) := by
  first
    | assumption
    | exact pri_pdq ‹PRI _ _› (by omega) (by omega)
  
def o_Gr_alter_at_kx_35 : or_T := (87, 15, [(0, (2, 0, 0, [3])), (4, (2, 0, 0, [61])), (6, (0, 0, 48, [])), (7, (2, 0, 0, [52])), (8, (2, 0, 0, [53])), (9, (0, 0, 29, [])), (10, (0, 1, 24, [])), (11, (0, 30, 30, [])), (12, (0, 1, 1, [])), (13, (0, 1, 30, [])), (14, (0, 0, 0, []))], [(9, [14, 0], [18]), (9, [13, 0], [17]), (9, [10, 0], [0]), (9, [6, 0], [1]), (9, [7, 0], [7]), (9, [8, 0], [8]), (9, [4, 0], [16]), (20, [0], [60, 2, 3, 670, 0, 1, 14, 7, 8]), (20, [0, 13], [60, 0, 1, 738, 16]), (20, [0], [60, 2, 2, 596, 0, 1, 7, 8]), (102, [14], [2305843009213693952]), (101, [0, 14], [18]), (101, [0, 13], [17]), (1, [13, 9, 12], []), (7, [9, 11], [1])], [], [], [(20, [0], [50, 2, 0, 17, 18, 0, 8, 4, 3, 2, 0, 17, 2, 0, 18, 0, 30]), (20, [0], [60, 2, 1, 739, 17, 18, 16])], [], [(13, 9, 1, 1)])
theorem oo_Gr_alter_at_kx_35 {kA : Nat → ClassId} : or_ok PRD kA GG o_Gr_alter_at_kx_35 := by
  refine or_mk fun A ta ws vs hD hth hl => ?_
  intro t0 r0 t4 r4 t6 k6 t7 r7 t8 r8 t9 k9 t10 k10 t11 k11 t12 k12 t13 k13 t14 k14 d0 f0 f1 f2 f3 f4 f5 f6 f7 f8 f9 ta1 w1 le1 s1 ta2 w2 le2 s2 ta3 w3 le3 s3 f13 f14
  replace f0 := shm_799 f0
  replace f1 := shm_795 f1
  have g0 : v_iv (n_v vs 14) = w_fi ws (n_v vs 0) 18 := congrArg v_iv f0
  have g1 : v_iv (n_v vs 13) = w_fi ws (n_v vs 0) 17 := congrArg v_iv f1
  have kz_0_17 := fdq_288 hD hth r0
  have kz_0_18 := fdq_289 hD hth r0
  have nf0 : fc_1 PRD (20, [0], [50, 2, 0, 17, 18, 0, 8, 4, 3, 2, 0, 17, 2, 0, 18, 0, 30]) ws (vs) := ⟨nf_in hl rfl, sgq_1511 (vc_Gr_alter_at_kx_35_0 (v_iv (n_v vs 13)) (v_iv (n_v vs 14)) (w_fi ws (n_v vs 0) 18) (w_fi ws (n_v vs 0) 17) k13 k14 g0 g1 kz_0_17 kz_0_18)⟩
  have nf1 : fc_1 PRD (20, [0], [60, 2, 1, 739, 17, 18, 16]) ws (vs) := ⟨nf_in hl rfl, sgq_1361 (vc_Gr_alter_at_kx_35_1 (v_iv (n_v vs 13)) (v_iv (n_v vs 14)) (w_fi ws (n_v vs 0) 18) (w_fi ws (n_v vs 0) 17) (w_ei ws (w_ar ws (n_v vs 0) 16)) k13 k14 g0 g1 (shm_855 f8) kz_0_17 kz_0_18)⟩
  refine ⟨(fun _ h => (by cases h)), [], trivial, ?_, (fun _ h => (by cases h))⟩
  rw [List.append_nil]
  exact List.forall_mem_cons.mpr ⟨⟨show (20 : Nat) < 100 from by decide, nf0⟩, List.forall_mem_cons.mpr ⟨⟨show (20 : Nat) < 100 from by decide, nf1⟩, (fun _ h => (by cases h))⟩⟩
set_option maxHeartbeats 4000000 in
theorem vc_Gr_alter_at_kx_36_0 (x12 : Int) (x14 : Int) (k12 : 122 ≤ x12 ∧ x12 ≤ 122) (k14 : 3660 ≤ x14 ∧ x14 ≤ 3660) : x12 + x14 ≤ 3782 := by
  first
    | omega
  
set_option maxHeartbeats 4000000 in
theorem vc_Gr_alter_at_kx_36_1 (x13 : Int) (x14 : Int) (k13 : 0 ≤ x13 ∧ x13 ≤ 0) (k14 : 3660 ≤ x14 ∧ x14 ≤ 3660) : x13 + x14 ≤ 3782 := by
  first
    | omega
  
set_option maxHeartbeats 4000000 in
theorem vc_Gr_alter_at_kx_36_2 (x9 : Int) (x12 : Int) (x13 : Int) (x14 : Int) (a4_0 : Int → Int) (k9 : 30 ≤ x9 ∧ x9 ≤ 30) (k12 : 122 ≤ x12 ∧ x12 ≤ 122) (k13 : 0 ≤ x13 ∧ x13 ≤ 0) (k14 : 3660 ≤ x14 ∧ x14 ≤ 3660) (f6 : PNI (a4_0) (x9)) : MV1 (a4_0) (a4_0) (x12) (x13) (x14) := by
  first
    | exact ⟨by omega, by omega, by omega, fun r a b => (‹PNI _ _›) r a (by omega)⟩
  
def o_Gr_alter_at_kx_36 : or_T := (56, 15, [(0, (2, 0, 0, [3])), (4, (2, 0, 0, [61])), (6, (0, 0, 48, [])), (7, (2, 0, 0, [52])), (8, (2, 0, 0, [53])), (9, (0, 30, 30, [])), (10, (0, 1, 24, [])), (11, (0, 30, 30, [])), (12, (0, 122, 122, [])), (13, (0, 0, 0, [])), (14, (0, 3660, 3660, []))], [(9, [10, 0], [0]), (9, [6, 0], [1]), (9, [7, 0], [7]), (9, [8, 0], [8]), (7, [9, 11], [0]), (9, [9, 0], [17]), (20, [4, 9], [61, 1, 762]), (20, [0], [50, 2, 0, 17, 18, 0, 8, 4, 3, 2, 0, 17, 2, 0, 18, 0, 30]), (20, [0], [60, 2, 3, 670, 0, 1, 14, 7, 8]), (20, [0], [60, 2, 2, 596, 0, 1, 7, 8])], [], [], [(21, [12, 14], [3782]), (21, [13, 14], [3782]), (20, [4, 4, 12, 13, 14], [61, 2, 763])], [], [])
theorem oo_Gr_alter_at_kx_36 {kA : Nat → ClassId} : or_ok PRD kA GG o_Gr_alter_at_kx_36 := by
  refine or_mk fun A ta ws vs hD hth hl => ?_
  intro t0 r0 t4 r4 t6 k6 t7 r7 t8 r8 t9 k9 t10 k10 t11 k11 t12 k12 t13 k13 t14 k14 f0 f1 f2 f3 f4 f5 f6 f7 f8 f9
  have nf0 : fc_1 PRD (21, [12, 14], [3782]) ws (vs) := ⟨nf_in hl rfl, sgq_1833 (vc_Gr_alter_at_kx_36_0 (v_iv (n_v vs 12)) (v_iv (n_v vs 14)) k12 k14)⟩
  have nf1 : fc_1 PRD (21, [13, 14], [3782]) ws (vs) := ⟨nf_in hl rfl, sgq_1833 (vc_Gr_alter_at_kx_36_1 (v_iv (n_v vs 13)) (v_iv (n_v vs 14)) k13 k14)⟩
  have nf2 : fc_1 PRD (20, [4, 4, 12, 13, 14], [61, 2, 763]) ws (vs) := ⟨nf_in hl rfl, sgq_1834 (vc_Gr_alter_at_kx_36_2 (v_iv (n_v vs 9)) (v_iv (n_v vs 12)) (v_iv (n_v vs 13)) (v_iv (n_v vs 14)) (w_ei ws (v_ad (n_v vs 4))) k9 k12 k13 k14 (shm_1832 f6))⟩
  refine ⟨(fun _ h => (by cases h)), [], trivial, ?_, (fun _ h => (by cases h))⟩
  rw [List.append_nil]
  exact List.forall_mem_cons.mpr ⟨⟨show (21 : Nat) < 100 from by decide, nf0⟩, List.forall_mem_cons.mpr ⟨⟨show (21 : Nat) < 100 from by decide, nf1⟩, List.forall_mem_cons.mpr ⟨⟨show (20 : Nat) < 100 from by decide, nf2⟩, (fun _ h => (by cases h))⟩⟩⟩
set_option maxHeartbeats 4000000 in
theorem vc_Gr_alter_at_kx_37_0 (x9 : Int) (x12 : Int) (x13 : Int) (x14 : Int) (nodes_0 : Int) (edges_0 : Int) (done_0 : Int) (near_0 : Int → Int) (tail_0 : Int → Int) (head_0 : Int → Int) (past_0 : Int → Int) (done_1 : Int) (near_1 : Int → Int) (tail_1 : Int → Int) (head_1 : Int → Int) (nodes_1 : Int) (edges_1 : Int) (past_1 : Int → Int) (k9 : 30 ≤ x9 ∧ x9 ≤ 30) (k12 : 122 ≤ x12 ∧ x12 ≤ 122) (k13 : 0 ≤ x13 ∧ x13 ≤ 0) (k14 : 3660 ≤ x14 ∧ x14 ≤ 3660) (f18 : MV2 (past_1) (past_1) (x12) (x13) (x14)) (fe_0_0_1 : nodes_0 = nodes_1) (fe_0_1_1 : edges_0 = edges_1) (fe_0_17_1 : done_0 = done_1) (hE_0_7_1 : ∀ j : Int, tail_0 j = tail_1 j) (hE_0_8_1 : ∀ j : Int, head_0 j = head_1 j) (hE_0_14_1 : ∀ j : Int, near_0 j = near_1 j) (hE_0_16_1 : ∀ j : Int, past_0 j = past_1 j) (kz_0_0 : 0 ≤ nodes_0 ∧ nodes_0 ≤ 24) (kz_0_1 : 0 ≤ edges_0 ∧ edges_0 ≤ 48) (kz_0_17 : 0 ≤ done_0 ∧ done_0 ≤ 30) : PRO (past_0) (x9) := by
  subst fe_0_0_1
  subst fe_0_1_1
  subst fe_0_17_1
  have e_hE_0_7_1 := funext hE_0_7_1; subst e_hE_0_7_1
  have e_hE_0_8_1 := funext hE_0_8_1; subst e_hE_0_8_1
  have e_hE_0_14_1 := funext hE_0_14_1; subst e_hE_0_14_1
  have e_hE_0_16_1 := funext hE_0_16_1; subst e_hE_0_16_1
  first
    | exact pro_pdq ‹PDQ _ _ _› (by omega) (by omega)
    | exact pri_pro ‹PNI _ _› (by omega)
    | (have q := (‹MV2 _ _ _ _ _›); exact fun r a b => q r a (by omega))
    | exact pro_zero (by omega) (fun j a b => by have q := hT10 j a (by omega); omega)
  
def o_Gr_alter_at_kx_37 : or_T := (82, 16, [(0, (2, 0, 0, [3])), (4, (2, 0, 0, [61])), (6, (0, 0, 48, [])), (7, (2, 0, 0, [52])), (8, (2, 0, 0, [53])), (9, (0, 30, 30, [])), (10, (0, 1, 24, [])), (11, (0, 30, 30, [])), (12, (0, 122, 122, [])), (13, (0, 0, 0, [])), (14, (0, 3660, 3660, [])), (15, (0, 0, 0, []))], [(9, [15, 0], [18]), (9, [10, 0], [0]), (9, [6, 0], [1]), (9, [7, 0], [7]), (9, [8, 0], [8]), (9, [4, 0], [16]), (9, [9, 0], [17]), (21, [12, 14], [3782]), (21, [13, 14], [3782]), (20, [0], [60, 2, 3, 670, 0, 1, 14, 7, 8]), (20, [0], [60, 2, 2, 596, 0, 1, 7, 8]), (20, [4, 4, 12, 13, 14], [61, 2, 764]), (101, [0, 15], [18]), (21, [12, 14], [3782]), (21, [13, 14], [3782]), (20, [0], [50, 2, 0, 17, 18, 0, 8, 4, 3, 2, 0, 17, 2, 0, 18, 0, 30]), (20, [0], [60, 2, 3, 670, 0, 1, 14, 7, 8]), (20, [0], [60, 2, 2, 596, 0, 1, 7, 8]), (20, [4, 4, 12, 13, 14], [61, 2, 764]), (102, [14], [2305843009213693952]), (21, [12, 14], [3782]), (21, [13, 14], [3782]), (7, [9, 11], [0])], [], [], [(20, [0, 9], [60, 0, 1, 737, 16])], [], [])
theorem oo_Gr_alter_at_kx_37 {kA : Nat → ClassId} : or_ok PRD kA GG o_Gr_alter_at_kx_37 := by
  refine or_mk fun A ta ws vs hD hth hl => ?_
  intro t0 r0 t4 r4 t6 k6 t7 r7 t8 r8 t9 k9 t10 k10 t11 k11 t12 k12 t13 k13 t14 k14 t15 k15 f0 f1 f2 f3 f4 f5 f6 f7 f8 f9 f10 f11 ta1 w1 le1 s1 f13 f14 f15 f16 f17 f18 ta2 w2 le2 s2 f20 f21 f22
  replace f5 := shm_176 f5
  have s1 : (∀ b j, w_el ws b j = w_el w1 b j) ∧ ∀ b j, w_fd ws b j = if b = v_ad (n_v vs 0) ∧ j = 18 then n_v vs 15 else w_fd w1 b j := s1.2
  replace f18 := shm_1835 f18
  have ar_0_7_1 : w_ar w1 (n_v vs 0) 7 = w_ar ws (n_v vs 0) 7 := by show v_ad (w_fd w1 _ _) = v_ad (w_fd ws _ _); rw [s1.2, if_neg (fun e => absurd e.2 (by decide))]
  have ar_0_8_1 : w_ar w1 (n_v vs 0) 8 = w_ar ws (n_v vs 0) 8 := by show v_ad (w_fd w1 _ _) = v_ad (w_fd ws _ _); rw [s1.2, if_neg (fun e => absurd e.2 (by decide))]
  have ar_0_14_1 : w_ar w1 (n_v vs 0) 14 = w_ar ws (n_v vs 0) 14 := by show v_ad (w_fd w1 _ _) = v_ad (w_fd ws _ _); rw [s1.2, if_neg (fun e => absurd e.2 (by decide))]
  have ad_4 : v_ad (n_v vs 4) = w_ar ws (n_v vs 0) 16 := congrArg v_ad f5
  simp only [ad_4, ar_0_7_1, ar_0_8_1, ar_0_14_1] at f18
  have fe_0_0_1 : w_fi ws (n_v vs 0) 0 = w_fi w1 (n_v vs 0) 0 := by show v_iv (w_fd _ _ _) = v_iv (w_fd _ _ _); rw [s1.2, if_neg (fun e => absurd e.2 (by decide))]
  have fe_0_1_1 : w_fi ws (n_v vs 0) 1 = w_fi w1 (n_v vs 0) 1 := by show v_iv (w_fd _ _ _) = v_iv (w_fd _ _ _); rw [s1.2, if_neg (fun e => absurd e.2 (by decide))]
  have fe_0_17_1 : w_fi ws (n_v vs 0) 17 = w_fi w1 (n_v vs 0) 17 := by show v_iv (w_fd _ _ _) = v_iv (w_fd _ _ _); rw [s1.2, if_neg (fun e => absurd e.2 (by decide))]
  have hE_0_7_1 : ∀ j : Int, w_ei ws (w_ar ws (n_v vs 0) 7) j = w_ei w1 (w_ar ws (n_v vs 0) 7) j := fun j => s1.1 _ _
  have hE_0_8_1 : ∀ j : Int, w_ei ws (w_ar ws (n_v vs 0) 8) j = w_ei w1 (w_ar ws (n_v vs 0) 8) j := fun j => s1.1 _ _
  have hE_0_14_1 : ∀ j : Int, w_ei ws (w_ar ws (n_v vs 0) 14) j = w_ei w1 (w_ar ws (n_v vs 0) 14) j := fun j => s1.1 _ _
  have hE_0_16_1 : ∀ j : Int, w_ei ws (w_ar ws (n_v vs 0) 16) j = w_ei w1 (w_ar ws (n_v vs 0) 16) j := fun j => s1.1 _ _
  have kz_0_0 := fdq_21 hD hth r0
  have kz_0_1 := fdq_30 hD hth r0
  have kz_0_17 := fdq_288 hD hth r0
  have nf0 : fc_1 PRD (20, [0, 9], [60, 0, 1, 737, 16]) ws (vs) := ⟨nf_in hl rfl, sgq_850 (vc_Gr_alter_at_kx_37_0 (v_iv (n_v vs 9)) (v_iv (n_v vs 12)) (v_iv (n_v vs 13)) (v_iv (n_v vs 14)) (w_fi ws (n_v vs 0) 0) (w_fi ws (n_v vs 0) 1) (w_fi ws (n_v vs 0) 17) (w_ei ws (w_ar ws (n_v vs 0) 14)) (w_ei ws (w_ar ws (n_v vs 0) 7)) (w_ei ws (w_ar ws (n_v vs 0) 8)) (w_ei ws (w_ar ws (n_v vs 0) 16)) (w_fi w1 (n_v vs 0) 17) (w_ei w1 (w_ar ws (n_v vs 0) 14)) (w_ei w1 (w_ar ws (n_v vs 0) 7)) (w_ei w1 (w_ar ws (n_v vs 0) 8)) (w_fi w1 (n_v vs 0) 0) (w_fi w1 (n_v vs 0) 1) (w_ei w1 (w_ar ws (n_v vs 0) 16)) k9 k12 k13 k14 f18 fe_0_0_1 fe_0_1_1 fe_0_17_1 hE_0_7_1 hE_0_8_1 hE_0_14_1 hE_0_16_1 kz_0_0 kz_0_1 kz_0_17)⟩
  refine ⟨(fun _ h => (by cases h)), [], trivial, ?_, (fun _ h => (by cases h))⟩
  rw [List.append_nil]
  exact List.forall_mem_cons.mpr ⟨⟨show (20 : Nat) < 100 from by decide, nf0⟩, (fun _ h => (by cases h))⟩
set_option maxHeartbeats 4000000 in
theorem vc_Gr_alter_at_kx_38_0 (x9 : Int) (x15 : Int) (undone_0 : Int) (done_0 : Int) (k9 : 30 ≤ x9 ∧ x9 ≤ 30) (k15 : 0 ≤ x15 ∧ x15 ≤ 0) (g0 : x15 = undone_0) (g5 : x9 = done_0) (kz_0_17 : 0 ≤ done_0 ∧ done_0 ≤ 30) (kz_0_18 : 0 ≤ undone_0 ∧ undone_0 ≤ 30) : (done_0 + undone_0) ≤ 30 := by
  first
    | omega
  
set_option maxHeartbeats 4000000 in
theorem vc_Gr_alter_at_kx_38_1 (x9 : Int) (x15 : Int) (undone_0 : Int) (done_0 : Int) (past_0 : Int → Int) (k9 : 30 ≤ x9 ∧ x9 ≤ 30) (k15 : 0 ≤ x15 ∧ x15 ≤ 0) (g0 : x15 = undone_0) (g5 : x9 = done_0) (f8 : PRI (past_0) (x9)) (kz_0_17 : 0 ≤ done_0 ∧ done_0 ≤ 30) (kz_0_18 : 0 ≤ undone_0 ∧ undone_0 ≤ 30) : PDQ (done_0) (undone_0) (past_0) := by
  first
    | assumption
    | exact pri_pdq ‹PRI _ _› (by omega) (by omega)
  
def o_Gr_alter_at_kx_38 : or_T := (87, 16, [(0, (2, 0, 0, [3])), (4, (2, 0, 0, [61])), (6, (0, 0, 48, [])), (7, (2, 0, 0, [52])), (8, (2, 0, 0, [53])), (9, (0, 30, 30, [])), (10, (0, 1, 24, [])), (11, (0, 30, 30, [])), (15, (0, 0, 0, []))], [(9, [15, 0], [18]), (9, [10, 0], [0]), (9, [6, 0], [1]), (9, [7, 0], [7]), (9, [8, 0], [8]), (9, [9, 0], [17]), (9, [4, 0], [16]), (20, [0], [60, 2, 3, 670, 0, 1, 14, 7, 8]), (20, [0, 9], [60, 0, 1, 738, 16]), (20, [0], [60, 2, 2, 596, 0, 1, 7, 8]), (102, [15], [2305843009213693952]), (101, [0, 15], [18]), (102, [14], [2305843009213693952]), (7, [9, 11], [0])], [], [], [(20, [0], [50, 2, 0, 17, 18, 0, 8, 4, 3, 2, 0, 17, 2, 0, 18, 0, 30]), (20, [0], [60, 2, 1, 739, 17, 18, 16])], [], [])
theorem oo_Gr_alter_at_kx_38 {kA : Nat → ClassId} : or_ok PRD kA GG o_Gr_alter_at_kx_38 := by
  refine or_mk fun A ta ws vs hD hth hl => ?_
  intro t0 r0 t4 r4 t6 k6 t7 r7 t8 r8 t9 k9 t10 k10 t11 k11 t15 k15 f0 f1 f2 f3 f4 f5 f6 f7 f8 f9 ta1 w1 le1 s1 ta2 w2 le2 s2 ta3 w3 le3 s3 f13
  replace f0 := shm_799 f0
  replace f5 := shm_795 f5
  have g0 : v_iv (n_v vs 15) = w_fi ws (n_v vs 0) 18 := congrArg v_iv f0
  have g5 : v_iv (n_v vs 9) = w_fi ws (n_v vs 0) 17 := congrArg v_iv f5
  have kz_0_17 := fdq_288 hD hth r0
  have kz_0_18 := fdq_289 hD hth r0
  have nf0 : fc_1 PRD (20, [0], [50, 2, 0, 17, 18, 0, 8, 4, 3, 2, 0, 17, 2, 0, 18, 0, 30]) ws (vs) := ⟨nf_in hl rfl, sgq_1511 (vc_Gr_alter_at_kx_38_0 (v_iv (n_v vs 9)) (v_iv (n_v vs 15)) (w_fi ws (n_v vs 0) 18) (w_fi ws (n_v vs 0) 17) k9 k15 g0 g5 kz_0_17 kz_0_18)⟩
  have nf1 : fc_1 PRD (20, [0], [60, 2, 1, 739, 17, 18, 16]) ws (vs) := ⟨nf_in hl rfl, sgq_1361 (vc_Gr_alter_at_kx_38_1 (v_iv (n_v vs 9)) (v_iv (n_v vs 15)) (w_fi ws (n_v vs 0) 18) (w_fi ws (n_v vs 0) 17) (w_ei ws (w_ar ws (n_v vs 0) 16)) k9 k15 g0 g5 (shm_855 f8) kz_0_17 kz_0_18)⟩
  refine ⟨(fun _ h => (by cases h)), [], trivial, ?_, (fun _ h => (by cases h))⟩
  rw [List.append_nil]
  exact List.forall_mem_cons.mpr ⟨⟨show (20 : Nat) < 100 from by decide, nf0⟩, List.forall_mem_cons.mpr ⟨⟨show (20 : Nat) < 100 from by decide, nf1⟩, (fun _ h => (by cases h))⟩⟩
set_option maxHeartbeats 4000000 in
theorem vc_Gr_alter_at_kx_39_0 (x9 : Int) (x13 : Int) (nodes_0 : Int) (edges_0 : Int) (done_0 : Int) (past_0 : Int → Int) (near_0 : Int → Int) (tail_0 : Int → Int) (head_0 : Int → Int) (past_1 : Int → Int) (near_1 : Int → Int) (tail_1 : Int → Int) (head_1 : Int → Int) (nodes_1 : Int) (edges_1 : Int) (past_2 : Int → Int) (undone_2 : Int) (near_2 : Int → Int) (tail_2 : Int → Int) (head_2 : Int → Int) (nodes_2 : Int) (edges_2 : Int) (done_1 : Int) (undone_1 : Int) (k9 : 0 ≤ x9 ∧ x9 ≤ 29) (k13 : 1 ≤ x13 ∧ x13 ≤ 30) (d0 : x9 + 1 ≤ x13 ∧ x13 ≤ x9 + 1) (f18 : PNI (past_2) (x9)) (fe_0_0_1 : nodes_0 = nodes_1) (fe_0_1_1 : edges_0 = edges_1) (fe_0_17_1 : done_0 = done_1) (fe_0_0_2 : nodes_1 = nodes_2) (fe_0_1_2 : edges_1 = edges_2) (fe_0_18_2 : undone_1 = undone_2) (hE_0_7_1 : ∀ j : Int, tail_0 j = tail_1 j) (hE_0_7_2 : ∀ j : Int, tail_1 j = tail_2 j) (hE_0_8_1 : ∀ j : Int, head_0 j = head_1 j) (hE_0_8_2 : ∀ j : Int, head_1 j = head_2 j) (hE_0_14_1 : ∀ j : Int, near_0 j = near_1 j) (hE_0_14_2 : ∀ j : Int, near_1 j = near_2 j) (hE_0_16_1 : ∀ j : Int, past_0 j = past_1 j) (hE_0_16_2 : ∀ j : Int, past_1 j = past_2 j) (kz_0_0 : 0 ≤ nodes_0 ∧ nodes_0 ≤ 24) (kz_0_1 : 0 ≤ edges_0 ∧ edges_0 ≤ 48) (kz_0_17 : 0 ≤ done_0 ∧ done_0 ≤ 30) : PRO (past_0) (x13) := by
  subst fe_0_0_1
  subst fe_0_1_1
  subst fe_0_17_1
  subst fe_0_0_2
  subst fe_0_1_2
  subst fe_0_18_2
  have e_hE_0_7_1 := funext hE_0_7_1; subst e_hE_0_7_1
  have e_hE_0_7_2 := funext hE_0_7_2; subst e_hE_0_7_2
  have e_hE_0_8_1 := funext hE_0_8_1; subst e_hE_0_8_1
  have e_hE_0_8_2 := funext hE_0_8_2; subst e_hE_0_8_2
  have e_hE_0_14_1 := funext hE_0_14_1; subst e_hE_0_14_1
  have e_hE_0_14_2 := funext hE_0_14_2; subst e_hE_0_14_2
  have e_hE_0_16_1 := funext hE_0_16_1; subst e_hE_0_16_1
  have e_hE_0_16_2 := funext hE_0_16_2; subst e_hE_0_16_2
  first
    | exact pro_pdq ‹PDQ _ _ _› (by omega) (by omega)
    | exact pri_pro ‹PNI _ _› (by omega)
    | (have q := (‹MV2 _ _ _ _ _›); exact fun r a b => q r a (by omega))
    | exact pro_zero (by omega) (fun j a b => by have q := hT10 j a (by omega); omega)
  
def o_Gr_alter_at_kx_39 : or_T := (82, 15, [(0, (2, 0, 0, [3])), (4, (2, 0, 0, [61])), (5, (0, 0, 24, [])), (7, (2, 0, 0, [52])), (8, (2, 0, 0, [53])), (9, (0, 0, 29, [])), (10, (0, 1, 48, [])), (11, (0, 30, 30, [])), (12, (0, 1, 1, [])), (13, (0, 1, 30, [])), (14, (0, 0, 0, []))], [(9, [14, 0], [18]), (9, [5, 0], [0]), (9, [10, 0], [1]), (9, [7, 0], [7]), (9, [8, 0], [8]), (9, [4, 0], [16]), (9, [13, 0], [17]), (20, [4, 9], [61, 1, 762]), (20, [0], [60, 2, 3, 670, 0, 1, 14, 7, 8]), (20, [0], [60, 2, 2, 596, 0, 1, 7, 8]), (101, [0, 14], [18]), (20, [4, 9], [61, 1, 762]), (20, [0], [60, 2, 3, 670, 0, 1, 14, 7, 8]), (20, [0], [60, 2, 2, 596, 0, 1, 7, 8]), (101, [0, 13], [17]), (1, [13, 9, 12], []), (9, [9, 0], [17]), (7, [9, 11], [1]), (20, [4, 9], [61, 1, 762]), (20, [0], [50, 2, 0, 17, 18, 0, 8, 4, 3, 2, 0, 17, 2, 0, 18, 0, 30]), (20, [0], [60, 2, 3, 670, 0, 1, 14, 7, 8]), (20, [0], [60, 2, 2, 596, 0, 1, 7, 8])], [], [], [(20, [0, 13], [60, 0, 1, 737, 16])], [], [(13, 9, 1, 1)])
theorem oo_Gr_alter_at_kx_39 {kA : Nat → ClassId} : or_ok PRD kA GG o_Gr_alter_at_kx_39 := by
  refine or_mk fun A ta ws vs hD hth hl => ?_
  intro t0 r0 t4 r4 t5 k5 t7 r7 t8 r8 t9 k9 t10 k10 t11 k11 t12 k12 t13 k13 t14 k14 d0 f0 f1 f2 f3 f4 f5 f6 f7 f8 f9 ta1 w1 le1 s1 f11 f12 f13 ta2 w2 le2 s2 f15 f16 f17 f18 f19 f20 f21
  replace f5 := shm_176 f5
  have s1 : (∀ b j, w_el ws b j = w_el w1 b j) ∧ ∀ b j, w_fd ws b j = if b = v_ad (n_v vs 0) ∧ j = 18 then n_v vs 14 else w_fd w1 b j := s1.2
  have s2 : (∀ b j, w_el w1 b j = w_el w2 b j) ∧ ∀ b j, w_fd w1 b j = if b = v_ad (n_v vs 0) ∧ j = 17 then n_v vs 13 else w_fd w2 b j := s2.2
  replace f18 := shm_1832 f18
  have ar_0_7_1 : w_ar w1 (n_v vs 0) 7 = w_ar ws (n_v vs 0) 7 := by show v_ad (w_fd w1 _ _) = v_ad (w_fd ws _ _); rw [s1.2, if_neg (fun e => absurd e.2 (by decide))]
  have ar_0_7_2 : w_ar w2 (n_v vs 0) 7 = w_ar ws (n_v vs 0) 7 := by rw [← ar_0_7_1]; show v_ad (w_fd w2 _ _) = v_ad (w_fd w1 _ _); rw [s2.2, if_neg (fun e => absurd e.2 (by decide))]
  have ar_0_8_1 : w_ar w1 (n_v vs 0) 8 = w_ar ws (n_v vs 0) 8 := by show v_ad (w_fd w1 _ _) = v_ad (w_fd ws _ _); rw [s1.2, if_neg (fun e => absurd e.2 (by decide))]
  have ar_0_8_2 : w_ar w2 (n_v vs 0) 8 = w_ar ws (n_v vs 0) 8 := by rw [← ar_0_8_1]; show v_ad (w_fd w2 _ _) = v_ad (w_fd w1 _ _); rw [s2.2, if_neg (fun e => absurd e.2 (by decide))]
  have ar_0_14_1 : w_ar w1 (n_v vs 0) 14 = w_ar ws (n_v vs 0) 14 := by show v_ad (w_fd w1 _ _) = v_ad (w_fd ws _ _); rw [s1.2, if_neg (fun e => absurd e.2 (by decide))]
  have ar_0_14_2 : w_ar w2 (n_v vs 0) 14 = w_ar ws (n_v vs 0) 14 := by rw [← ar_0_14_1]; show v_ad (w_fd w2 _ _) = v_ad (w_fd w1 _ _); rw [s2.2, if_neg (fun e => absurd e.2 (by decide))]
  have ad_4 : v_ad (n_v vs 4) = w_ar ws (n_v vs 0) 16 := congrArg v_ad f5
  simp only [ad_4, ar_0_7_2, ar_0_8_2, ar_0_14_2] at f18
  have fe_0_0_1 : w_fi ws (n_v vs 0) 0 = w_fi w1 (n_v vs 0) 0 := by show v_iv (w_fd _ _ _) = v_iv (w_fd _ _ _); rw [s1.2, if_neg (fun e => absurd e.2 (by decide))]
  have fe_0_1_1 : w_fi ws (n_v vs 0) 1 = w_fi w1 (n_v vs 0) 1 := by show v_iv (w_fd _ _ _) = v_iv (w_fd _ _ _); rw [s1.2, if_neg (fun e => absurd e.2 (by decide))]
  have fe_0_17_1 : w_fi ws (n_v vs 0) 17 = w_fi w1 (n_v vs 0) 17 := by show v_iv (w_fd _ _ _) = v_iv (w_fd _ _ _); rw [s1.2, if_neg (fun e => absurd e.2 (by decide))]
  have fe_0_0_2 : w_fi w1 (n_v vs 0) 0 = w_fi w2 (n_v vs 0) 0 := by show v_iv (w_fd _ _ _) = v_iv (w_fd _ _ _); rw [s2.2, if_neg (fun e => absurd e.2 (by decide))]
  have fe_0_1_2 : w_fi w1 (n_v vs 0) 1 = w_fi w2 (n_v vs 0) 1 := by show v_iv (w_fd _ _ _) = v_iv (w_fd _ _ _); rw [s2.2, if_neg (fun e => absurd e.2 (by decide))]
  have fe_0_18_2 : w_fi w1 (n_v vs 0) 18 = w_fi w2 (n_v vs 0) 18 := by show v_iv (w_fd _ _ _) = v_iv (w_fd _ _ _); rw [s2.2, if_neg (fun e => absurd e.2 (by decide))]
  have hE_0_7_1 : ∀ j : Int, w_ei ws (w_ar ws (n_v vs 0) 7) j = w_ei w1 (w_ar ws (n_v vs 0) 7) j := fun j => s1.1 _ _
  have hE_0_7_2 : ∀ j : Int, w_ei w1 (w_ar ws (n_v vs 0) 7) j = w_ei w2 (w_ar ws (n_v vs 0) 7) j := fun j => s2.1 _ _
  have hE_0_8_1 : ∀ j : Int, w_ei ws (w_ar ws (n_v vs 0) 8) j = w_ei w1 (w_ar ws (n_v vs 0) 8) j := fun j => s1.1 _ _
  have hE_0_8_2 : ∀ j : Int, w_ei w1 (w_ar ws (n_v vs 0) 8) j = w_ei w2 (w_ar ws (n_v vs 0) 8) j := fun j => s2.1 _ _
  have hE_0_14_1 : ∀ j : Int, w_ei ws (w_ar ws (n_v vs 0) 14) j = w_ei w1 (w_ar ws (n_v vs 0) 14) j := fun j => s1.1 _ _
  have hE_0_14_2 : ∀ j : Int, w_ei w1 (w_ar ws (n_v vs 0) 14) j = w_ei w2 (w_ar ws (n_v vs 0) 14) j := fun j => s2.1 _ _
  have hE_0_16_1 : ∀ j : Int, w_ei ws (w_ar ws (n_v vs 0) 16) j = w_ei w1 (w_ar ws (n_v vs 0) 16) j := fun j => s1.1 _ _
  have hE_0_16_2 : ∀ j : Int, w_ei w1 (w_ar ws (n_v vs 0) 16) j = w_ei w2 (w_ar ws (n_v vs 0) 16) j := fun j => s2.1 _ _
  have kz_0_0 := fdq_21 hD hth r0
  have kz_0_1 := fdq_30 hD hth r0
  have kz_0_17 := fdq_288 hD hth r0
  have nf0 : fc_1 PRD (20, [0, 13], [60, 0, 1, 737, 16]) ws (vs) := ⟨nf_in hl rfl, sgq_850 (vc_Gr_alter_at_kx_39_0 (v_iv (n_v vs 9)) (v_iv (n_v vs 13)) (w_fi ws (n_v vs 0) 0) (w_fi ws (n_v vs 0) 1) (w_fi ws (n_v vs 0) 17) (w_ei ws (w_ar ws (n_v vs 0) 16)) (w_ei ws (w_ar ws (n_v vs 0) 14)) (w_ei ws (w_ar ws (n_v vs 0) 7)) (w_ei ws (w_ar ws (n_v vs 0) 8)) (w_ei w1 (w_ar ws (n_v vs 0) 16)) (w_ei w1 (w_ar ws (n_v vs 0) 14)) (w_ei w1 (w_ar ws (n_v vs 0) 7)) (w_ei w1 (w_ar ws (n_v vs 0) 8)) (w_fi w1 (n_v vs 0) 0) (w_fi w1 (n_v vs 0) 1) (w_ei w2 (w_ar ws (n_v vs 0) 16)) (w_fi w2 (n_v vs 0) 18) (w_ei w2 (w_ar ws (n_v vs 0) 14)) (w_ei w2 (w_ar ws (n_v vs 0) 7)) (w_ei w2 (w_ar ws (n_v vs 0) 8)) (w_fi w2 (n_v vs 0) 0) (w_fi w2 (n_v vs 0) 1) (w_fi w1 (n_v vs 0) 17) (w_fi w1 (n_v vs 0) 18) k9 k13 d0 f18 fe_0_0_1 fe_0_1_1 fe_0_17_1 fe_0_0_2 fe_0_1_2 fe_0_18_2 hE_0_7_1 hE_0_7_2 hE_0_8_1 hE_0_8_2 hE_0_14_1 hE_0_14_2 hE_0_16_1 hE_0_16_2 kz_0_0 kz_0_1 kz_0_17)⟩
  refine ⟨(fun _ h => (by cases h)), [], trivial, ?_, (fun _ h => (by cases h))⟩
  rw [List.append_nil]
  exact List.forall_mem_cons.mpr ⟨⟨show (20 : Nat) < 100 from by decide, nf0⟩, (fun _ h => (by cases h))⟩
set_option maxHeartbeats 4000000 in
theorem vc_Gr_alter_at_kx_40_0 (x13 : Int) (x14 : Int) (undone_0 : Int) (done_0 : Int) (k13 : 1 ≤ x13 ∧ x13 ≤ 30) (k14 : 0 ≤ x14 ∧ x14 ≤ 0) (g0 : x14 = undone_0) (g1 : x13 = done_0) (kz_0_17 : 0 ≤ done_0 ∧ done_0 ≤ 30) (kz_0_18 : 0 ≤ undone_0 ∧ undone_0 ≤ 30) : (done_0 + undone_0) ≤ 30 := by
  first
    | omega
  
set_option maxHeartbeats 4000000 in
theorem vc_Gr_alter_at_kx_40_1 (x13 : Int) (x14 : Int) (undone_0 : Int) (done_0 : Int) (past_0 : Int → Int) (k13 : 1 ≤ x13 ∧ x13 ≤ 30) (k14 : 0 ≤ x14 ∧ x14 ≤ 0) (g0 : x14 = undone_0) (g1 : x13 = done_0) (f8 : PRI (past_0) (x13)) (kz_0_17 : 0 ≤ done_0 ∧ done_0 ≤ 30) (kz_0_18 : 0 ≤ undone_0 ∧ undone_0 ≤ 30) : PDQ (done_0) (undone_0) (past_0) := by
  first
    | assumption
    | exact pri_pdq ‹PRI _ _› (by omega) (by omega)
  
def o_Gr_alter_at_kx_40 : or_T := (87, 15, [(0, (2, 0, 0, [3])), (4, (2, 0, 0, [61])), (5, (0, 0, 24, [])), (7, (2, 0, 0, [52])), (8, (2, 0, 0, [53])), (9, (0, 0, 29, [])), (10, (0, 1, 48, [])), (11, (0, 30, 30, [])), (12, (0, 1, 1, [])), (13, (0, 1, 30, [])), (14, (0, 0, 0, []))], [(9, [14, 0], [18]), (9, [13, 0], [17]), (9, [5, 0], [0]), (9, [10, 0], [1]), (9, [7, 0], [7]), (9, [8, 0], [8]), (9, [4, 0], [16]), (20, [0], [60, 2, 3, 670, 0, 1, 14, 7, 8]), (20, [0, 13], [60, 0, 1, 738, 16]), (20, [0], [60, 2, 2, 596, 0, 1, 7, 8]), (102, [14], [2305843009213693952]), (101, [0, 14], [18]), (101, [0, 13], [17]), (1, [13, 9, 12], []), (7, [9, 11], [1])], [], [], [(20, [0], [50, 2, 0, 17, 18, 0, 8, 4, 3, 2, 0, 17, 2, 0, 18, 0, 30]), (20, [0], [60, 2, 1, 739, 17, 18, 16])], [], [(13, 9, 1, 1)])
theorem oo_Gr_alter_at_kx_40 {kA : Nat → ClassId} : or_ok PRD kA GG o_Gr_alter_at_kx_40 := by
  refine or_mk fun A ta ws vs hD hth hl => ?_
  intro t0 r0 t4 r4 t5 k5 t7 r7 t8 r8 t9 k9 t10 k10 t11 k11 t12 k12 t13 k13 t14 k14 d0 f0 f1 f2 f3 f4 f5 f6 f7 f8 f9 ta1 w1 le1 s1 ta2 w2 le2 s2 ta3 w3 le3 s3 f13 f14
  replace f0 := shm_799 f0
  replace f1 := shm_795 f1
  have g0 : v_iv (n_v vs 14) = w_fi ws (n_v vs 0) 18 := congrArg v_iv f0
  have g1 : v_iv (n_v vs 13) = w_fi ws (n_v vs 0) 17 := congrArg v_iv f1
  have kz_0_17 := fdq_288 hD hth r0
  have kz_0_18 := fdq_289 hD hth r0
  have nf0 : fc_1 PRD (20, [0], [50, 2, 0, 17, 18, 0, 8, 4, 3, 2, 0, 17, 2, 0, 18, 0, 30]) ws (vs) := ⟨nf_in hl rfl, sgq_1511 (vc_Gr_alter_at_kx_40_0 (v_iv (n_v vs 13)) (v_iv (n_v vs 14)) (w_fi ws (n_v vs 0) 18) (w_fi ws (n_v vs 0) 17) k13 k14 g0 g1 kz_0_17 kz_0_18)⟩
  have nf1 : fc_1 PRD (20, [0], [60, 2, 1, 739, 17, 18, 16]) ws (vs) := ⟨nf_in hl rfl, sgq_1361 (vc_Gr_alter_at_kx_40_1 (v_iv (n_v vs 13)) (v_iv (n_v vs 14)) (w_fi ws (n_v vs 0) 18) (w_fi ws (n_v vs 0) 17) (w_ei ws (w_ar ws (n_v vs 0) 16)) k13 k14 g0 g1 (shm_855 f8) kz_0_17 kz_0_18)⟩
  refine ⟨(fun _ h => (by cases h)), [], trivial, ?_, (fun _ h => (by cases h))⟩
  rw [List.append_nil]
  exact List.forall_mem_cons.mpr ⟨⟨show (20 : Nat) < 100 from by decide, nf0⟩, List.forall_mem_cons.mpr ⟨⟨show (20 : Nat) < 100 from by decide, nf1⟩, (fun _ h => (by cases h))⟩⟩
set_option maxHeartbeats 4000000 in
theorem vc_Gr_alter_at_kx_41_0 (x12 : Int) (x14 : Int) (k12 : 122 ≤ x12 ∧ x12 ≤ 122) (k14 : 3660 ≤ x14 ∧ x14 ≤ 3660) : x12 + x14 ≤ 3782 := by
  first
    | omega
  
set_option maxHeartbeats 4000000 in
theorem vc_Gr_alter_at_kx_41_1 (x13 : Int) (x14 : Int) (k13 : 0 ≤ x13 ∧ x13 ≤ 0) (k14 : 3660 ≤ x14 ∧ x14 ≤ 3660) : x13 + x14 ≤ 3782 := by
  first
    | omega
  
set_option maxHeartbeats 4000000 in
theorem vc_Gr_alter_at_kx_41_2 (x9 : Int) (x12 : Int) (x13 : Int) (x14 : Int) (a4_0 : Int → Int) (k9 : 30 ≤ x9 ∧ x9 ≤ 30) (k12 : 122 ≤ x12 ∧ x12 ≤ 122) (k13 : 0 ≤ x13 ∧ x13 ≤ 0) (k14 : 3660 ≤ x14 ∧ x14 ≤ 3660) (f6 : PNI (a4_0) (x9)) : MV1 (a4_0) (a4_0) (x12) (x13) (x14) := by
  first
    | exact ⟨by omega, by omega, by omega, fun r a b => (‹PNI _ _›) r a (by omega)⟩
  
def o_Gr_alter_at_kx_41 : or_T := (56, 15, [(0, (2, 0, 0, [3])), (4, (2, 0, 0, [61])), (5, (0, 0, 24, [])), (7, (2, 0, 0, [52])), (8, (2, 0, 0, [53])), (9, (0, 30, 30, [])), (10, (0, 1, 48, [])), (11, (0, 30, 30, [])), (12, (0, 122, 122, [])), (13, (0, 0, 0, [])), (14, (0, 3660, 3660, []))], [(9, [5, 0], [0]), (9, [10, 0], [1]), (9, [7, 0], [7]), (9, [8, 0], [8]), (7, [9, 11], [0]), (9, [9, 0], [17]), (20, [4, 9], [61, 1, 762]), (20, [0], [50, 2, 0, 17, 18, 0, 8, 4, 3, 2, 0, 17, 2, 0, 18, 0, 30]), (20, [0], [60, 2, 3, 670, 0, 1, 14, 7, 8]), (20, [0], [60, 2, 2, 596, 0, 1, 7, 8])], [], [], [(21, [12, 14], [3782]), (21, [13, 14], [3782]), (20, [4, 4, 12, 13, 14], [61, 2, 763])], [], [])
theorem oo_Gr_alter_at_kx_41 {kA : Nat → ClassId} : or_ok PRD kA GG o_Gr_alter_at_kx_41 := by
  refine or_mk fun A ta ws vs hD hth hl => ?_
  intro t0 r0 t4 r4 t5 k5 t7 r7 t8 r8 t9 k9 t10 k10 t11 k11 t12 k12 t13 k13 t14 k14 f0 f1 f2 f3 f4 f5 f6 f7 f8 f9
  have nf0 : fc_1 PRD (21, [12, 14], [3782]) ws (vs) := ⟨nf_in hl rfl, sgq_1833 (vc_Gr_alter_at_kx_41_0 (v_iv (n_v vs 12)) (v_iv (n_v vs 14)) k12 k14)⟩
  have nf1 : fc_1 PRD (21, [13, 14], [3782]) ws (vs) := ⟨nf_in hl rfl, sgq_1833 (vc_Gr_alter_at_kx_41_1 (v_iv (n_v vs 13)) (v_iv (n_v vs 14)) k13 k14)⟩
  have nf2 : fc_1 PRD (20, [4, 4, 12, 13, 14], [61, 2, 763]) ws (vs) := ⟨nf_in hl rfl, sgq_1834 (vc_Gr_alter_at_kx_41_2 (v_iv (n_v vs 9)) (v_iv (n_v vs 12)) (v_iv (n_v vs 13)) (v_iv (n_v vs 14)) (w_ei ws (v_ad (n_v vs 4))) k9 k12 k13 k14 (shm_1832 f6))⟩
  refine ⟨(fun _ h => (by cases h)), [], trivial, ?_, (fun _ h => (by cases h))⟩
  rw [List.append_nil]
  exact List.forall_mem_cons.mpr ⟨⟨show (21 : Nat) < 100 from by decide, nf0⟩, List.forall_mem_cons.mpr ⟨⟨show (21 : Nat) < 100 from by decide, nf1⟩, List.forall_mem_cons.mpr ⟨⟨show (20 : Nat) < 100 from by decide, nf2⟩, (fun _ h => (by cases h))⟩⟩⟩
set_option maxHeartbeats 4000000 in
theorem vc_Gr_alter_at_kx_42_0 (x9 : Int) (x12 : Int) (x13 : Int) (x14 : Int) (nodes_0 : Int) (edges_0 : Int) (done_0 : Int) (near_0 : Int → Int) (tail_0 : Int → Int) (head_0 : Int → Int) (past_0 : Int → Int) (done_1 : Int) (near_1 : Int → Int) (tail_1 : Int → Int) (head_1 : Int → Int) (nodes_1 : Int) (edges_1 : Int) (past_1 : Int → Int) (k9 : 30 ≤ x9 ∧ x9 ≤ 30) (k12 : 122 ≤ x12 ∧ x12 ≤ 122) (k13 : 0 ≤ x13 ∧ x13 ≤ 0) (k14 : 3660 ≤ x14 ∧ x14 ≤ 3660) (f18 : MV2 (past_1) (past_1) (x12) (x13) (x14)) (fe_0_0_1 : nodes_0 = nodes_1) (fe_0_1_1 : edges_0 = edges_1) (fe_0_17_1 : done_0 = done_1) (hE_0_7_1 : ∀ j : Int, tail_0 j = tail_1 j) (hE_0_8_1 : ∀ j : Int, head_0 j = head_1 j) (hE_0_14_1 : ∀ j : Int, near_0 j = near_1 j) (hE_0_16_1 : ∀ j : Int, past_0 j = past_1 j) (kz_0_0 : 0 ≤ nodes_0 ∧ nodes_0 ≤ 24) (kz_0_1 : 0 ≤ edges_0 ∧ edges_0 ≤ 48) (kz_0_17 : 0 ≤ done_0 ∧ done_0 ≤ 30) : PRO (past_0) (x9) := by
  subst fe_0_0_1
  subst fe_0_1_1
  subst fe_0_17_1
  have e_hE_0_7_1 := funext hE_0_7_1; subst e_hE_0_7_1
  have e_hE_0_8_1 := funext hE_0_8_1; subst e_hE_0_8_1
  have e_hE_0_14_1 := funext hE_0_14_1; subst e_hE_0_14_1
  have e_hE_0_16_1 := funext hE_0_16_1; subst e_hE_0_16_1
  first
    | exact pro_pdq ‹PDQ _ _ _› (by omega) (by omega)
    | exact pri_pro ‹PNI _ _› (by omega)
    | (have q := (‹MV2 _ _ _ _ _›); exact fun r a b => q r a (by omega))
    | exact pro_zero (by omega) (fun j a b => by have q := hT10 j a (by omega); omega)
  
def o_Gr_alter_at_kx_42 : or_T := (82, 16, [(0, (2, 0, 0, [3])), (4, (2, 0, 0, [61])), (5, (0, 0, 24, [])), (7, (2, 0, 0, [52])), (8, (2, 0, 0, [53])), (9, (0, 30, 30, [])), (10, (0, 1, 48, [])), (11, (0, 30, 30, [])), (12, (0, 122, 122, [])), (13, (0, 0, 0, [])), (14, (0, 3660, 3660, [])), (15, (0, 0, 0, []))], [(9, [15, 0], [18]), (9, [5, 0], [0]), (9, [10, 0], [1]), (9, [7, 0], [7]), (9, [8, 0], [8]), (9, [4, 0], [16]), (9, [9, 0], [17]), (21, [12, 14], [3782]), (21, [13, 14], [3782]), (20, [0], [60, 2, 3, 670, 0, 1, 14, 7, 8]), (20, [0], [60, 2, 2, 596, 0, 1, 7, 8]), (20, [4, 4, 12, 13, 14], [61, 2, 764]), (101, [0, 15], [18]), (21, [12, 14], [3782]), (21, [13, 14], [3782]), (20, [0], [50, 2, 0, 17, 18, 0, 8, 4, 3, 2, 0, 17, 2, 0, 18, 0, 30]), (20, [0], [60, 2, 3, 670, 0, 1, 14, 7, 8]), (20, [0], [60, 2, 2, 596, 0, 1, 7, 8]), (20, [4, 4, 12, 13, 14], [61, 2, 764]), (102, [14], [2305843009213693952]), (21, [12, 14], [3782]), (21, [13, 14], [3782]), (7, [9, 11], [0])], [], [], [(20, [0, 9], [60, 0, 1, 737, 16])], [], [])
theorem oo_Gr_alter_at_kx_42 {kA : Nat → ClassId} : or_ok PRD kA GG o_Gr_alter_at_kx_42 := by
  refine or_mk fun A ta ws vs hD hth hl => ?_
  intro t0 r0 t4 r4 t5 k5 t7 r7 t8 r8 t9 k9 t10 k10 t11 k11 t12 k12 t13 k13 t14 k14 t15 k15 f0 f1 f2 f3 f4 f5 f6 f7 f8 f9 f10 f11 ta1 w1 le1 s1 f13 f14 f15 f16 f17 f18 ta2 w2 le2 s2 f20 f21 f22
  replace f5 := shm_176 f5
  have s1 : (∀ b j, w_el ws b j = w_el w1 b j) ∧ ∀ b j, w_fd ws b j = if b = v_ad (n_v vs 0) ∧ j = 18 then n_v vs 15 else w_fd w1 b j := s1.2
  replace f18 := shm_1835 f18
  have ar_0_7_1 : w_ar w1 (n_v vs 0) 7 = w_ar ws (n_v vs 0) 7 := by show v_ad (w_fd w1 _ _) = v_ad (w_fd ws _ _); rw [s1.2, if_neg (fun e => absurd e.2 (by decide))]
  have ar_0_8_1 : w_ar w1 (n_v vs 0) 8 = w_ar ws (n_v vs 0) 8 := by show v_ad (w_fd w1 _ _) = v_ad (w_fd ws _ _); rw [s1.2, if_neg (fun e => absurd e.2 (by decide))]
  have ar_0_14_1 : w_ar w1 (n_v vs 0) 14 = w_ar ws (n_v vs 0) 14 := by show v_ad (w_fd w1 _ _) = v_ad (w_fd ws _ _); rw [s1.2, if_neg (fun e => absurd e.2 (by decide))]
  have ad_4 : v_ad (n_v vs 4) = w_ar ws (n_v vs 0) 16 := congrArg v_ad f5
  simp only [ad_4, ar_0_7_1, ar_0_8_1, ar_0_14_1] at f18
  have fe_0_0_1 : w_fi ws (n_v vs 0) 0 = w_fi w1 (n_v vs 0) 0 := by show v_iv (w_fd _ _ _) = v_iv (w_fd _ _ _); rw [s1.2, if_neg (fun e => absurd e.2 (by decide))]
  have fe_0_1_1 : w_fi ws (n_v vs 0) 1 = w_fi w1 (n_v vs 0) 1 := by show v_iv (w_fd _ _ _) = v_iv (w_fd _ _ _); rw [s1.2, if_neg (fun e => absurd e.2 (by decide))]
  have fe_0_17_1 : w_fi ws (n_v vs 0) 17 = w_fi w1 (n_v vs 0) 17 := by show v_iv (w_fd _ _ _) = v_iv (w_fd _ _ _); rw [s1.2, if_neg (fun e => absurd e.2 (by decide))]
  have hE_0_7_1 : ∀ j : Int, w_ei ws (w_ar ws (n_v vs 0) 7) j = w_ei w1 (w_ar ws (n_v vs 0) 7) j := fun j => s1.1 _ _
  have hE_0_8_1 : ∀ j : Int, w_ei ws (w_ar ws (n_v vs 0) 8) j = w_ei w1 (w_ar ws (n_v vs 0) 8) j := fun j => s1.1 _ _
  have hE_0_14_1 : ∀ j : Int, w_ei ws (w_ar ws (n_v vs 0) 14) j = w_ei w1 (w_ar ws (n_v vs 0) 14) j := fun j => s1.1 _ _
  have hE_0_16_1 : ∀ j : Int, w_ei ws (w_ar ws (n_v vs 0) 16) j = w_ei w1 (w_ar ws (n_v vs 0) 16) j := fun j => s1.1 _ _
  have kz_0_0 := fdq_21 hD hth r0
  have kz_0_1 := fdq_30 hD hth r0
  have kz_0_17 := fdq_288 hD hth r0
  have nf0 : fc_1 PRD (20, [0, 9], [60, 0, 1, 737, 16]) ws (vs) := ⟨nf_in hl rfl, sgq_850 (vc_Gr_alter_at_kx_42_0 (v_iv (n_v vs 9)) (v_iv (n_v vs 12)) (v_iv (n_v vs 13)) (v_iv (n_v vs 14)) (w_fi ws (n_v vs 0) 0) (w_fi ws (n_v vs 0) 1) (w_fi ws (n_v vs 0) 17) (w_ei ws (w_ar ws (n_v vs 0) 14)) (w_ei ws (w_ar ws (n_v vs 0) 7)) (w_ei ws (w_ar ws (n_v vs 0) 8)) (w_ei ws (w_ar ws (n_v vs 0) 16)) (w_fi w1 (n_v vs 0) 17) (w_ei w1 (w_ar ws (n_v vs 0) 14)) (w_ei w1 (w_ar ws (n_v vs 0) 7)) (w_ei w1 (w_ar ws (n_v vs 0) 8)) (w_fi w1 (n_v vs 0) 0) (w_fi w1 (n_v vs 0) 1) (w_ei w1 (w_ar ws (n_v vs 0) 16)) k9 k12 k13 k14 f18 fe_0_0_1 fe_0_1_1 fe_0_17_1 hE_0_7_1 hE_0_8_1 hE_0_14_1 hE_0_16_1 kz_0_0 kz_0_1 kz_0_17)⟩
  refine ⟨(fun _ h => (by cases h)), [], trivial, ?_, (fun _ h => (by cases h))⟩
  rw [List.append_nil]
  exact List.forall_mem_cons.mpr ⟨⟨show (20 : Nat) < 100 from by decide, nf0⟩, (fun _ h => (by cases h))⟩
set_option maxHeartbeats 4000000 in
theorem vc_Gr_alter_at_kx_43_0 (x9 : Int) (x15 : Int) (undone_0 : Int) (done_0 : Int) (k9 : 30 ≤ x9 ∧ x9 ≤ 30) (k15 : 0 ≤ x15 ∧ x15 ≤ 0) (g0 : x15 = undone_0) (g5 : x9 = done_0) (kz_0_17 : 0 ≤ done_0 ∧ done_0 ≤ 30) (kz_0_18 : 0 ≤ undone_0 ∧ undone_0 ≤ 30) : (done_0 + undone_0) ≤ 30 := by
  first
    | omega
  
set_option maxHeartbeats 4000000 in
theorem vc_Gr_alter_at_kx_43_1 (x9 : Int) (x15 : Int) (undone_0 : Int) (done_0 : Int) (past_0 : Int → Int) (k9 : 30 ≤ x9 ∧ x9 ≤ 30) (k15 : 0 ≤ x15 ∧ x15 ≤ 0) (g0 : x15 = undone_0) (g5 : x9 = done_0) (f8 : PRI (past_0) (x9)) (kz_0_17 : 0 ≤ done_0 ∧ done_0 ≤ 30) (kz_0_18 : 0 ≤ undone_0 ∧ undone_0 ≤ 30) : PDQ (done_0) (undone_0) (past_0) := by
  first
    | assumption
    | exact pri_pdq ‹PRI _ _› (by omega) (by omega)
  
def o_Gr_alter_at_kx_43 : or_T := (87, 16, [(0, (2, 0, 0, [3])), (4, (2, 0, 0, [61])), (5, (0, 0, 24, [])), (7, (2, 0, 0, [52])), (8, (2, 0, 0, [53])), (9, (0, 30, 30, [])), (10, (0, 1, 48, [])), (11, (0, 30, 30, [])), (15, (0, 0, 0, []))], [(9, [15, 0], [18]), (9, [5, 0], [0]), (9, [10, 0], [1]), (9, [7, 0], [7]), (9, [8, 0], [8]), (9, [9, 0], [17]), (9, [4, 0], [16]), (20, [0], [60, 2, 3, 670, 0, 1, 14, 7, 8]), (20, [0, 9], [60, 0, 1, 738, 16]), (20, [0], [60, 2, 2, 596, 0, 1, 7, 8]), (102, [15], [2305843009213693952]), (101, [0, 15], [18]), (102, [14], [2305843009213693952]), (7, [9, 11], [0])], [], [], [(20, [0], [50, 2, 0, 17, 18, 0, 8, 4, 3, 2, 0, 17, 2, 0, 18, 0, 30]), (20, [0], [60, 2, 1, 739, 17, 18, 16])], [], [])
theorem oo_Gr_alter_at_kx_43 {kA : Nat → ClassId} : or_ok PRD kA GG o_Gr_alter_at_kx_43 := by
  refine or_mk fun A ta ws vs hD hth hl => ?_
  intro t0 r0 t4 r4 t5 k5 t7 r7 t8 r8 t9 k9 t10 k10 t11 k11 t15 k15 f0 f1 f2 f3 f4 f5 f6 f7 f8 f9 ta1 w1 le1 s1 ta2 w2 le2 s2 ta3 w3 le3 s3 f13
  replace f0 := shm_799 f0
  replace f5 := shm_795 f5
  have g0 : v_iv (n_v vs 15) = w_fi ws (n_v vs 0) 18 := congrArg v_iv f0
  have g5 : v_iv (n_v vs 9) = w_fi ws (n_v vs 0) 17 := congrArg v_iv f5
  have kz_0_17 := fdq_288 hD hth r0
  have kz_0_18 := fdq_289 hD hth r0
  have nf0 : fc_1 PRD (20, [0], [50, 2, 0, 17, 18, 0, 8, 4, 3, 2, 0, 17, 2, 0, 18, 0, 30]) ws (vs) := ⟨nf_in hl rfl, sgq_1511 (vc_Gr_alter_at_kx_43_0 (v_iv (n_v vs 9)) (v_iv (n_v vs 15)) (w_fi ws (n_v vs 0) 18) (w_fi ws (n_v vs 0) 17) k9 k15 g0 g5 kz_0_17 kz_0_18)⟩
  have nf1 : fc_1 PRD (20, [0], [60, 2, 1, 739, 17, 18, 16]) ws (vs) := ⟨nf_in hl rfl, sgq_1361 (vc_Gr_alter_at_kx_43_1 (v_iv (n_v vs 9)) (v_iv (n_v vs 15)) (w_fi ws (n_v vs 0) 18) (w_fi ws (n_v vs 0) 17) (w_ei ws (w_ar ws (n_v vs 0) 16)) k9 k15 g0 g5 (shm_855 f8) kz_0_17 kz_0_18)⟩
  refine ⟨(fun _ h => (by cases h)), [], trivial, ?_, (fun _ h => (by cases h))⟩
  rw [List.append_nil]
  exact List.forall_mem_cons.mpr ⟨⟨show (20 : Nat) < 100 from by decide, nf0⟩, List.forall_mem_cons.mpr ⟨⟨show (20 : Nat) < 100 from by decide, nf1⟩, (fun _ h => (by cases h))⟩⟩
set_option maxHeartbeats 4000000 in
theorem vc_Gr_alter_at_kx_44_0 (x9 : Int) (x14 : Int) (nodes_0 : Int) (edges_0 : Int) (done_0 : Int) (past_0 : Int → Int) (near_0 : Int → Int) (tail_0 : Int → Int) (head_0 : Int → Int) (past_1 : Int → Int) (near_1 : Int → Int) (tail_1 : Int → Int) (head_1 : Int → Int) (nodes_1 : Int) (edges_1 : Int) (past_2 : Int → Int) (undone_2 : Int) (near_2 : Int → Int) (tail_2 : Int → Int) (head_2 : Int → Int) (nodes_2 : Int) (edges_2 : Int) (done_1 : Int) (undone_1 : Int) (k9 : 0 ≤ x9 ∧ x9 ≤ 29) (k14 : 1 ≤ x14 ∧ x14 ≤ 30) (d0 : x9 + 1 ≤ x14 ∧ x14 ≤ x9 + 1) (f18 : PNI (past_2) (x9)) (fe_0_0_1 : nodes_0 = nodes_1) (fe_0_1_1 : edges_0 = edges_1) (fe_0_17_1 : done_0 = done_1) (fe_0_0_2 : nodes_1 = nodes_2) (fe_0_1_2 : edges_1 = edges_2) (fe_0_18_2 : undone_1 = undone_2) (hE_0_7_1 : ∀ j : Int, tail_0 j = tail_1 j) (hE_0_7_2 : ∀ j : Int, tail_1 j = tail_2 j) (hE_0_8_1 : ∀ j : Int, head_0 j = head_1 j) (hE_0_8_2 : ∀ j : Int, head_1 j = head_2 j) (hE_0_14_1 : ∀ j : Int, near_0 j = near_1 j) (hE_0_14_2 : ∀ j : Int, near_1 j = near_2 j) (hE_0_16_1 : ∀ j : Int, past_0 j = past_1 j) (hE_0_16_2 : ∀ j : Int, past_1 j = past_2 j) (kz_0_0 : 0 ≤ nodes_0 ∧ nodes_0 ≤ 24) (kz_0_1 : 0 ≤ edges_0 ∧ edges_0 ≤ 48) (kz_0_17 : 0 ≤ done_0 ∧ done_0 ≤ 30) : PRO (past_0) (x14) := by
  subst fe_0_0_1
  subst fe_0_1_1
  subst fe_0_17_1
  subst fe_0_0_2
  subst fe_0_1_2
  subst fe_0_18_2
  have e_hE_0_7_1 := funext hE_0_7_1; subst e_hE_0_7_1
  have e_hE_0_7_2 := funext hE_0_7_2; subst e_hE_0_7_2
  have e_hE_0_8_1 := funext hE_0_8_1; subst e_hE_0_8_1
  have e_hE_0_8_2 := funext hE_0_8_2; subst e_hE_0_8_2
  have e_hE_0_14_1 := funext hE_0_14_1; subst e_hE_0_14_1
  have e_hE_0_14_2 := funext hE_0_14_2; subst e_hE_0_14_2
  have e_hE_0_16_1 := funext hE_0_16_1; subst e_hE_0_16_1
  have e_hE_0_16_2 := funext hE_0_16_2; subst e_hE_0_16_2
  first
    | exact pro_pdq ‹PDQ _ _ _› (by omega) (by omega)
    | exact pri_pro ‹PNI _ _› (by omega)
    | (have q := (‹MV2 _ _ _ _ _›); exact fun r a b => q r a (by omega))
    | exact pro_zero (by omega) (fun j a b => by have q := hT10 j a (by omega); omega)
  
def o_Gr_alter_at_kx_44 : or_T := (82, 16, [(0, (2, 0, 0, [3])), (4, (2, 0, 0, [61])), (5, (0, 0, 24, [])), (7, (2, 0, 0, [52])), (8, (2, 0, 0, [53])), (9, (0, 0, 29, [])), (11, (0, 0, 47, [])), (12, (0, 30, 30, [])), (13, (0, 1, 1, [])), (14, (0, 1, 30, [])), (15, (0, 0, 0, []))], [(9, [15, 0], [18]), (9, [5, 0], [0]), (9, [11, 0], [1]), (9, [7, 0], [7]), (9, [8, 0], [8]), (9, [4, 0], [16]), (9, [14, 0], [17]), (20, [4, 9], [61, 1, 762]), (20, [0], [60, 2, 3, 670, 0, 1, 14, 7, 8]), (20, [0], [60, 2, 2, 596, 0, 1, 7, 8]), (101, [0, 15], [18]), (20, [4, 9], [61, 1, 762]), (20, [0], [60, 2, 3, 670, 0, 1, 14, 7, 8]), (20, [0], [60, 2, 2, 596, 0, 1, 7, 8]), (101, [0, 14], [17]), (1, [14, 9, 13], []), (9, [9, 0], [17]), (7, [9, 12], [1]), (20, [4, 9], [61, 1, 762]), (20, [0], [50, 2, 0, 17, 18, 0, 8, 4, 3, 2, 0, 17, 2, 0, 18, 0, 30]), (20, [0], [60, 2, 3, 670, 0, 1, 14, 7, 8]), (20, [0], [60, 2, 2, 596, 0, 1, 7, 8])], [], [], [(20, [0, 14], [60, 0, 1, 737, 16])], [], [(14, 9, 1, 1)])
theorem oo_Gr_alter_at_kx_44 {kA : Nat → ClassId} : or_ok PRD kA GG o_Gr_alter_at_kx_44 := by
  refine or_mk fun A ta ws vs hD hth hl => ?_
  intro t0 r0 t4 r4 t5 k5 t7 r7 t8 r8 t9 k9 t11 k11 t12 k12 t13 k13 t14 k14 t15 k15 d0 f0 f1 f2 f3 f4 f5 f6 f7 f8 f9 ta1 w1 le1 s1 f11 f12 f13 ta2 w2 le2 s2 f15 f16 f17 f18 f19 f20 f21
  replace f5 := shm_176 f5
  have s1 : (∀ b j, w_el ws b j = w_el w1 b j) ∧ ∀ b j, w_fd ws b j = if b = v_ad (n_v vs 0) ∧ j = 18 then n_v vs 15 else w_fd w1 b j := s1.2
  have s2 : (∀ b j, w_el w1 b j = w_el w2 b j) ∧ ∀ b j, w_fd w1 b j = if b = v_ad (n_v vs 0) ∧ j = 17 then n_v vs 14 else w_fd w2 b j := s2.2
  replace f18 := shm_1832 f18
  have ar_0_7_1 : w_ar w1 (n_v vs 0) 7 = w_ar ws (n_v vs 0) 7 := by show v_ad (w_fd w1 _ _) = v_ad (w_fd ws _ _); rw [s1.2, if_neg (fun e => absurd e.2 (by decide))]
  have ar_0_7_2 : w_ar w2 (n_v vs 0) 7 = w_ar ws (n_v vs 0) 7 := by rw [← ar_0_7_1]; show v_ad (w_fd w2 _ _) = v_ad (w_fd w1 _ _); rw [s2.2, if_neg (fun e => absurd e.2 (by decide))]
  have ar_0_8_1 : w_ar w1 (n_v vs 0) 8 = w_ar ws (n_v vs 0) 8 := by show v_ad (w_fd w1 _ _) = v_ad (w_fd ws _ _); rw [s1.2, if_neg (fun e => absurd e.2 (by decide))]
  have ar_0_8_2 : w_ar w2 (n_v vs 0) 8 = w_ar ws (n_v vs 0) 8 := by rw [← ar_0_8_1]; show v_ad (w_fd w2 _ _) = v_ad (w_fd w1 _ _); rw [s2.2, if_neg (fun e => absurd e.2 (by decide))]
  have ar_0_14_1 : w_ar w1 (n_v vs 0) 14 = w_ar ws (n_v vs 0) 14 := by show v_ad (w_fd w1 _ _) = v_ad (w_fd ws _ _); rw [s1.2, if_neg (fun e => absurd e.2 (by decide))]
  have ar_0_14_2 : w_ar w2 (n_v vs 0) 14 = w_ar ws (n_v vs 0) 14 := by rw [← ar_0_14_1]; show v_ad (w_fd w2 _ _) = v_ad (w_fd w1 _ _); rw [s2.2, if_neg (fun e => absurd e.2 (by decide))]
  have ad_4 : v_ad (n_v vs 4) = w_ar ws (n_v vs 0) 16 := congrArg v_ad f5
  simp only [ad_4, ar_0_7_2, ar_0_8_2, ar_0_14_2] at f18
  have fe_0_0_1 : w_fi ws (n_v vs 0) 0 = w_fi w1 (n_v vs 0) 0 := by show v_iv (w_fd _ _ _) = v_iv (w_fd _ _ _); rw [s1.2, if_neg (fun e => absurd e.2 (by decide))]
  have fe_0_1_1 : w_fi ws (n_v vs 0) 1 = w_fi w1 (n_v vs 0) 1 := by show v_iv (w_fd _ _ _) = v_iv (w_fd _ _ _); rw [s1.2, if_neg (fun e => absurd e.2 (by decide))]
  have fe_0_17_1 : w_fi ws (n_v vs 0) 17 = w_fi w1 (n_v vs 0) 17 := by show v_iv (w_fd _ _ _) = v_iv (w_fd _ _ _); rw [s1.2, if_neg (fun e => absurd e.2 (by decide))]
  have fe_0_0_2 : w_fi w1 (n_v vs 0) 0 = w_fi w2 (n_v vs 0) 0 := by show v_iv (w_fd _ _ _) = v_iv (w_fd _ _ _); rw [s2.2, if_neg (fun e => absurd e.2 (by decide))]
  have fe_0_1_2 : w_fi w1 (n_v vs 0) 1 = w_fi w2 (n_v vs 0) 1 := by show v_iv (w_fd _ _ _) = v_iv (w_fd _ _ _); rw [s2.2, if_neg (fun e => absurd e.2 (by decide))]
  have fe_0_18_2 : w_fi w1 (n_v vs 0) 18 = w_fi w2 (n_v vs 0) 18 := by show v_iv (w_fd _ _ _) = v_iv (w_fd _ _ _); rw [s2.2, if_neg (fun e => absurd e.2 (by decide))]
  have hE_0_7_1 : ∀ j : Int, w_ei ws (w_ar ws (n_v vs 0) 7) j = w_ei w1 (w_ar ws (n_v vs 0) 7) j := fun j => s1.1 _ _
  have hE_0_7_2 : ∀ j : Int, w_ei w1 (w_ar ws (n_v vs 0) 7) j = w_ei w2 (w_ar ws (n_v vs 0) 7) j := fun j => s2.1 _ _
  have hE_0_8_1 : ∀ j : Int, w_ei ws (w_ar ws (n_v vs 0) 8) j = w_ei w1 (w_ar ws (n_v vs 0) 8) j := fun j => s1.1 _ _
  have hE_0_8_2 : ∀ j : Int, w_ei w1 (w_ar ws (n_v vs 0) 8) j = w_ei w2 (w_ar ws (n_v vs 0) 8) j := fun j => s2.1 _ _
  have hE_0_14_1 : ∀ j : Int, w_ei ws (w_ar ws (n_v vs 0) 14) j = w_ei w1 (w_ar ws (n_v vs 0) 14) j := fun j => s1.1 _ _
  have hE_0_14_2 : ∀ j : Int, w_ei w1 (w_ar ws (n_v vs 0) 14) j = w_ei w2 (w_ar ws (n_v vs 0) 14) j := fun j => s2.1 _ _
  have hE_0_16_1 : ∀ j : Int, w_ei ws (w_ar ws (n_v vs 0) 16) j = w_ei w1 (w_ar ws (n_v vs 0) 16) j := fun j => s1.1 _ _
  have hE_0_16_2 : ∀ j : Int, w_ei w1 (w_ar ws (n_v vs 0) 16) j = w_ei w2 (w_ar ws (n_v vs 0) 16) j := fun j => s2.1 _ _
  have kz_0_0 := fdq_21 hD hth r0
  have kz_0_1 := fdq_30 hD hth r0
  have kz_0_17 := fdq_288 hD hth r0
  have nf0 : fc_1 PRD (20, [0, 14], [60, 0, 1, 737, 16]) ws (vs) := ⟨nf_in hl rfl, sgq_850 (vc_Gr_alter_at_kx_44_0 (v_iv (n_v vs 9)) (v_iv (n_v vs 14)) (w_fi ws (n_v vs 0) 0) (w_fi ws (n_v vs 0) 1) (w_fi ws (n_v vs 0) 17) (w_ei ws (w_ar ws (n_v vs 0) 16)) (w_ei ws (w_ar ws (n_v vs 0) 14)) (w_ei ws (w_ar ws (n_v vs 0) 7)) (w_ei ws (w_ar ws (n_v vs 0) 8)) (w_ei w1 (w_ar ws (n_v vs 0) 16)) (w_ei w1 (w_ar ws (n_v vs 0) 14)) (w_ei w1 (w_ar ws (n_v vs 0) 7)) (w_ei w1 (w_ar ws (n_v vs 0) 8)) (w_fi w1 (n_v vs 0) 0) (w_fi w1 (n_v vs 0) 1) (w_ei w2 (w_ar ws (n_v vs 0) 16)) (w_fi w2 (n_v vs 0) 18) (w_ei w2 (w_ar ws (n_v vs 0) 14)) (w_ei w2 (w_ar ws (n_v vs 0) 7)) (w_ei w2 (w_ar ws (n_v vs 0) 8)) (w_fi w2 (n_v vs 0) 0) (w_fi w2 (n_v vs 0) 1) (w_fi w1 (n_v vs 0) 17) (w_fi w1 (n_v vs 0) 18) k9 k14 d0 f18 fe_0_0_1 fe_0_1_1 fe_0_17_1 fe_0_0_2 fe_0_1_2 fe_0_18_2 hE_0_7_1 hE_0_7_2 hE_0_8_1 hE_0_8_2 hE_0_14_1 hE_0_14_2 hE_0_16_1 hE_0_16_2 kz_0_0 kz_0_1 kz_0_17)⟩
  refine ⟨(fun _ h => (by cases h)), [], trivial, ?_, (fun _ h => (by cases h))⟩
  rw [List.append_nil]
  exact List.forall_mem_cons.mpr ⟨⟨show (20 : Nat) < 100 from by decide, nf0⟩, (fun _ h => (by cases h))⟩
set_option maxHeartbeats 4000000 in
theorem vc_Gr_alter_at_kx_45_0 (x14 : Int) (x15 : Int) (undone_0 : Int) (done_0 : Int) (k14 : 1 ≤ x14 ∧ x14 ≤ 30) (k15 : 0 ≤ x15 ∧ x15 ≤ 0) (g0 : x15 = undone_0) (g1 : x14 = done_0) (kz_0_17 : 0 ≤ done_0 ∧ done_0 ≤ 30) (kz_0_18 : 0 ≤ undone_0 ∧ undone_0 ≤ 30) : (done_0 + undone_0) ≤ 30 := by
  first
    | omega
  
set_option maxHeartbeats 4000000 in
theorem vc_Gr_alter_at_kx_45_1 (x14 : Int) (x15 : Int) (undone_0 : Int) (done_0 : Int) (past_0 : Int → Int) (k14 : 1 ≤ x14 ∧ x14 ≤ 30) (k15 : 0 ≤ x15 ∧ x15 ≤ 0) (g0 : x15 = undone_0) (g1 : x14 = done_0) (f8 : PRI (past_0) (x14)) (kz_0_17 : 0 ≤ done_0 ∧ done_0 ≤ 30) (kz_0_18 : 0 ≤ undone_0 ∧ undone_0 ≤ 30) : PDQ (done_0) (undone_0) (past_0) := by
  first
    | assumption
    | exact pri_pdq ‹PRI _ _› (by omega) (by omega)
  
def o_Gr_alter_at_kx_45 : or_T := (87, 16, [(0, (2, 0, 0, [3])), (4, (2, 0, 0, [61])), (5, (0, 0, 24, [])), (7, (2, 0, 0, [52])), (8, (2, 0, 0, [53])), (9, (0, 0, 29, [])), (11, (0, 0, 47, [])), (12, (0, 30, 30, [])), (13, (0, 1, 1, [])), (14, (0, 1, 30, [])), (15, (0, 0, 0, []))], [(9, [15, 0], [18]), (9, [14, 0], [17]), (9, [5, 0], [0]), (9, [11, 0], [1]), (9, [7, 0], [7]), (9, [8, 0], [8]), (9, [4, 0], [16]), (20, [0], [60, 2, 3, 670, 0, 1, 14, 7, 8]), (20, [0, 14], [60, 0, 1, 738, 16]), (20, [0], [60, 2, 2, 596, 0, 1, 7, 8]), (102, [15], [2305843009213693952]), (101, [0, 15], [18]), (101, [0, 14], [17]), (1, [14, 9, 13], []), (7, [9, 12], [1])], [], [], [(20, [0], [50, 2, 0, 17, 18, 0, 8, 4, 3, 2, 0, 17, 2, 0, 18, 0, 30]), (20, [0], [60, 2, 1, 739, 17, 18, 16])], [], [(14, 9, 1, 1)])
theorem oo_Gr_alter_at_kx_45 {kA : Nat → ClassId} : or_ok PRD kA GG o_Gr_alter_at_kx_45 := by
  refine or_mk fun A ta ws vs hD hth hl => ?_
  intro t0 r0 t4 r4 t5 k5 t7 r7 t8 r8 t9 k9 t11 k11 t12 k12 t13 k13 t14 k14 t15 k15 d0 f0 f1 f2 f3 f4 f5 f6 f7 f8 f9 ta1 w1 le1 s1 ta2 w2 le2 s2 ta3 w3 le3 s3 f13 f14
  replace f0 := shm_799 f0
  replace f1 := shm_795 f1
  have g0 : v_iv (n_v vs 15) = w_fi ws (n_v vs 0) 18 := congrArg v_iv f0
  have g1 : v_iv (n_v vs 14) = w_fi ws (n_v vs 0) 17 := congrArg v_iv f1
  have kz_0_17 := fdq_288 hD hth r0
  have kz_0_18 := fdq_289 hD hth r0
  have nf0 : fc_1 PRD (20, [0], [50, 2, 0, 17, 18, 0, 8, 4, 3, 2, 0, 17, 2, 0, 18, 0, 30]) ws (vs) := ⟨nf_in hl rfl, sgq_1511 (vc_Gr_alter_at_kx_45_0 (v_iv (n_v vs 14)) (v_iv (n_v vs 15)) (w_fi ws (n_v vs 0) 18) (w_fi ws (n_v vs 0) 17) k14 k15 g0 g1 kz_0_17 kz_0_18)⟩
  have nf1 : fc_1 PRD (20, [0], [60, 2, 1, 739, 17, 18, 16]) ws (vs) := ⟨nf_in hl rfl, sgq_1361 (vc_Gr_alter_at_kx_45_1 (v_iv (n_v vs 14)) (v_iv (n_v vs 15)) (w_fi ws (n_v vs 0) 18) (w_fi ws (n_v vs 0) 17) (w_ei ws (w_ar ws (n_v vs 0) 16)) k14 k15 g0 g1 (shm_855 f8) kz_0_17 kz_0_18)⟩
  refine ⟨(fun _ h => (by cases h)), [], trivial, ?_, (fun _ h => (by cases h))⟩
  rw [List.append_nil]
  exact List.forall_mem_cons.mpr ⟨⟨show (20 : Nat) < 100 from by decide, nf0⟩, List.forall_mem_cons.mpr ⟨⟨show (20 : Nat) < 100 from by decide, nf1⟩, (fun _ h => (by cases h))⟩⟩
set_option maxHeartbeats 4000000 in
theorem vc_Gr_alter_at_kx_46_0 (x13 : Int) (x15 : Int) (k13 : 122 ≤ x13 ∧ x13 ≤ 122) (k15 : 3660 ≤ x15 ∧ x15 ≤ 3660) : x13 + x15 ≤ 3782 := by
  first
    | omega
  
set_option maxHeartbeats 4000000 in
theorem vc_Gr_alter_at_kx_46_1 (x14 : Int) (x15 : Int) (k14 : 0 ≤ x14 ∧ x14 ≤ 0) (k15 : 3660 ≤ x15 ∧ x15 ≤ 3660) : x14 + x15 ≤ 3782 := by
  first
    | omega
  
set_option maxHeartbeats 4000000 in
theorem vc_Gr_alter_at_kx_46_2 (x9 : Int) (x13 : Int) (x14 : Int) (x15 : Int) (a4_0 : Int → Int) (k9 : 30 ≤ x9 ∧ x9 ≤ 30) (k13 : 122 ≤ x13 ∧ x13 ≤ 122) (k14 : 0 ≤ x14 ∧ x14 ≤ 0) (k15 : 3660 ≤ x15 ∧ x15 ≤ 3660) (f6 : PNI (a4_0) (x9)) : MV1 (a4_0) (a4_0) (x13) (x14) (x15) := by
  first
    | exact ⟨by omega, by omega, by omega, fun r a b => (‹PNI _ _›) r a (by omega)⟩
  
def o_Gr_alter_at_kx_46 : or_T := (56, 16, [(9, (0, 30, 30, [])), (13, (0, 122, 122, [])), (14, (0, 0, 0, [])), (15, (0, 3660, 3660, []))], [(20, [4, 9], [61, 1, 762])], [], [], [(21, [13, 15], [3782]), (21, [14, 15], [3782]), (20, [4, 4, 13, 14, 15], [61, 2, 763])], [], [])
theorem oo_Gr_alter_at_kx_46 {kA : Nat → ClassId} : or_ok PRD kA GG o_Gr_alter_at_kx_46 := by
  refine or_mk fun A ta ws vs hD hth hl => ?_
  intro t9 k9 t13 k13 t14 k14 t15 k15 f6
  have nf0 : fc_1 PRD (21, [13, 15], [3782]) ws (vs) := ⟨nf_in hl rfl, sgq_1833 (vc_Gr_alter_at_kx_46_0 (v_iv (n_v vs 13)) (v_iv (n_v vs 15)) k13 k15)⟩
  have nf1 : fc_1 PRD (21, [14, 15], [3782]) ws (vs) := ⟨nf_in hl rfl, sgq_1833 (vc_Gr_alter_at_kx_46_1 (v_iv (n_v vs 14)) (v_iv (n_v vs 15)) k14 k15)⟩
  have nf2 : fc_1 PRD (20, [4, 4, 13, 14, 15], [61, 2, 763]) ws (vs) := ⟨nf_in hl rfl, sgq_1834 (vc_Gr_alter_at_kx_46_2 (v_iv (n_v vs 9)) (v_iv (n_v vs 13)) (v_iv (n_v vs 14)) (v_iv (n_v vs 15)) (w_ei ws (v_ad (n_v vs 4))) k9 k13 k14 k15 (shm_1832 f6))⟩
  refine ⟨(fun _ h => (by cases h)), [], trivial, ?_, (fun _ h => (by cases h))⟩
  rw [List.append_nil]
  exact List.forall_mem_cons.mpr ⟨⟨show (21 : Nat) < 100 from by decide, nf0⟩, List.forall_mem_cons.mpr ⟨⟨show (21 : Nat) < 100 from by decide, nf1⟩, List.forall_mem_cons.mpr ⟨⟨show (20 : Nat) < 100 from by decide, nf2⟩, (fun _ h => (by cases h))⟩⟩⟩
set_option maxHeartbeats 4000000 in
theorem vc_Gr_alter_at_kx_47_0 (x9 : Int) (x13 : Int) (x14 : Int) (x15 : Int) (nodes_0 : Int) (edges_0 : Int) (done_0 : Int) (near_0 : Int → Int) (tail_0 : Int → Int) (head_0 : Int → Int) (past_0 : Int → Int) (done_1 : Int) (near_1 : Int → Int) (tail_1 : Int → Int) (head_1 : Int → Int) (nodes_1 : Int) (edges_1 : Int) (past_1 : Int → Int) (k9 : 30 ≤ x9 ∧ x9 ≤ 30) (k13 : 122 ≤ x13 ∧ x13 ≤ 122) (k14 : 0 ≤ x14 ∧ x14 ≤ 0) (k15 : 3660 ≤ x15 ∧ x15 ≤ 3660) (f18 : MV2 (past_1) (past_1) (x13) (x14) (x15)) (fe_0_0_1 : nodes_0 = nodes_1) (fe_0_1_1 : edges_0 = edges_1) (fe_0_17_1 : done_0 = done_1) (hE_0_7_1 : ∀ j : Int, tail_0 j = tail_1 j) (hE_0_8_1 : ∀ j : Int, head_0 j = head_1 j) (hE_0_14_1 : ∀ j : Int, near_0 j = near_1 j) (hE_0_16_1 : ∀ j : Int, past_0 j = past_1 j) (kz_0_0 : 0 ≤ nodes_0 ∧ nodes_0 ≤ 24) (kz_0_1 : 0 ≤ edges_0 ∧ edges_0 ≤ 48) (kz_0_17 : 0 ≤ done_0 ∧ done_0 ≤ 30) : PRO (past_0) (x9) := by
  subst fe_0_0_1
  subst fe_0_1_1
  subst fe_0_17_1
  have e_hE_0_7_1 := funext hE_0_7_1; subst e_hE_0_7_1
  have e_hE_0_8_1 := funext hE_0_8_1; subst e_hE_0_8_1
  have e_hE_0_14_1 := funext hE_0_14_1; subst e_hE_0_14_1
  have e_hE_0_16_1 := funext hE_0_16_1; subst e_hE_0_16_1
  first
    | exact pro_pdq ‹PDQ _ _ _› (by omega) (by omega)
    | exact pri_pro ‹PNI _ _› (by omega)
    | (have q := (‹MV2 _ _ _ _ _›); exact fun r a b => q r a (by omega))
    | exact pro_zero (by omega) (fun j a b => by have q := hT10 j a (by omega); omega)
  
def o_Gr_alter_at_kx_47 : or_T := (82, 17, [(0, (2, 0, 0, [3])), (4, (2, 0, 0, [61])), (5, (0, 0, 24, [])), (7, (2, 0, 0, [52])), (8, (2, 0, 0, [53])), (9, (0, 30, 30, [])), (11, (0, 0, 47, [])), (12, (0, 30, 30, [])), (13, (0, 122, 122, [])), (14, (0, 0, 0, [])), (15, (0, 3660, 3660, [])), (16, (0, 0, 0, []))], [(9, [16, 0], [18]), (9, [5, 0], [0]), (9, [11, 0], [1]), (9, [7, 0], [7]), (9, [8, 0], [8]), (9, [4, 0], [16]), (9, [9, 0], [17]), (21, [13, 15], [3782]), (21, [14, 15], [3782]), (20, [0], [60, 2, 3, 670, 0, 1, 14, 7, 8]), (20, [0], [60, 2, 2, 596, 0, 1, 7, 8]), (20, [4, 4, 13, 14, 15], [61, 2, 764]), (101, [0, 16], [18]), (21, [13, 15], [3782]), (21, [14, 15], [3782]), (20, [0], [50, 2, 0, 17, 18, 0, 8, 4, 3, 2, 0, 17, 2, 0, 18, 0, 30]), (20, [0], [60, 2, 3, 670, 0, 1, 14, 7, 8]), (20, [0], [60, 2, 2, 596, 0, 1, 7, 8]), (20, [4, 4, 13, 14, 15], [61, 2, 764]), (102, [15], [2305843009213693952]), (21, [13, 15], [3782]), (21, [14, 15], [3782]), (7, [9, 12], [0])], [], [], [(20, [0, 9], [60, 0, 1, 737, 16])], [], [])
theorem oo_Gr_alter_at_kx_47 {kA : Nat → ClassId} : or_ok PRD kA GG o_Gr_alter_at_kx_47 := by
  refine or_mk fun A ta ws vs hD hth hl => ?_
  intro t0 r0 t4 r4 t5 k5 t7 r7 t8 r8 t9 k9 t11 k11 t12 k12 t13 k13 t14 k14 t15 k15 t16 k16 f0 f1 f2 f3 f4 f5 f6 f7 f8 f9 f10 f11 ta1 w1 le1 s1 f13 f14 f15 f16 f17 f18 ta2 w2 le2 s2 f20 f21 f22
  replace f5 := shm_176 f5
  have s1 : (∀ b j, w_el ws b j = w_el w1 b j) ∧ ∀ b j, w_fd ws b j = if b = v_ad (n_v vs 0) ∧ j = 18 then n_v vs 16 else w_fd w1 b j := s1.2
  replace f18 := shm_1835 f18
  have ar_0_7_1 : w_ar w1 (n_v vs 0) 7 = w_ar ws (n_v vs 0) 7 := by show v_ad (w_fd w1 _ _) = v_ad (w_fd ws _ _); rw [s1.2, if_neg (fun e => absurd e.2 (by decide))]
  have ar_0_8_1 : w_ar w1 (n_v vs 0) 8 = w_ar ws (n_v vs 0) 8 := by show v_ad (w_fd w1 _ _) = v_ad (w_fd ws _ _); rw [s1.2, if_neg (fun e => absurd e.2 (by decide))]
  have ar_0_14_1 : w_ar w1 (n_v vs 0) 14 = w_ar ws (n_v vs 0) 14 := by show v_ad (w_fd w1 _ _) = v_ad (w_fd ws _ _); rw [s1.2, if_neg (fun e => absurd e.2 (by decide))]
  have ad_4 : v_ad (n_v vs 4) = w_ar ws (n_v vs 0) 16 := congrArg v_ad f5
  simp only [ad_4, ar_0_7_1, ar_0_8_1, ar_0_14_1] at f18
  have fe_0_0_1 : w_fi ws (n_v vs 0) 0 = w_fi w1 (n_v vs 0) 0 := by show v_iv (w_fd _ _ _) = v_iv (w_fd _ _ _); rw [s1.2, if_neg (fun e => absurd e.2 (by decide))]
  have fe_0_1_1 : w_fi ws (n_v vs 0) 1 = w_fi w1 (n_v vs 0) 1 := by show v_iv (w_fd _ _ _) = v_iv (w_fd _ _ _); rw [s1.2, if_neg (fun e => absurd e.2 (by decide))]
  have fe_0_17_1 : w_fi ws (n_v vs 0) 17 = w_fi w1 (n_v vs 0) 17 := by show v_iv (w_fd _ _ _) = v_iv (w_fd _ _ _); rw [s1.2, if_neg (fun e => absurd e.2 (by decide))]
  have hE_0_7_1 : ∀ j : Int, w_ei ws (w_ar ws (n_v vs 0) 7) j = w_ei w1 (w_ar ws (n_v vs 0) 7) j := fun j => s1.1 _ _
  have hE_0_8_1 : ∀ j : Int, w_ei ws (w_ar ws (n_v vs 0) 8) j = w_ei w1 (w_ar ws (n_v vs 0) 8) j := fun j => s1.1 _ _
  have hE_0_14_1 : ∀ j : Int, w_ei ws (w_ar ws (n_v vs 0) 14) j = w_ei w1 (w_ar ws (n_v vs 0) 14) j := fun j => s1.1 _ _
  have hE_0_16_1 : ∀ j : Int, w_ei ws (w_ar ws (n_v vs 0) 16) j = w_ei w1 (w_ar ws (n_v vs 0) 16) j := fun j => s1.1 _ _
  have kz_0_0 := fdq_21 hD hth r0
  have kz_0_1 := fdq_30 hD hth r0
  have kz_0_17 := fdq_288 hD hth r0
  have nf0 : fc_1 PRD (20, [0, 9], [60, 0, 1, 737, 16]) ws (vs) := ⟨nf_in hl rfl, sgq_850 (vc_Gr_alter_at_kx_47_0 (v_iv (n_v vs 9)) (v_iv (n_v vs 13)) (v_iv (n_v vs 14)) (v_iv (n_v vs 15)) (w_fi ws (n_v vs 0) 0) (w_fi ws (n_v vs 0) 1) (w_fi ws (n_v vs 0) 17) (w_ei ws (w_ar ws (n_v vs 0) 14)) (w_ei ws (w_ar ws (n_v vs 0) 7)) (w_ei ws (w_ar ws (n_v vs 0) 8)) (w_ei ws (w_ar ws (n_v vs 0) 16)) (w_fi w1 (n_v vs 0) 17) (w_ei w1 (w_ar ws (n_v vs 0) 14)) (w_ei w1 (w_ar ws (n_v vs 0) 7)) (w_ei w1 (w_ar ws (n_v vs 0) 8)) (w_fi w1 (n_v vs 0) 0) (w_fi w1 (n_v vs 0) 1) (w_ei w1 (w_ar ws (n_v vs 0) 16)) k9 k13 k14 k15 f18 fe_0_0_1 fe_0_1_1 fe_0_17_1 hE_0_7_1 hE_0_8_1 hE_0_14_1 hE_0_16_1 kz_0_0 kz_0_1 kz_0_17)⟩
  refine ⟨(fun _ h => (by cases h)), [], trivial, ?_, (fun _ h => (by cases h))⟩
  rw [List.append_nil]
  exact List.forall_mem_cons.mpr ⟨⟨show (20 : Nat) < 100 from by decide, nf0⟩, (fun _ h => (by cases h))⟩
set_option maxHeartbeats 4000000 in
theorem vc_Gr_alter_at_kx_48_0 (x9 : Int) (x16 : Int) (undone_0 : Int) (done_0 : Int) (k9 : 30 ≤ x9 ∧ x9 ≤ 30) (k16 : 0 ≤ x16 ∧ x16 ≤ 0) (g0 : x16 = undone_0) (g5 : x9 = done_0) (kz_0_17 : 0 ≤ done_0 ∧ done_0 ≤ 30) (kz_0_18 : 0 ≤ undone_0 ∧ undone_0 ≤ 30) : (done_0 + undone_0) ≤ 30 := by
  first
    | omega
  
set_option maxHeartbeats 4000000 in
theorem vc_Gr_alter_at_kx_48_1 (x9 : Int) (x16 : Int) (undone_0 : Int) (done_0 : Int) (past_0 : Int → Int) (k9 : 30 ≤ x9 ∧ x9 ≤ 30) (k16 : 0 ≤ x16 ∧ x16 ≤ 0) (g0 : x16 = undone_0) (g5 : x9 = done_0) (f8 : PRI (past_0) (x9)) (kz_0_17 : 0 ≤ done_0 ∧ done_0 ≤ 30) (kz_0_18 : 0 ≤ undone_0 ∧ undone_0 ≤ 30) : PDQ (done_0) (undone_0) (past_0) := by
  first
    | assumption
    | exact pri_pdq ‹PRI _ _› (by omega) (by omega)
  
def o_Gr_alter_at_kx_48 : or_T := (87, 17, [(0, (2, 0, 0, [3])), (4, (2, 0, 0, [61])), (5, (0, 0, 24, [])), (7, (2, 0, 0, [52])), (8, (2, 0, 0, [53])), (9, (0, 30, 30, [])), (11, (0, 0, 47, [])), (12, (0, 30, 30, [])), (16, (0, 0, 0, []))], [(9, [16, 0], [18]), (9, [5, 0], [0]), (9, [11, 0], [1]), (9, [7, 0], [7]), (9, [8, 0], [8]), (9, [9, 0], [17]), (9, [4, 0], [16]), (20, [0], [60, 2, 3, 670, 0, 1, 14, 7, 8]), (20, [0, 9], [60, 0, 1, 738, 16]), (20, [0], [60, 2, 2, 596, 0, 1, 7, 8]), (102, [16], [2305843009213693952]), (101, [0, 16], [18]), (102, [15], [2305843009213693952]), (7, [9, 12], [0])], [], [], [(20, [0], [50, 2, 0, 17, 18, 0, 8, 4, 3, 2, 0, 17, 2, 0, 18, 0, 30]), (20, [0], [60, 2, 1, 739, 17, 18, 16])], [], [])
theorem oo_Gr_alter_at_kx_48 {kA : Nat → ClassId} : or_ok PRD kA GG o_Gr_alter_at_kx_48 := by
  refine or_mk fun A ta ws vs hD hth hl => ?_
  intro t0 r0 t4 r4 t5 k5 t7 r7 t8 r8 t9 k9 t11 k11 t12 k12 t16 k16 f0 f1 f2 f3 f4 f5 f6 f7 f8 f9 ta1 w1 le1 s1 ta2 w2 le2 s2 ta3 w3 le3 s3 f13
  replace f0 := shm_799 f0
  replace f5 := shm_795 f5
  have g0 : v_iv (n_v vs 16) = w_fi ws (n_v vs 0) 18 := congrArg v_iv f0
  have g5 : v_iv (n_v vs 9) = w_fi ws (n_v vs 0) 17 := congrArg v_iv f5
  have kz_0_17 := fdq_288 hD hth r0
  have kz_0_18 := fdq_289 hD hth r0
  have nf0 : fc_1 PRD (20, [0], [50, 2, 0, 17, 18, 0, 8, 4, 3, 2, 0, 17, 2, 0, 18, 0, 30]) ws (vs) := ⟨nf_in hl rfl, sgq_1511 (vc_Gr_alter_at_kx_48_0 (v_iv (n_v vs 9)) (v_iv (n_v vs 16)) (w_fi ws (n_v vs 0) 18) (w_fi ws (n_v vs 0) 17) k9 k16 g0 g5 kz_0_17 kz_0_18)⟩
  have nf1 : fc_1 PRD (20, [0], [60, 2, 1, 739, 17, 18, 16]) ws (vs) := ⟨nf_in hl rfl, sgq_1361 (vc_Gr_alter_at_kx_48_1 (v_iv (n_v vs 9)) (v_iv (n_v vs 16)) (w_fi ws (n_v vs 0) 18) (w_fi ws (n_v vs 0) 17) (w_ei ws (w_ar ws (n_v vs 0) 16)) k9 k16 g0 g5 (shm_855 f8) kz_0_17 kz_0_18)⟩
  refine ⟨(fun _ h => (by cases h)), [], trivial, ?_, (fun _ h => (by cases h))⟩
  rw [List.append_nil]
  exact List.forall_mem_cons.mpr ⟨⟨show (20 : Nat) < 100 from by decide, nf0⟩, List.forall_mem_cons.mpr ⟨⟨show (20 : Nat) < 100 from by decide, nf1⟩, (fun _ h => (by cases h))⟩⟩
set_option maxHeartbeats 4000000 in
theorem vc_Gr_alter_at_kx_49_0 (x9 : Int) (x13 : Int) (done_0 : Int) (past_0 : Int → Int) (near_0 : Int → Int) (tail_0 : Int → Int) (head_0 : Int → Int) (nodes_0 : Int) (edges_0 : Int) (past_1 : Int → Int) (near_1 : Int → Int) (tail_1 : Int → Int) (head_1 : Int → Int) (nodes_1 : Int) (edges_1 : Int) (past_2 : Int → Int) (undone_2 : Int) (near_2 : Int → Int) (tail_2 : Int → Int) (head_2 : Int → Int) (nodes_2 : Int) (edges_2 : Int) (done_1 : Int) (undone_1 : Int) (k9 : 0 ≤ x9 ∧ x9 ≤ 29) (k13 : 1 ≤ x13 ∧ x13 ≤ 30) (d0 : x9 + 1 ≤ x13 ∧ x13 ≤ x9 + 1) (f16 : PNI (past_2) (x9)) (fe_0_0_1 : nodes_0 = nodes_1) (fe_0_1_1 : edges_0 = edges_1) (fe_0_17_1 : done_0 = done_1) (fe_0_0_2 : nodes_1 = nodes_2) (fe_0_1_2 : edges_1 = edges_2) (fe_0_18_2 : undone_1 = undone_2) (hE_0_7_1 : ∀ j : Int, tail_0 j = tail_1 j) (hE_0_7_2 : ∀ j : Int, tail_1 j = tail_2 j) (hE_0_8_1 : ∀ j : Int, head_0 j = head_1 j) (hE_0_8_2 : ∀ j : Int, head_1 j = head_2 j) (hE_0_14_1 : ∀ j : Int, near_0 j = near_1 j) (hE_0_14_2 : ∀ j : Int, near_1 j = near_2 j) (hE_0_16_1 : ∀ j : Int, past_0 j = past_1 j) (hE_0_16_2 : ∀ j : Int, past_1 j = past_2 j) (kz_0_0 : 0 ≤ nodes_0 ∧ nodes_0 ≤ 24) (kz_0_1 : 0 ≤ edges_0 ∧ edges_0 ≤ 48) (kz_0_17 : 0 ≤ done_0 ∧ done_0 ≤ 30) : PRO (past_0) (x13) := by
  subst fe_0_0_1
  subst fe_0_1_1
  subst fe_0_17_1
  subst fe_0_0_2
  subst fe_0_1_2
  subst fe_0_18_2
  have e_hE_0_7_1 := funext hE_0_7_1; subst e_hE_0_7_1
  have e_hE_0_7_2 := funext hE_0_7_2; subst e_hE_0_7_2
  have e_hE_0_8_1 := funext hE_0_8_1; subst e_hE_0_8_1
  have e_hE_0_8_2 := funext hE_0_8_2; subst e_hE_0_8_2
  have e_hE_0_14_1 := funext hE_0_14_1; subst e_hE_0_14_1
  have e_hE_0_14_2 := funext hE_0_14_2; subst e_hE_0_14_2
  have e_hE_0_16_1 := funext hE_0_16_1; subst e_hE_0_16_1
  have e_hE_0_16_2 := funext hE_0_16_2; subst e_hE_0_16_2
  first
    | exact pro_pdq ‹PDQ _ _ _› (by omega) (by omega)
    | exact pri_pro ‹PNI _ _› (by omega)
    | (have q := (‹MV2 _ _ _ _ _›); exact fun r a b => q r a (by omega))
    | exact pro_zero (by omega) (fun j a b => by have q := hT10 j a (by omega); omega)
  
def o_Gr_alter_at_kx_49 : or_T := (82, 15, [(0, (2, 0, 0, [3])), (4, (2, 0, 0, [61])), (7, (2, 0, 0, [52])), (8, (2, 0, 0, [53])), (9, (0, 0, 29, [])), (11, (0, 30, 30, [])), (12, (0, 1, 1, [])), (13, (0, 1, 30, [])), (14, (0, 0, 0, []))], [(9, [14, 0], [18]), (9, [7, 0], [7]), (9, [8, 0], [8]), (9, [4, 0], [16]), (9, [13, 0], [17]), (20, [4, 9], [61, 1, 762]), (20, [0], [60, 2, 3, 670, 0, 1, 14, 7, 8]), (20, [0], [60, 2, 2, 596, 0, 1, 7, 8]), (101, [0, 14], [18]), (20, [4, 9], [61, 1, 762]), (20, [0], [60, 2, 3, 670, 0, 1, 14, 7, 8]), (20, [0], [60, 2, 2, 596, 0, 1, 7, 8]), (101, [0, 13], [17]), (1, [13, 9, 12], []), (9, [9, 0], [17]), (7, [9, 11], [1]), (20, [4, 9], [61, 1, 762]), (20, [0], [50, 2, 0, 17, 18, 0, 8, 4, 3, 2, 0, 17, 2, 0, 18, 0, 30]), (20, [0], [60, 2, 3, 670, 0, 1, 14, 7, 8]), (20, [0], [60, 2, 2, 596, 0, 1, 7, 8])], [], [], [(20, [0, 13], [60, 0, 1, 737, 16])], [], [(13, 9, 1, 1)])
theorem oo_Gr_alter_at_kx_49 {kA : Nat → ClassId} : or_ok PRD kA GG o_Gr_alter_at_kx_49 := by
  refine or_mk fun A ta ws vs hD hth hl => ?_
  intro t0 r0 t4 r4 t7 r7 t8 r8 t9 k9 t11 k11 t12 k12 t13 k13 t14 k14 d0 f0 f1 f2 f3 f4 f5 f6 f7 ta1 w1 le1 s1 f9 f10 f11 ta2 w2 le2 s2 f13 f14 f15 f16 f17 f18 f19
  replace f3 := shm_176 f3
  have s1 : (∀ b j, w_el ws b j = w_el w1 b j) ∧ ∀ b j, w_fd ws b j = if b = v_ad (n_v vs 0) ∧ j = 18 then n_v vs 14 else w_fd w1 b j := s1.2
  have s2 : (∀ b j, w_el w1 b j = w_el w2 b j) ∧ ∀ b j, w_fd w1 b j = if b = v_ad (n_v vs 0) ∧ j = 17 then n_v vs 13 else w_fd w2 b j := s2.2
  replace f16 := shm_1832 f16
  have ar_0_7_1 : w_ar w1 (n_v vs 0) 7 = w_ar ws (n_v vs 0) 7 := by show v_ad (w_fd w1 _ _) = v_ad (w_fd ws _ _); rw [s1.2, if_neg (fun e => absurd e.2 (by decide))]
  have ar_0_7_2 : w_ar w2 (n_v vs 0) 7 = w_ar ws (n_v vs 0) 7 := by rw [← ar_0_7_1]; show v_ad (w_fd w2 _ _) = v_ad (w_fd w1 _ _); rw [s2.2, if_neg (fun e => absurd e.2 (by decide))]
  have ar_0_8_1 : w_ar w1 (n_v vs 0) 8 = w_ar ws (n_v vs 0) 8 := by show v_ad (w_fd w1 _ _) = v_ad (w_fd ws _ _); rw [s1.2, if_neg (fun e => absurd e.2 (by decide))]
  have ar_0_8_2 : w_ar w2 (n_v vs 0) 8 = w_ar ws (n_v vs 0) 8 := by rw [← ar_0_8_1]; show v_ad (w_fd w2 _ _) = v_ad (w_fd w1 _ _); rw [s2.2, if_neg (fun e => absurd e.2 (by decide))]
  have ar_0_14_1 : w_ar w1 (n_v vs 0) 14 = w_ar ws (n_v vs 0) 14 := by show v_ad (w_fd w1 _ _) = v_ad (w_fd ws _ _); rw [s1.2, if_neg (fun e => absurd e.2 (by decide))]
  have ar_0_14_2 : w_ar w2 (n_v vs 0) 14 = w_ar ws (n_v vs 0) 14 := by rw [← ar_0_14_1]; show v_ad (w_fd w2 _ _) = v_ad (w_fd w1 _ _); rw [s2.2, if_neg (fun e => absurd e.2 (by decide))]
  have ad_4 : v_ad (n_v vs 4) = w_ar ws (n_v vs 0) 16 := congrArg v_ad f3
  simp only [ad_4, ar_0_7_2, ar_0_8_2, ar_0_14_2] at f16
  have fe_0_0_1 : w_fi ws (n_v vs 0) 0 = w_fi w1 (n_v vs 0) 0 := by show v_iv (w_fd _ _ _) = v_iv (w_fd _ _ _); rw [s1.2, if_neg (fun e => absurd e.2 (by decide))]
  have fe_0_1_1 : w_fi ws (n_v vs 0) 1 = w_fi w1 (n_v vs 0) 1 := by show v_iv (w_fd _ _ _) = v_iv (w_fd _ _ _); rw [s1.2, if_neg (fun e => absurd e.2 (by decide))]
  have fe_0_17_1 : w_fi ws (n_v vs 0) 17 = w_fi w1 (n_v vs 0) 17 := by show v_iv (w_fd _ _ _) = v_iv (w_fd _ _ _); rw [s1.2, if_neg (fun e => absurd e.2 (by decide))]
  have fe_0_0_2 : w_fi w1 (n_v vs 0) 0 = w_fi w2 (n_v vs 0) 0 := by show v_iv (w_fd _ _ _) = v_iv (w_fd _ _ _); rw [s2.2, if_neg (fun e => absurd e.2 (by decide))]
  have fe_0_1_2 : w_fi w1 (n_v vs 0) 1 = w_fi w2 (n_v vs 0) 1 := by show v_iv (w_fd _ _ _) = v_iv (w_fd _ _ _); rw [s2.2, if_neg (fun e => absurd e.2 (by decide))]
  have fe_0_18_2 : w_fi w1 (n_v vs 0) 18 = w_fi w2 (n_v vs 0) 18 := by show v_iv (w_fd _ _ _) = v_iv (w_fd _ _ _); rw [s2.2, if_neg (fun e => absurd e.2 (by decide))]
  have hE_0_7_1 : ∀ j : Int, w_ei ws (w_ar ws (n_v vs 0) 7) j = w_ei w1 (w_ar ws (n_v vs 0) 7) j := fun j => s1.1 _ _
  have hE_0_7_2 : ∀ j : Int, w_ei w1 (w_ar ws (n_v vs 0) 7) j = w_ei w2 (w_ar ws (n_v vs 0) 7) j := fun j => s2.1 _ _
  have hE_0_8_1 : ∀ j : Int, w_ei ws (w_ar ws (n_v vs 0) 8) j = w_ei w1 (w_ar ws (n_v vs 0) 8) j := fun j => s1.1 _ _
  have hE_0_8_2 : ∀ j : Int, w_ei w1 (w_ar ws (n_v vs 0) 8) j = w_ei w2 (w_ar ws (n_v vs 0) 8) j := fun j => s2.1 _ _
  have hE_0_14_1 : ∀ j : Int, w_ei ws (w_ar ws (n_v vs 0) 14) j = w_ei w1 (w_ar ws (n_v vs 0) 14) j := fun j => s1.1 _ _
  have hE_0_14_2 : ∀ j : Int, w_ei w1 (w_ar ws (n_v vs 0) 14) j = w_ei w2 (w_ar ws (n_v vs 0) 14) j := fun j => s2.1 _ _
  have hE_0_16_1 : ∀ j : Int, w_ei ws (w_ar ws (n_v vs 0) 16) j = w_ei w1 (w_ar ws (n_v vs 0) 16) j := fun j => s1.1 _ _
  have hE_0_16_2 : ∀ j : Int, w_ei w1 (w_ar ws (n_v vs 0) 16) j = w_ei w2 (w_ar ws (n_v vs 0) 16) j := fun j => s2.1 _ _
  have kz_0_0 := fdq_21 hD hth r0
  have kz_0_1 := fdq_30 hD hth r0
  have kz_0_17 := fdq_288 hD hth r0
  have nf0 : fc_1 PRD (20, [0, 13], [60, 0, 1, 737, 16]) ws (vs) := ⟨nf_in hl rfl, sgq_850 (vc_Gr_alter_at_kx_49_0 (v_iv (n_v vs 9)) (v_iv (n_v vs 13)) (w_fi ws (n_v vs 0) 17) (w_ei ws (w_ar ws (n_v vs 0) 16)) (w_ei ws (w_ar ws (n_v vs 0) 14)) (w_ei ws (w_ar ws (n_v vs 0) 7)) (w_ei ws (w_ar ws (n_v vs 0) 8)) (w_fi ws (n_v vs 0) 0) (w_fi ws (n_v vs 0) 1) (w_ei w1 (w_ar ws (n_v vs 0) 16)) (w_ei w1 (w_ar ws (n_v vs 0) 14)) (w_ei w1 (w_ar ws (n_v vs 0) 7)) (w_ei w1 (w_ar ws (n_v vs 0) 8)) (w_fi w1 (n_v vs 0) 0) (w_fi w1 (n_v vs 0) 1) (w_ei w2 (w_ar ws (n_v vs 0) 16)) (w_fi w2 (n_v vs 0) 18) (w_ei w2 (w_ar ws (n_v vs 0) 14)) (w_ei w2 (w_ar ws (n_v vs 0) 7)) (w_ei w2 (w_ar ws (n_v vs 0) 8)) (w_fi w2 (n_v vs 0) 0) (w_fi w2 (n_v vs 0) 1) (w_fi w1 (n_v vs 0) 17) (w_fi w1 (n_v vs 0) 18) k9 k13 d0 f16 fe_0_0_1 fe_0_1_1 fe_0_17_1 fe_0_0_2 fe_0_1_2 fe_0_18_2 hE_0_7_1 hE_0_7_2 hE_0_8_1 hE_0_8_2 hE_0_14_1 hE_0_14_2 hE_0_16_1 hE_0_16_2 kz_0_0 kz_0_1 kz_0_17)⟩
  refine ⟨(fun _ h => (by cases h)), [], trivial, ?_, (fun _ h => (by cases h))⟩
  rw [List.append_nil]
  exact List.forall_mem_cons.mpr ⟨⟨show (20 : Nat) < 100 from by decide, nf0⟩, (fun _ h => (by cases h))⟩
set_option maxHeartbeats 4000000 in
theorem vc_Gr_alter_at_kx_50_0 (x9 : Int) (x13 : Int) (x14 : Int) (undone_0 : Int) (done_0 : Int) (k9 : 0 ≤ x9 ∧ x9 ≤ 29) (k13 : 1 ≤ x13 ∧ x13 ≤ 30) (k14 : 0 ≤ x14 ∧ x14 ≤ 0) (d0 : x9 + 1 ≤ x13 ∧ x13 ≤ x9 + 1) (g0 : x14 = undone_0) (g1 : x13 = done_0) (kz_0_17 : 0 ≤ done_0 ∧ done_0 ≤ 30) (kz_0_18 : 0 ≤ undone_0 ∧ undone_0 ≤ 30) : (done_0 + undone_0) ≤ 30 := by
  first
    | omega
  
set_option maxHeartbeats 4000000 in
theorem vc_Gr_alter_at_kx_50_1 (x13 : Int) (x14 : Int) (undone_0 : Int) (done_0 : Int) (past_0 : Int → Int) (k13 : 1 ≤ x13 ∧ x13 ≤ 30) (k14 : 0 ≤ x14 ∧ x14 ≤ 0) (g0 : x14 = undone_0) (g1 : x13 = done_0) (f6 : PRI (past_0) (x13)) (kz_0_17 : 0 ≤ done_0 ∧ done_0 ≤ 30) (kz_0_18 : 0 ≤ undone_0 ∧ undone_0 ≤ 30) : PDQ (done_0) (undone_0) (past_0) := by
  first
    | assumption
    | exact pri_pdq ‹PRI _ _› (by omega) (by omega)
  
def o_Gr_alter_at_kx_50 : or_T := (87, 15, [(0, (2, 0, 0, [3])), (4, (2, 0, 0, [61])), (7, (2, 0, 0, [52])), (8, (2, 0, 0, [53])), (9, (0, 0, 29, [])), (11, (0, 30, 30, [])), (12, (0, 1, 1, [])), (13, (0, 1, 30, [])), (14, (0, 0, 0, []))], [(9, [14, 0], [18]), (9, [13, 0], [17]), (9, [7, 0], [7]), (9, [8, 0], [8]), (9, [4, 0], [16]), (20, [0], [60, 2, 3, 670, 0, 1, 14, 7, 8]), (20, [0, 13], [60, 0, 1, 738, 16]), (20, [0], [60, 2, 2, 596, 0, 1, 7, 8]), (102, [14], [2305843009213693952]), (101, [0, 14], [18]), (101, [0, 13], [17]), (1, [13, 9, 12], []), (7, [9, 11], [1])], [], [], [(20, [0], [50, 2, 0, 17, 18, 0, 8, 4, 3, 2, 0, 17, 2, 0, 18, 0, 30]), (20, [0], [60, 2, 1, 739, 17, 18, 16])], [], [(13, 9, 1, 1)])
theorem oo_Gr_alter_at_kx_50 {kA : Nat → ClassId} : or_ok PRD kA GG o_Gr_alter_at_kx_50 := by
  refine or_mk fun A ta ws vs hD hth hl => ?_
  intro t0 r0 t4 r4 t7 r7 t8 r8 t9 k9 t11 k11 t12 k12 t13 k13 t14 k14 d0 f0 f1 f2 f3 f4 f5 f6 f7 ta1 w1 le1 s1 ta2 w2 le2 s2 ta3 w3 le3 s3 f11 f12
  replace f0 := shm_799 f0
  replace f1 := shm_795 f1
  have g0 : v_iv (n_v vs 14) = w_fi ws (n_v vs 0) 18 := congrArg v_iv f0
  have g1 : v_iv (n_v vs 13) = w_fi ws (n_v vs 0) 17 := congrArg v_iv f1
  have kz_0_17 := fdq_288 hD hth r0
  have kz_0_18 := fdq_289 hD hth r0
  have nf0 : fc_1 PRD (20, [0], [50, 2, 0, 17, 18, 0, 8, 4, 3, 2, 0, 17, 2, 0, 18, 0, 30]) ws (vs) := ⟨nf_in hl rfl, sgq_1511 (vc_Gr_alter_at_kx_50_0 (v_iv (n_v vs 9)) (v_iv (n_v vs 13)) (v_iv (n_v vs 14)) (w_fi ws (n_v vs 0) 18) (w_fi ws (n_v vs 0) 17) k9 k13 k14 d0 g0 g1 kz_0_17 kz_0_18)⟩
  have nf1 : fc_1 PRD (20, [0], [60, 2, 1, 739, 17, 18, 16]) ws (vs) := ⟨nf_in hl rfl, sgq_1361 (vc_Gr_alter_at_kx_50_1 (v_iv (n_v vs 13)) (v_iv (n_v vs 14)) (w_fi ws (n_v vs 0) 18) (w_fi ws (n_v vs 0) 17) (w_ei ws (w_ar ws (n_v vs 0) 16)) k13 k14 g0 g1 (shm_855 f6) kz_0_17 kz_0_18)⟩
  refine ⟨(fun _ h => (by cases h)), [], trivial, ?_, (fun _ h => (by cases h))⟩
  rw [List.append_nil]
  exact List.forall_mem_cons.mpr ⟨⟨show (20 : Nat) < 100 from by decide, nf0⟩, List.forall_mem_cons.mpr ⟨⟨show (20 : Nat) < 100 from by decide, nf1⟩, (fun _ h => (by cases h))⟩⟩
set_option maxHeartbeats 4000000 in
theorem vc_Gr_alter_at_kx_51_0 (x12 : Int) (x14 : Int) (k12 : 122 ≤ x12 ∧ x12 ≤ 122) (k14 : 3660 ≤ x14 ∧ x14 ≤ 3660) : x12 + x14 ≤ 3782 := by
  first
    | omega
  
set_option maxHeartbeats 4000000 in
theorem vc_Gr_alter_at_kx_51_1 (x13 : Int) (x14 : Int) (k13 : 0 ≤ x13 ∧ x13 ≤ 0) (k14 : 3660 ≤ x14 ∧ x14 ≤ 3660) : x13 + x14 ≤ 3782 := by
  first
    | omega
  
set_option maxHeartbeats 4000000 in
theorem vc_Gr_alter_at_kx_51_2 (x9 : Int) (x12 : Int) (x13 : Int) (x14 : Int) (a4_0 : Int → Int) (k9 : 30 ≤ x9 ∧ x9 ≤ 30) (k12 : 122 ≤ x12 ∧ x12 ≤ 122) (k13 : 0 ≤ x13 ∧ x13 ≤ 0) (k14 : 3660 ≤ x14 ∧ x14 ≤ 3660) (f4 : PNI (a4_0) (x9)) : MV1 (a4_0) (a4_0) (x12) (x13) (x14) := by
  first
    | exact ⟨by omega, by omega, by omega, fun r a b => (‹PNI _ _›) r a (by omega)⟩
  
def o_Gr_alter_at_kx_51 : or_T := (56, 15, [(0, (2, 0, 0, [3])), (4, (2, 0, 0, [61])), (7, (2, 0, 0, [52])), (8, (2, 0, 0, [53])), (9, (0, 30, 30, [])), (11, (0, 30, 30, [])), (12, (0, 122, 122, [])), (13, (0, 0, 0, [])), (14, (0, 3660, 3660, []))], [(9, [7, 0], [7]), (9, [8, 0], [8]), (7, [9, 11], [0]), (9, [9, 0], [17]), (20, [4, 9], [61, 1, 762]), (20, [0], [50, 2, 0, 17, 18, 0, 8, 4, 3, 2, 0, 17, 2, 0, 18, 0, 30]), (20, [0], [60, 2, 3, 670, 0, 1, 14, 7, 8]), (20, [0], [60, 2, 2, 596, 0, 1, 7, 8])], [], [], [(21, [12, 14], [3782]), (21, [13, 14], [3782]), (20, [4, 4, 12, 13, 14], [61, 2, 763])], [], [])
theorem oo_Gr_alter_at_kx_51 {kA : Nat → ClassId} : or_ok PRD kA GG o_Gr_alter_at_kx_51 := by
  refine or_mk fun A ta ws vs hD hth hl => ?_
  intro t0 r0 t4 r4 t7 r7 t8 r8 t9 k9 t11 k11 t12 k12 t13 k13 t14 k14 f0 f1 f2 f3 f4 f5 f6 f7
  have nf0 : fc_1 PRD (21, [12, 14], [3782]) ws (vs) := ⟨nf_in hl rfl, sgq_1833 (vc_Gr_alter_at_kx_51_0 (v_iv (n_v vs 12)) (v_iv (n_v vs 14)) k12 k14)⟩
  have nf1 : fc_1 PRD (21, [13, 14], [3782]) ws (vs) := ⟨nf_in hl rfl, sgq_1833 (vc_Gr_alter_at_kx_51_1 (v_iv (n_v vs 13)) (v_iv (n_v vs 14)) k13 k14)⟩
  have nf2 : fc_1 PRD (20, [4, 4, 12, 13, 14], [61, 2, 763]) ws (vs) := ⟨nf_in hl rfl, sgq_1834 (vc_Gr_alter_at_kx_51_2 (v_iv (n_v vs 9)) (v_iv (n_v vs 12)) (v_iv (n_v vs 13)) (v_iv (n_v vs 14)) (w_ei ws (v_ad (n_v vs 4))) k9 k12 k13 k14 (shm_1832 f4))⟩
  refine ⟨(fun _ h => (by cases h)), [], trivial, ?_, (fun _ h => (by cases h))⟩
  rw [List.append_nil]
  exact List.forall_mem_cons.mpr ⟨⟨show (21 : Nat) < 100 from by decide, nf0⟩, List.forall_mem_cons.mpr ⟨⟨show (21 : Nat) < 100 from by decide, nf1⟩, List.forall_mem_cons.mpr ⟨⟨show (20 : Nat) < 100 from by decide, nf2⟩, (fun _ h => (by cases h))⟩⟩⟩
set_option maxHeartbeats 4000000 in
theorem vc_Gr_alter_at_kx_52_0 (x9 : Int) (x12 : Int) (x13 : Int) (x14 : Int) (done_0 : Int) (near_0 : Int → Int) (tail_0 : Int → Int) (head_0 : Int → Int) (nodes_0 : Int) (edges_0 : Int) (past_0 : Int → Int) (done_1 : Int) (near_1 : Int → Int) (tail_1 : Int → Int) (head_1 : Int → Int) (nodes_1 : Int) (edges_1 : Int) (past_1 : Int → Int) (k9 : 30 ≤ x9 ∧ x9 ≤ 30) (k12 : 122 ≤ x12 ∧ x12 ≤ 122) (k13 : 0 ≤ x13 ∧ x13 ≤ 0) (k14 : 3660 ≤ x14 ∧ x14 ≤ 3660) (f16 : MV2 (past_1) (past_1) (x12) (x13) (x14)) (fe_0_0_1 : nodes_0 = nodes_1) (fe_0_1_1 : edges_0 = edges_1) (fe_0_17_1 : done_0 = done_1) (hE_0_7_1 : ∀ j : Int, tail_0 j = tail_1 j) (hE_0_8_1 : ∀ j : Int, head_0 j = head_1 j) (hE_0_14_1 : ∀ j : Int, near_0 j = near_1 j) (hE_0_16_1 : ∀ j : Int, past_0 j = past_1 j) (kz_0_0 : 0 ≤ nodes_0 ∧ nodes_0 ≤ 24) (kz_0_1 : 0 ≤ edges_0 ∧ edges_0 ≤ 48) (kz_0_17 : 0 ≤ done_0 ∧ done_0 ≤ 30) : PRO (past_0) (x9) := by
  subst fe_0_0_1
  subst fe_0_1_1
  subst fe_0_17_1
  have e_hE_0_7_1 := funext hE_0_7_1; subst e_hE_0_7_1
  have e_hE_0_8_1 := funext hE_0_8_1; subst e_hE_0_8_1
  have e_hE_0_14_1 := funext hE_0_14_1; subst e_hE_0_14_1
  have e_hE_0_16_1 := funext hE_0_16_1; subst e_hE_0_16_1
  first
    | exact pro_pdq ‹PDQ _ _ _› (by omega) (by omega)
    | exact pri_pro ‹PNI _ _› (by omega)
    | (have q := (‹MV2 _ _ _ _ _›); exact fun r a b => q r a (by omega))
    | exact pro_zero (by omega) (fun j a b => by have q := hT10 j a (by omega); omega)
  
def o_Gr_alter_at_kx_52 : or_T := (82, 16, [(0, (2, 0, 0, [3])), (4, (2, 0, 0, [61])), (7, (2, 0, 0, [52])), (8, (2, 0, 0, [53])), (9, (0, 30, 30, [])), (11, (0, 30, 30, [])), (12, (0, 122, 122, [])), (13, (0, 0, 0, [])), (14, (0, 3660, 3660, [])), (15, (0, 0, 0, []))], [(9, [15, 0], [18]), (9, [7, 0], [7]), (9, [8, 0], [8]), (9, [4, 0], [16]), (9, [9, 0], [17]), (21, [12, 14], [3782]), (21, [13, 14], [3782]), (20, [0], [60, 2, 3, 670, 0, 1, 14, 7, 8]), (20, [0], [60, 2, 2, 596, 0, 1, 7, 8]), (20, [4, 4, 12, 13, 14], [61, 2, 764]), (101, [0, 15], [18]), (21, [12, 14], [3782]), (21, [13, 14], [3782]), (20, [0], [50, 2, 0, 17, 18, 0, 8, 4, 3, 2, 0, 17, 2, 0, 18, 0, 30]), (20, [0], [60, 2, 3, 670, 0, 1, 14, 7, 8]), (20, [0], [60, 2, 2, 596, 0, 1, 7, 8]), (20, [4, 4, 12, 13, 14], [61, 2, 764]), (102, [14], [2305843009213693952]), (21, [12, 14], [3782]), (21, [13, 14], [3782]), (7, [9, 11], [0])], [], [], [(20, [0, 9], [60, 0, 1, 737, 16])], [], [])
theorem oo_Gr_alter_at_kx_52 {kA : Nat → ClassId} : or_ok PRD kA GG o_Gr_alter_at_kx_52 := by
  refine or_mk fun A ta ws vs hD hth hl => ?_
  intro t0 r0 t4 r4 t7 r7 t8 r8 t9 k9 t11 k11 t12 k12 t13 k13 t14 k14 t15 k15 f0 f1 f2 f3 f4 f5 f6 f7 f8 f9 ta1 w1 le1 s1 f11 f12 f13 f14 f15 f16 ta2 w2 le2 s2 f18 f19 f20
  replace f3 := shm_176 f3
  have s1 : (∀ b j, w_el ws b j = w_el w1 b j) ∧ ∀ b j, w_fd ws b j = if b = v_ad (n_v vs 0) ∧ j = 18 then n_v vs 15 else w_fd w1 b j := s1.2
  replace f16 := shm_1835 f16
  have ar_0_7_1 : w_ar w1 (n_v vs 0) 7 = w_ar ws (n_v vs 0) 7 := by show v_ad (w_fd w1 _ _) = v_ad (w_fd ws _ _); rw [s1.2, if_neg (fun e => absurd e.2 (by decide))]
  have ar_0_8_1 : w_ar w1 (n_v vs 0) 8 = w_ar ws (n_v vs 0) 8 := by show v_ad (w_fd w1 _ _) = v_ad (w_fd ws _ _); rw [s1.2, if_neg (fun e => absurd e.2 (by decide))]
  have ar_0_14_1 : w_ar w1 (n_v vs 0) 14 = w_ar ws (n_v vs 0) 14 := by show v_ad (w_fd w1 _ _) = v_ad (w_fd ws _ _); rw [s1.2, if_neg (fun e => absurd e.2 (by decide))]
  have ad_4 : v_ad (n_v vs 4) = w_ar ws (n_v vs 0) 16 := congrArg v_ad f3
  simp only [ad_4, ar_0_7_1, ar_0_8_1, ar_0_14_1] at f16
  have fe_0_0_1 : w_fi ws (n_v vs 0) 0 = w_fi w1 (n_v vs 0) 0 := by show v_iv (w_fd _ _ _) = v_iv (w_fd _ _ _); rw [s1.2, if_neg (fun e => absurd e.2 (by decide))]
  have fe_0_1_1 : w_fi ws (n_v vs 0) 1 = w_fi w1 (n_v vs 0) 1 := by show v_iv (w_fd _ _ _) = v_iv (w_fd _ _ _); rw [s1.2, if_neg (fun e => absurd e.2 (by decide))]
  have fe_0_17_1 : w_fi ws (n_v vs 0) 17 = w_fi w1 (n_v vs 0) 17 := by show v_iv (w_fd _ _ _) = v_iv (w_fd _ _ _); rw [s1.2, if_neg (fun e => absurd e.2 (by decide))]
  have hE_0_7_1 : ∀ j : Int, w_ei ws (w_ar ws (n_v vs 0) 7) j = w_ei w1 (w_ar ws (n_v vs 0) 7) j := fun j => s1.1 _ _
  have hE_0_8_1 : ∀ j : Int, w_ei ws (w_ar ws (n_v vs 0) 8) j = w_ei w1 (w_ar ws (n_v vs 0) 8) j := fun j => s1.1 _ _
  have hE_0_14_1 : ∀ j : Int, w_ei ws (w_ar ws (n_v vs 0) 14) j = w_ei w1 (w_ar ws (n_v vs 0) 14) j := fun j => s1.1 _ _
  have hE_0_16_1 : ∀ j : Int, w_ei ws (w_ar ws (n_v vs 0) 16) j = w_ei w1 (w_ar ws (n_v vs 0) 16) j := fun j => s1.1 _ _
  have kz_0_0 := fdq_21 hD hth r0
  have kz_0_1 := fdq_30 hD hth r0
  have kz_0_17 := fdq_288 hD hth r0
  have nf0 : fc_1 PRD (20, [0, 9], [60, 0, 1, 737, 16]) ws (vs) := ⟨nf_in hl rfl, sgq_850 (vc_Gr_alter_at_kx_52_0 (v_iv (n_v vs 9)) (v_iv (n_v vs 12)) (v_iv (n_v vs 13)) (v_iv (n_v vs 14)) (w_fi ws (n_v vs 0) 17) (w_ei ws (w_ar ws (n_v vs 0) 14)) (w_ei ws (w_ar ws (n_v vs 0) 7)) (w_ei ws (w_ar ws (n_v vs 0) 8)) (w_fi ws (n_v vs 0) 0) (w_fi ws (n_v vs 0) 1) (w_ei ws (w_ar ws (n_v vs 0) 16)) (w_fi w1 (n_v vs 0) 17) (w_ei w1 (w_ar ws (n_v vs 0) 14)) (w_ei w1 (w_ar ws (n_v vs 0) 7)) (w_ei w1 (w_ar ws (n_v vs 0) 8)) (w_fi w1 (n_v vs 0) 0) (w_fi w1 (n_v vs 0) 1) (w_ei w1 (w_ar ws (n_v vs 0) 16)) k9 k12 k13 k14 f16 fe_0_0_1 fe_0_1_1 fe_0_17_1 hE_0_7_1 hE_0_8_1 hE_0_14_1 hE_0_16_1 kz_0_0 kz_0_1 kz_0_17)⟩
  refine ⟨(fun _ h => (by cases h)), [], trivial, ?_, (fun _ h => (by cases h))⟩
  rw [List.append_nil]
  exact List.forall_mem_cons.mpr ⟨⟨show (20 : Nat) < 100 from by decide, nf0⟩, (fun _ h => (by cases h))⟩
set_option maxHeartbeats 4000000 in
theorem vc_Gr_alter_at_kx_53_0 (x9 : Int) (x15 : Int) (undone_0 : Int) (done_0 : Int) (k9 : 30 ≤ x9 ∧ x9 ≤ 30) (k15 : 0 ≤ x15 ∧ x15 ≤ 0) (g0 : x15 = undone_0) (g3 : x9 = done_0) (kz_0_17 : 0 ≤ done_0 ∧ done_0 ≤ 30) (kz_0_18 : 0 ≤ undone_0 ∧ undone_0 ≤ 30) : (done_0 + undone_0) ≤ 30 := by
  first
    | omega
  
set_option maxHeartbeats 4000000 in
theorem vc_Gr_alter_at_kx_53_1 (x9 : Int) (x15 : Int) (undone_0 : Int) (done_0 : Int) (past_0 : Int → Int) (k9 : 30 ≤ x9 ∧ x9 ≤ 30) (k15 : 0 ≤ x15 ∧ x15 ≤ 0) (g0 : x15 = undone_0) (g3 : x9 = done_0) (f6 : PRI (past_0) (x9)) (kz_0_17 : 0 ≤ done_0 ∧ done_0 ≤ 30) (kz_0_18 : 0 ≤ undone_0 ∧ undone_0 ≤ 30) : PDQ (done_0) (undone_0) (past_0) := by
  first
    | assumption
    | exact pri_pdq ‹PRI _ _› (by omega) (by omega)
  
def o_Gr_alter_at_kx_53 : or_T := (87, 16, [(0, (2, 0, 0, [3])), (4, (2, 0, 0, [61])), (7, (2, 0, 0, [52])), (8, (2, 0, 0, [53])), (9, (0, 30, 30, [])), (11, (0, 30, 30, [])), (15, (0, 0, 0, []))], [(9, [15, 0], [18]), (9, [7, 0], [7]), (9, [8, 0], [8]), (9, [9, 0], [17]), (9, [4, 0], [16]), (20, [0], [60, 2, 3, 670, 0, 1, 14, 7, 8]), (20, [0, 9], [60, 0, 1, 738, 16]), (20, [0], [60, 2, 2, 596, 0, 1, 7, 8]), (102, [15], [2305843009213693952]), (101, [0, 15], [18]), (102, [14], [2305843009213693952]), (7, [9, 11], [0])], [], [], [(20, [0], [50, 2, 0, 17, 18, 0, 8, 4, 3, 2, 0, 17, 2, 0, 18, 0, 30]), (20, [0], [60, 2, 1, 739, 17, 18, 16])], [], [])
theorem oo_Gr_alter_at_kx_53 {kA : Nat → ClassId} : or_ok PRD kA GG o_Gr_alter_at_kx_53 := by
  refine or_mk fun A ta ws vs hD hth hl => ?_
  intro t0 r0 t4 r4 t7 r7 t8 r8 t9 k9 t11 k11 t15 k15 f0 f1 f2 f3 f4 f5 f6 f7 ta1 w1 le1 s1 ta2 w2 le2 s2 ta3 w3 le3 s3 f11
  replace f0 := shm_799 f0
  replace f3 := shm_795 f3
  have g0 : v_iv (n_v vs 15) = w_fi ws (n_v vs 0) 18 := congrArg v_iv f0
  have g3 : v_iv (n_v vs 9) = w_fi ws (n_v vs 0) 17 := congrArg v_iv f3
  have kz_0_17 := fdq_288 hD hth r0
  have kz_0_18 := fdq_289 hD hth r0
  have nf0 : fc_1 PRD (20, [0], [50, 2, 0, 17, 18, 0, 8, 4, 3, 2, 0, 17, 2, 0, 18, 0, 30]) ws (vs) := ⟨nf_in hl rfl, sgq_1511 (vc_Gr_alter_at_kx_53_0 (v_iv (n_v vs 9)) (v_iv (n_v vs 15)) (w_fi ws (n_v vs 0) 18) (w_fi ws (n_v vs 0) 17) k9 k15 g0 g3 kz_0_17 kz_0_18)⟩
  have nf1 : fc_1 PRD (20, [0], [60, 2, 1, 739, 17, 18, 16]) ws (vs) := ⟨nf_in hl rfl, sgq_1361 (vc_Gr_alter_at_kx_53_1 (v_iv (n_v vs 9)) (v_iv (n_v vs 15)) (w_fi ws (n_v vs 0) 18) (w_fi ws (n_v vs 0) 17) (w_ei ws (w_ar ws (n_v vs 0) 16)) k9 k15 g0 g3 (shm_855 f6) kz_0_17 kz_0_18)⟩
  refine ⟨(fun _ h => (by cases h)), [], trivial, ?_, (fun _ h => (by cases h))⟩
  rw [List.append_nil]
  exact List.forall_mem_cons.mpr ⟨⟨show (20 : Nat) < 100 from by decide, nf0⟩, List.forall_mem_cons.mpr ⟨⟨show (20 : Nat) < 100 from by decide, nf1⟩, (fun _ h => (by cases h))⟩⟩
def n_Gr_alter_at_kx_an : List an_T := []
def t_Gr_alter_at_kx_ct : ct_L := [(1, 126, e_Gr_pack), (88, 129, e_Gr_perform_at_kx), (171, 77, e_acp_87)]
end
section

set_option maxRecDepth 100000 in
theorem c_Gr_alter_at_kx {l : Launch} {D : va_G} {kA : Nat → ClassId} (h_Gr_pack : ct_ok PRD l D kA GG y_Gr_pack z_Gr_pack e_Gr_pack) (h_Gr_perform_at_kx : ct_ok PRD l D kA GG y_Gr_perform_at_kx z_Gr_perform_at_kx e_Gr_perform_at_kx) : ct_ok PRD l D kA GG y_Gr_alter_at_kx z_Gr_alter_at_kx e_Gr_alter_at_kx := chk_all_ok (FT := [(62, 3, 16), (65, 3, 17)]) (PT := [(62, 3, 16, .array .int), (65, 3, 17, .int), (68, 3, 18, .int)]) (CT := t_Gr_alter_at_kx_ct) (KT := []) (NT := [(11, 61, .int)]) (AN := n_Gr_alter_at_kx_an) (OT := [o_Gr_alter_at_kx_0, o_Gr_alter_at_kx_1, o_Gr_alter_at_kx_2, o_Gr_alter_at_kx_3, o_Gr_alter_at_kx_4, o_Gr_alter_at_kx_5, o_Gr_alter_at_kx_6, o_Gr_alter_at_kx_7, o_Gr_alter_at_kx_8, o_Gr_alter_at_kx_9, o_Gr_alter_at_kx_10, o_Gr_alter_at_kx_11, o_Gr_alter_at_kx_12, o_Gr_alter_at_kx_13, o_Gr_alter_at_kx_14, o_Gr_alter_at_kx_15, o_Gr_alter_at_kx_16, o_Gr_alter_at_kx_17, o_Gr_alter_at_kx_18, o_Gr_alter_at_kx_19, o_Gr_alter_at_kx_20, o_Gr_alter_at_kx_21, o_Gr_alter_at_kx_22, o_Gr_alter_at_kx_23, o_Gr_alter_at_kx_24, o_Gr_alter_at_kx_25, o_Gr_alter_at_kx_26, o_Gr_alter_at_kx_27, o_Gr_alter_at_kx_28, o_Gr_alter_at_kx_29, o_Gr_alter_at_kx_30, o_Gr_alter_at_kx_31, o_Gr_alter_at_kx_32, o_Gr_alter_at_kx_33, o_Gr_alter_at_kx_34, o_Gr_alter_at_kx_35, o_Gr_alter_at_kx_36, o_Gr_alter_at_kx_37, o_Gr_alter_at_kx_38, o_Gr_alter_at_kx_39, o_Gr_alter_at_kx_40, o_Gr_alter_at_kx_41, o_Gr_alter_at_kx_42, o_Gr_alter_at_kx_43, o_Gr_alter_at_kx_44, o_Gr_alter_at_kx_45, o_Gr_alter_at_kx_46, o_Gr_alter_at_kx_47, o_Gr_alter_at_kx_48, o_Gr_alter_at_kx_49, o_Gr_alter_at_kx_50, o_Gr_alter_at_kx_51, o_Gr_alter_at_kx_52, o_Gr_alter_at_kx_53]) 0 2532 (List.forall_mem_cons.mpr ⟨oo_Gr_alter_at_kx_0, List.forall_mem_cons.mpr ⟨oo_Gr_alter_at_kx_1, List.forall_mem_cons.mpr ⟨oo_Gr_alter_at_kx_2, List.forall_mem_cons.mpr ⟨oo_Gr_alter_at_kx_3, List.forall_mem_cons.mpr ⟨oo_Gr_alter_at_kx_4, List.forall_mem_cons.mpr ⟨oo_Gr_alter_at_kx_5, List.forall_mem_cons.mpr ⟨oo_Gr_alter_at_kx_6, List.forall_mem_cons.mpr ⟨oo_Gr_alter_at_kx_7, List.forall_mem_cons.mpr ⟨oo_Gr_alter_at_kx_8, List.forall_mem_cons.mpr ⟨oo_Gr_alter_at_kx_9, List.forall_mem_cons.mpr ⟨oo_Gr_alter_at_kx_10, List.forall_mem_cons.mpr ⟨oo_Gr_alter_at_kx_11, List.forall_mem_cons.mpr ⟨oo_Gr_alter_at_kx_12, List.forall_mem_cons.mpr ⟨oo_Gr_alter_at_kx_13, List.forall_mem_cons.mpr ⟨oo_Gr_alter_at_kx_14, List.forall_mem_cons.mpr ⟨oo_Gr_alter_at_kx_15, List.forall_mem_cons.mpr ⟨oo_Gr_alter_at_kx_16, List.forall_mem_cons.mpr ⟨oo_Gr_alter_at_kx_17, List.forall_mem_cons.mpr ⟨oo_Gr_alter_at_kx_18, List.forall_mem_cons.mpr ⟨oo_Gr_alter_at_kx_19, List.forall_mem_cons.mpr ⟨oo_Gr_alter_at_kx_20, List.forall_mem_cons.mpr ⟨oo_Gr_alter_at_kx_21, List.forall_mem_cons.mpr ⟨oo_Gr_alter_at_kx_22, List.forall_mem_cons.mpr ⟨oo_Gr_alter_at_kx_23, List.forall_mem_cons.mpr ⟨oo_Gr_alter_at_kx_24, List.forall_mem_cons.mpr ⟨oo_Gr_alter_at_kx_25, List.forall_mem_cons.mpr ⟨oo_Gr_alter_at_kx_26, List.forall_mem_cons.mpr ⟨oo_Gr_alter_at_kx_27, List.forall_mem_cons.mpr ⟨oo_Gr_alter_at_kx_28, List.forall_mem_cons.mpr ⟨oo_Gr_alter_at_kx_29, List.forall_mem_cons.mpr ⟨oo_Gr_alter_at_kx_30, List.forall_mem_cons.mpr ⟨oo_Gr_alter_at_kx_31, List.forall_mem_cons.mpr ⟨oo_Gr_alter_at_kx_32, List.forall_mem_cons.mpr ⟨oo_Gr_alter_at_kx_33, List.forall_mem_cons.mpr ⟨oo_Gr_alter_at_kx_34, List.forall_mem_cons.mpr ⟨oo_Gr_alter_at_kx_35, List.forall_mem_cons.mpr ⟨oo_Gr_alter_at_kx_36, List.forall_mem_cons.mpr ⟨oo_Gr_alter_at_kx_37, List.forall_mem_cons.mpr ⟨oo_Gr_alter_at_kx_38, List.forall_mem_cons.mpr ⟨oo_Gr_alter_at_kx_39, List.forall_mem_cons.mpr ⟨oo_Gr_alter_at_kx_40, List.forall_mem_cons.mpr ⟨oo_Gr_alter_at_kx_41, List.forall_mem_cons.mpr ⟨oo_Gr_alter_at_kx_42, List.forall_mem_cons.mpr ⟨oo_Gr_alter_at_kx_43, List.forall_mem_cons.mpr ⟨oo_Gr_alter_at_kx_44, List.forall_mem_cons.mpr ⟨oo_Gr_alter_at_kx_45, List.forall_mem_cons.mpr ⟨oo_Gr_alter_at_kx_46, List.forall_mem_cons.mpr ⟨oo_Gr_alter_at_kx_47, List.forall_mem_cons.mpr ⟨oo_Gr_alter_at_kx_48, List.forall_mem_cons.mpr ⟨oo_Gr_alter_at_kx_49, List.forall_mem_cons.mpr ⟨oo_Gr_alter_at_kx_50, List.forall_mem_cons.mpr ⟨oo_Gr_alter_at_kx_51, List.forall_mem_cons.mpr ⟨oo_Gr_alter_at_kx_52, List.forall_mem_cons.mpr ⟨oo_Gr_alter_at_kx_53, List.forall_mem_nil _⟩⟩⟩⟩⟩⟩⟩⟩⟩⟩⟩⟩⟩⟩⟩⟩⟩⟩⟩⟩⟩⟩⟩⟩⟩⟩⟩⟩⟩⟩⟩⟩⟩⟩⟩⟩⟩⟩⟩⟩⟩⟩⟩⟩⟩⟩⟩⟩⟩⟩⟩⟩⟩⟩) (by decide +kernel) ⟨List.forall_mem_cons.mpr ⟨gf_Gr_62, List.forall_mem_cons.mpr ⟨gf_Gr_65, List.forall_mem_nil _⟩⟩, List.forall_mem_cons.mpr ⟨pf_Gr_62, List.forall_mem_cons.mpr ⟨pf_Gr_65, List.forall_mem_cons.mpr ⟨pf_Gr_68, List.forall_mem_nil _⟩⟩⟩, List.forall_mem_cons.mpr ⟨cl_virtual (y := y_Gr_pack) (ci := 3) rfl rfl ⟨_, _, rfl⟩ (by decide +kernel) h_Gr_pack wm_979 wm_3 wm_976 wm_978 wv_2_14 ⟨by decide, by decide, by decide +kernel⟩ (by decide), List.forall_mem_cons.mpr ⟨cl_virtual (y := y_Gr_perform_at_kx) (ci := 3) rfl rfl ⟨_, _, rfl⟩ (by decide +kernel) h_Gr_perform_at_kx wm_987 wm_3 wm_984 wm_986 wv_3_0 ⟨by decide, by decide, by decide +kernel⟩ (by decide), List.forall_mem_cons.mpr ⟨cl_copyT rfl rfl (Or.inl (by decide)) (fun Dd S D_zq S_zq sp dp n gs a b c d e h => mv1_mv2 (Dd := Dd) (S := S) (D_zq := D_zq) (S_zq := S_zq) (sp := sp) (dp := dp) (n := n)  a b c d e h) wm_748 wm_750 wm_749 wm_15, List.forall_mem_nil _⟩⟩⟩, List.forall_mem_nil _, List.forall_mem_cons.mpr ⟨wm_193, List.forall_mem_nil _⟩, GG_pl⟩ (by decide +kernel)
end
section

set_option maxHeartbeats 4000000 in
theorem vc_Re_isName_0_0 (x3 : Int) (kind_0 : Int) (next_0 : Int) (begin_0 : Int) (tape_0 : Int → Int) (k3 : 0 ≤ x3 ∧ x3 ≤ 0) (f2 : ((-1) * kind_0 + 0 ≤ (-3)) ∨ (1 * next_0 + ((-1) * begin_0 + (2000 * kind_0 + 0)) ≤ 4008)) (hK_0_0 : ∀ j : Int, 0 ≤ j → j < 2000 → (-128) ≤ tape_0 j ∧ tape_0 j ≤ 127) (kz_0_6 : 0 ≤ next_0 ∧ next_0 ≤ 2000) (kz_0_7 : (-128) ≤ kind_0 ∧ kind_0 ≤ 127) (kz_0_8 : 0 ≤ begin_0 ∧ begin_0 ≤ 2000) : 1 * next_0 + ((-1) * begin_0 + (2000 * x3 + 0)) ≤ 2008 := by
  first | with_reducible assumption | ((try and_intros) <;> first | with_reducible assumption | (clear f2 hK_0_0; omega)) | ((try and_intros) <;> first | with_reducible assumption | (clear hK_0_0; omega)) | omega
set_option maxHeartbeats 4000000 in
theorem vc_Re_isName_0_1 (x1 : Int) (x2 : Int) (x3 : Int) (kind_0 : Int) (next_0 : Int) (begin_0 : Int) (tape_0 : Int → Int) (k1 : (-128) ≤ x1 ∧ x1 ≤ 127) (k2 : 2 ≤ x2 ∧ x2 ≤ 2) (k3 : 0 ≤ x3 ∧ x3 ≤ 0) (f0 : x1 ≠ x2) (g1 : x1 = kind_0) (f2 : ((-1) * kind_0 + 0 ≤ (-3)) ∨ (1 * next_0 + ((-1) * begin_0 + (2000 * kind_0 + 0)) ≤ 4008)) (kz_0_6 : 0 ≤ next_0 ∧ next_0 ≤ 2000) (kz_0_7 : (-128) ≤ kind_0 ∧ kind_0 ≤ 127) (kz_0_8 : 0 ≤ begin_0 ∧ begin_0 ≤ 2000) : CNM (kind_0) (next_0) (begin_0) (tape_0) (x3) := by
  first | subst g1 | skip
  first
    | exact cnm_k (by omega) (by omega)
    | exact cnm_1 ‹CWn _ _ _ _ _› ‹CWg _ _ _ _ _› (by omega) (by omega) (by omega) (by omega)
    | exact cnm_n ‹CWn _ _ _ _ _› (by omega) (by omega)
    | exact cnm_g ‹CWg _ _ _ _ _› (by omega) (by omega)
def o_Re_isName_0 : or_T := (31, 4, [(0, (2, 0, 0, [8])), (1, (0, -128, 127, [])), (2, (0, 2, 2, [])), (3, (0, 0, 0, []))], [(7, [1, 2], [1]), (9, [1, 0], [7]), (20, [0, 0, 0, 0], [31, 1, -3, -1, 1, 7, 4008, 1, 1, 6, -1, 1, 8, 2000, 1, 7])], [], [], [(20, [0, 0, 3], [30, 2008, 1, 1, 6, -1, 1, 8, 2000, 0, 0]), (20, [0, 3], [60, 3, 1, 1079, 7, 6, 8, 0])], [], [])
theorem oo_Re_isName_0 {kA : Nat → ClassId} : or_ok PRD kA GG o_Re_isName_0 := by
  refine or_mk fun A ta ws vs hD hth hl => ?_
  intro t0 r0 t1 k1 t2 k2 t3 k3 f0 f1 f2
  replace f1 := shm_198 f1
  have cr_0_0 := fdq_95 hD hth r0
  have g1 : v_iv (n_v vs 1) = w_fi ws (n_v vs 0) 7 := congrArg v_iv f1
  have hK_0_0 := elq_33 hD hth cr_0_0
  have kz_0_6 := fdq_208 hD hth r0
  have kz_0_7 := fdq_297 hD hth r0
  have kz_0_8 := fdq_99 hD hth r0
  have nf0 : fc_1 PRD (20, [0, 0, 3], [30, 2008, 1, 1, 6, -1, 1, 8, 2000, 0, 0]) ws (vs) := ⟨nf_in hl rfl, sgq_1836 (vc_Re_isName_0_0 (v_iv (n_v vs 3)) (w_fi ws (n_v vs 0) 7) (w_fi ws (n_v vs 0) 6) (w_fi ws (n_v vs 0) 8) (w_ei ws (w_ar ws (n_v vs 0) 0)) k3 (shm_1530 f2) hK_0_0 kz_0_6 kz_0_7 kz_0_8)⟩
  have nf1 : fc_1 PRD (20, [0, 3], [60, 3, 1, 1079, 7, 6, 8, 0]) ws (vs) := ⟨nf_in hl rfl, sgq_1837 (vc_Re_isName_0_1 (v_iv (n_v vs 1)) (v_iv (n_v vs 2)) (v_iv (n_v vs 3)) (w_fi ws (n_v vs 0) 7) (w_fi ws (n_v vs 0) 6) (w_fi ws (n_v vs 0) 8) (w_ei ws (w_ar ws (n_v vs 0) 0)) k1 k2 k3 (shm_40 f0) g1 (shm_1530 f2) kz_0_6 kz_0_7 kz_0_8)⟩
  refine ⟨(fun _ h => (by cases h)), [], trivial, ?_, (fun _ h => (by cases h))⟩
  rw [List.append_nil]
  exact List.forall_mem_cons.mpr ⟨⟨show (20 : Nat) < 100 from by decide, nf0⟩, List.forall_mem_cons.mpr ⟨⟨show (20 : Nat) < 100 from by decide, nf1⟩, (fun _ h => (by cases h))⟩⟩
set_option maxHeartbeats 4000000 in
theorem vc_Re_isName_1_0 (x1 : Int) (kind_0 : Int) (next_0 : Int) (begin_0 : Int) (k1 : 2 ≤ x1 ∧ x1 ≤ 2) (g1 : x1 = kind_0) (f2 : ((-1) * kind_0 + 0 ≤ (-3)) ∨ (1 * next_0 + ((-1) * begin_0 + (2000 * kind_0 + 0)) ≤ 4008)) (kz_0_6 : 0 ≤ next_0 ∧ next_0 ≤ 2000) (kz_0_7 : (-128) ≤ kind_0 ∧ kind_0 ≤ 127) (kz_0_8 : 0 ≤ begin_0 ∧ begin_0 ≤ 2000) : 1 * kind_0 + 0 ≤ 2 := by
  first | with_reducible assumption | ((try and_intros) <;> first | with_reducible assumption | (clear f2; omega)) | ((try and_intros) <;> first | with_reducible assumption | (omega)) | omega
set_option maxHeartbeats 4000000 in
theorem vc_Re_isName_1_1 (x1 : Int) (kind_0 : Int) (next_0 : Int) (begin_0 : Int) (k1 : 2 ≤ x1 ∧ x1 ≤ 2) (g1 : x1 = kind_0) (f2 : ((-1) * kind_0 + 0 ≤ (-3)) ∨ (1 * next_0 + ((-1) * begin_0 + (2000 * kind_0 + 0)) ≤ 4008)) (kz_0_6 : 0 ≤ next_0 ∧ next_0 ≤ 2000) (kz_0_7 : (-128) ≤ kind_0 ∧ kind_0 ≤ 127) (kz_0_8 : 0 ≤ begin_0 ∧ begin_0 ≤ 2000) : (-1) * kind_0 + 0 ≤ (-2) := by
  first | with_reducible assumption | ((try and_intros) <;> first | with_reducible assumption | (clear f2; omega)) | ((try and_intros) <;> first | with_reducible assumption | (omega)) | omega
def o_Re_isName_1 : or_T := (8, 3, [(0, (2, 0, 0, [8])), (1, (0, 2, 2, []))], [(9, [1, 0], [7]), (20, [0, 0, 0, 0], [31, 1, -3, -1, 1, 7, 4008, 1, 1, 6, -1, 1, 8, 2000, 1, 7])], [], [], [(20, [0], [30, 2, 1, 1, 7]), (20, [0], [30, -2, -1, 1, 7])], [], [])
theorem oo_Re_isName_1 {kA : Nat → ClassId} : or_ok PRD kA GG o_Re_isName_1 := by
  refine or_mk fun A ta ws vs hD hth hl => ?_
  intro t0 r0 t1 k1 f1 f2
  replace f1 := shm_198 f1
  have g1 : v_iv (n_v vs 1) = w_fi ws (n_v vs 0) 7 := congrArg v_iv f1
  have kz_0_6 := fdq_208 hD hth r0
  have kz_0_7 := fdq_297 hD hth r0
  have kz_0_8 := fdq_99 hD hth r0
  have nf0 : fc_1 PRD (20, [0], [30, 2, 1, 1, 7]) ws (vs) := ⟨nf_in hl rfl, sgq_1838 (vc_Re_isName_1_0 (v_iv (n_v vs 1)) (w_fi ws (n_v vs 0) 7) (w_fi ws (n_v vs 0) 6) (w_fi ws (n_v vs 0) 8) k1 g1 (shm_1530 f2) kz_0_6 kz_0_7 kz_0_8)⟩
  have nf1 : fc_1 PRD (20, [0], [30, -2, -1, 1, 7]) ws (vs) := ⟨nf_in hl rfl, sgq_1839 (vc_Re_isName_1_1 (v_iv (n_v vs 1)) (w_fi ws (n_v vs 0) 7) (w_fi ws (n_v vs 0) 6) (w_fi ws (n_v vs 0) 8) k1 g1 (shm_1530 f2) kz_0_6 kz_0_7 kz_0_8)⟩
  refine ⟨(fun _ h => (by cases h)), [], trivial, ?_, (fun _ h => (by cases h))⟩
  rw [List.append_nil]
  exact List.forall_mem_cons.mpr ⟨⟨show (20 : Nat) < 100 from by decide, nf0⟩, List.forall_mem_cons.mpr ⟨⟨show (20 : Nat) < 100 from by decide, nf1⟩, (fun _ h => (by cases h))⟩⟩
set_option maxHeartbeats 4000000 in
theorem vc_Re_isName_2_0 (x5 : Int) (kind_0 : Int) (next_0 : Int) (begin_0 : Int) (tape_0 : Int → Int) (k5 : 0 ≤ x5 ∧ x5 ≤ 0) (f4 : ((-1) * kind_0 + 0 ≤ (-3)) ∨ (1 * next_0 + ((-1) * begin_0 + (2000 * kind_0 + 0)) ≤ 4008)) (hK_0_0 : ∀ j : Int, 0 ≤ j → j < 2000 → (-128) ≤ tape_0 j ∧ tape_0 j ≤ 127) (kz_0_6 : 0 ≤ next_0 ∧ next_0 ≤ 2000) (kz_0_7 : (-128) ≤ kind_0 ∧ kind_0 ≤ 127) (kz_0_8 : 0 ≤ begin_0 ∧ begin_0 ≤ 2000) : 1 * next_0 + ((-1) * begin_0 + (2000 * x5 + 0)) ≤ 2008 := by
  first | with_reducible assumption | ((try and_intros) <;> first | with_reducible assumption | (clear f4 hK_0_0; omega)) | ((try and_intros) <;> first | with_reducible assumption | (clear hK_0_0; omega)) | omega
set_option maxHeartbeats 4000000 in
theorem vc_Re_isName_2_1 (x1 : Int) (x4 : Int) (x5 : Int) (kind_0 : Int) (next_0 : Int) (begin_0 : Int) (tape_0 : Int → Int) (k1 : 2 ≤ x1 ∧ x1 ≤ 2) (k4 : 1 ≤ x4 ∧ x4 ≤ 1) (k5 : 0 ≤ x5 ∧ x5 ≤ 0) (g0 : x1 = kind_0) (f1 : x4 ≠ 0) (f5 : CWn (kind_0) (next_0) (begin_0) (tape_0) (x4)) (kz_0_6 : 0 ≤ next_0 ∧ next_0 ≤ 2000) (kz_0_7 : (-128) ≤ kind_0 ∧ kind_0 ≤ 127) (kz_0_8 : 0 ≤ begin_0 ∧ begin_0 ≤ 2000) : CNM (kind_0) (next_0) (begin_0) (tape_0) (x5) := by
  first | subst g0 | skip
  first
    | exact cnm_k (by omega) (by omega)
    | exact cnm_1 ‹CWn _ _ _ _ _› ‹CWg _ _ _ _ _› (by omega) (by omega) (by omega) (by omega)
    | exact cnm_n ‹CWn _ _ _ _ _› (by omega) (by omega)
    | exact cnm_g ‹CWg _ _ _ _ _› (by omega) (by omega)
def o_Re_isName_2 : or_T := (31, 6, [(0, (2, 0, 0, [8])), (1, (0, 2, 2, [])), (4, (0, 1, 1, [])), (5, (0, 0, 0, []))], [(9, [1, 0], [7]), (8, [4], [1]), (20, [0, 0, 0, 0], [31, 1, -3, -1, 1, 7, 4008, 1, 1, 6, -1, 1, 8, 2000, 1, 7]), (20, [0, 4], [60, 3, 1, 1080, 7, 6, 8, 0])], [], [], [(20, [0, 0, 5], [30, 2008, 1, 1, 6, -1, 1, 8, 2000, 0, 0]), (20, [0, 5], [60, 3, 1, 1079, 7, 6, 8, 0])], [], [])
theorem oo_Re_isName_2 {kA : Nat → ClassId} : or_ok PRD kA GG o_Re_isName_2 := by
  refine or_mk fun A ta ws vs hD hth hl => ?_
  intro t0 r0 t1 k1 t4 k4 t5 k5 f0 f1 f4 f5
  replace f0 := shm_198 f0
  have cr_0_0 := fdq_95 hD hth r0
  have g0 : v_iv (n_v vs 1) = w_fi ws (n_v vs 0) 7 := congrArg v_iv f0
  have hK_0_0 := elq_33 hD hth cr_0_0
  have kz_0_6 := fdq_208 hD hth r0
  have kz_0_7 := fdq_297 hD hth r0
  have kz_0_8 := fdq_99 hD hth r0
  have nf0 : fc_1 PRD (20, [0, 0, 5], [30, 2008, 1, 1, 6, -1, 1, 8, 2000, 0, 0]) ws (vs) := ⟨nf_in hl rfl, sgq_1836 (vc_Re_isName_2_0 (v_iv (n_v vs 5)) (w_fi ws (n_v vs 0) 7) (w_fi ws (n_v vs 0) 6) (w_fi ws (n_v vs 0) 8) (w_ei ws (w_ar ws (n_v vs 0) 0)) k5 (shm_1530 f4) hK_0_0 kz_0_6 kz_0_7 kz_0_8)⟩
  have nf1 : fc_1 PRD (20, [0, 5], [60, 3, 1, 1079, 7, 6, 8, 0]) ws (vs) := ⟨nf_in hl rfl, sgq_1837 (vc_Re_isName_2_1 (v_iv (n_v vs 1)) (v_iv (n_v vs 4)) (v_iv (n_v vs 5)) (w_fi ws (n_v vs 0) 7) (w_fi ws (n_v vs 0) 6) (w_fi ws (n_v vs 0) 8) (w_ei ws (w_ar ws (n_v vs 0) 0)) k1 k4 k5 g0 (shm_142 f1) (shm_1828 f5) kz_0_6 kz_0_7 kz_0_8)⟩
  refine ⟨(fun _ h => (by cases h)), [], trivial, ?_, (fun _ h => (by cases h))⟩
  rw [List.append_nil]
  exact List.forall_mem_cons.mpr ⟨⟨show (20 : Nat) < 100 from by decide, nf0⟩, List.forall_mem_cons.mpr ⟨⟨show (20 : Nat) < 100 from by decide, nf1⟩, (fun _ h => (by cases h))⟩⟩
set_option maxHeartbeats 4000000 in
theorem vc_Re_isName_3_0 (x7 : Int) (kind_0 : Int) (next_0 : Int) (begin_0 : Int) (tape_0 : Int → Int) (k7 : 0 ≤ x7 ∧ x7 ≤ 0) (f4 : ((-1) * kind_0 + 0 ≤ (-3)) ∨ (1 * next_0 + ((-1) * begin_0 + (2000 * kind_0 + 0)) ≤ 4008)) (hK_0_0 : ∀ j : Int, 0 ≤ j → j < 2000 → (-128) ≤ tape_0 j ∧ tape_0 j ≤ 127) (kz_0_6 : 0 ≤ next_0 ∧ next_0 ≤ 2000) (kz_0_7 : (-128) ≤ kind_0 ∧ kind_0 ≤ 127) (kz_0_8 : 0 ≤ begin_0 ∧ begin_0 ≤ 2000) : 1 * next_0 + ((-1) * begin_0 + (2000 * x7 + 0)) ≤ 2008 := by
  first | with_reducible assumption | ((try and_intros) <;> first | with_reducible assumption | (clear f4 hK_0_0; omega)) | ((try and_intros) <;> first | with_reducible assumption | (clear hK_0_0; omega)) | omega
set_option maxHeartbeats 4000000 in
theorem vc_Re_isName_3_1 (x1 : Int) (x6 : Int) (x7 : Int) (kind_0 : Int) (next_0 : Int) (begin_0 : Int) (tape_0 : Int → Int) (k1 : 2 ≤ x1 ∧ x1 ≤ 2) (k6 : 1 ≤ x6 ∧ x6 ≤ 1) (k7 : 0 ≤ x7 ∧ x7 ≤ 0) (g0 : x1 = kind_0) (f1 : x6 ≠ 0) (f6 : CWg (kind_0) (next_0) (begin_0) (tape_0) (x6)) (kz_0_6 : 0 ≤ next_0 ∧ next_0 ≤ 2000) (kz_0_7 : (-128) ≤ kind_0 ∧ kind_0 ≤ 127) (kz_0_8 : 0 ≤ begin_0 ∧ begin_0 ≤ 2000) : CNM (kind_0) (next_0) (begin_0) (tape_0) (x7) := by
  first | subst g0 | skip
  first
    | exact cnm_k (by omega) (by omega)
    | exact cnm_1 ‹CWn _ _ _ _ _› ‹CWg _ _ _ _ _› (by omega) (by omega) (by omega) (by omega)
    | exact cnm_n ‹CWn _ _ _ _ _› (by omega) (by omega)
    | exact cnm_g ‹CWg _ _ _ _ _› (by omega) (by omega)
def o_Re_isName_3 : or_T := (31, 8, [(0, (2, 0, 0, [8])), (1, (0, 2, 2, [])), (2, (0, 2, 2, [])), (4, (0, 0, 0, [])), (6, (0, 1, 1, [])), (7, (0, 0, 0, []))], [(9, [1, 0], [7]), (8, [6], [1]), (20, [0], [30, 2, 1, 1, 7]), (20, [0], [30, -2, -1, 1, 7]), (20, [0, 0, 0, 0], [31, 1, -3, -1, 1, 7, 4008, 1, 1, 6, -1, 1, 8, 2000, 1, 7]), (20, [0, 4], [60, 3, 1, 1080, 7, 6, 8, 0]), (20, [0, 6], [60, 3, 1, 1081, 7, 6, 8, 0]), (102, [5], [0]), (8, [4], [0]), (102, [3], [0]), (7, [1, 2], [0])], [], [], [(20, [0, 0, 7], [30, 2008, 1, 1, 6, -1, 1, 8, 2000, 0, 0]), (20, [0, 7], [60, 3, 1, 1079, 7, 6, 8, 0])], [], [])
theorem oo_Re_isName_3 {kA : Nat → ClassId} : or_ok PRD kA GG o_Re_isName_3 := by
  refine or_mk fun A ta ws vs hD hth hl => ?_
  intro t0 r0 t1 k1 t2 k2 t4 k4 t6 k6 t7 k7 f0 f1 f2 f3 f4 f5 f6 ta1 w1 le1 s1 f8 ta2 w2 le2 s2 f10
  replace f0 := shm_198 f0
  have cr_0_0 := fdq_95 hD hth r0
  have g0 : v_iv (n_v vs 1) = w_fi ws (n_v vs 0) 7 := congrArg v_iv f0
  have hK_0_0 := elq_33 hD hth cr_0_0
  have kz_0_6 := fdq_208 hD hth r0
  have kz_0_7 := fdq_297 hD hth r0
  have kz_0_8 := fdq_99 hD hth r0
  have nf0 : fc_1 PRD (20, [0, 0, 7], [30, 2008, 1, 1, 6, -1, 1, 8, 2000, 0, 0]) ws (vs) := ⟨nf_in hl rfl, sgq_1836 (vc_Re_isName_3_0 (v_iv (n_v vs 7)) (w_fi ws (n_v vs 0) 7) (w_fi ws (n_v vs 0) 6) (w_fi ws (n_v vs 0) 8) (w_ei ws (w_ar ws (n_v vs 0) 0)) k7 (shm_1530 f4) hK_0_0 kz_0_6 kz_0_7 kz_0_8)⟩
  have nf1 : fc_1 PRD (20, [0, 7], [60, 3, 1, 1079, 7, 6, 8, 0]) ws (vs) := ⟨nf_in hl rfl, sgq_1837 (vc_Re_isName_3_1 (v_iv (n_v vs 1)) (v_iv (n_v vs 6)) (v_iv (n_v vs 7)) (w_fi ws (n_v vs 0) 7) (w_fi ws (n_v vs 0) 6) (w_fi ws (n_v vs 0) 8) (w_ei ws (w_ar ws (n_v vs 0) 0)) k1 k6 k7 g0 (shm_142 f1) (shm_1829 f6) kz_0_6 kz_0_7 kz_0_8)⟩
  refine ⟨(fun _ h => (by cases h)), [], trivial, ?_, (fun _ h => (by cases h))⟩
  rw [List.append_nil]
  exact List.forall_mem_cons.mpr ⟨⟨show (20 : Nat) < 100 from by decide, nf0⟩, List.forall_mem_cons.mpr ⟨⟨show (20 : Nat) < 100 from by decide, nf1⟩, (fun _ h => (by cases h))⟩⟩
set_option maxHeartbeats 4000000 in
theorem vc_Re_isName_4_0 (x1 : Int) (x7 : Int) (kind_0 : Int) (next_0 : Int) (begin_0 : Int) (tape_0 : Int → Int) (k1 : 2 ≤ x1 ∧ x1 ≤ 2) (k7 : 1 ≤ x7 ∧ x7 ≤ 1) (g0 : x1 = kind_0) (f4 : ((-1) * kind_0 + 0 ≤ (-3)) ∨ (1 * next_0 + ((-1) * begin_0 + (2000 * kind_0 + 0)) ≤ 4008)) (hK_0_0 : ∀ j : Int, 0 ≤ j → j < 2000 → (-128) ≤ tape_0 j ∧ tape_0 j ≤ 127) (kz_0_6 : 0 ≤ next_0 ∧ next_0 ≤ 2000) (kz_0_7 : (-128) ≤ kind_0 ∧ kind_0 ≤ 127) (kz_0_8 : 0 ≤ begin_0 ∧ begin_0 ≤ 2000) : 1 * next_0 + ((-1) * begin_0 + (2000 * x7 + 0)) ≤ 2008 := by
  first | with_reducible assumption | ((try and_intros) <;> first | with_reducible assumption | (clear f4 hK_0_0; omega)) | ((try and_intros) <;> first | with_reducible assumption | (clear hK_0_0; omega)) | omega
set_option maxHeartbeats 4000000 in
theorem vc_Re_isName_4_1 (x1 : Int) (x4 : Int) (x6 : Int) (x7 : Int) (kind_0 : Int) (next_0 : Int) (begin_0 : Int) (tape_0 : Int → Int) (k1 : 2 ≤ x1 ∧ x1 ≤ 2) (k4 : 0 ≤ x4 ∧ x4 ≤ 0) (k6 : 0 ≤ x6 ∧ x6 ≤ 0) (k7 : 1 ≤ x7 ∧ x7 ≤ 1) (g0 : x1 = kind_0) (f1 : x6 = 0) (f5 : CWn (kind_0) (next_0) (begin_0) (tape_0) (x4)) (f6 : CWg (kind_0) (next_0) (begin_0) (tape_0) (x6)) (f8 : x4 = 0) (kz_0_6 : 0 ≤ next_0 ∧ next_0 ≤ 2000) (kz_0_7 : (-128) ≤ kind_0 ∧ kind_0 ≤ 127) (kz_0_8 : 0 ≤ begin_0 ∧ begin_0 ≤ 2000) : CNM (kind_0) (next_0) (begin_0) (tape_0) (x7) := by
  first | subst g0 | skip
  first
    | exact cnm_k (by omega) (by omega)
    | exact cnm_1 ‹CWn _ _ _ _ _› ‹CWg _ _ _ _ _› (by omega) (by omega) (by omega) (by omega)
    | exact cnm_n ‹CWn _ _ _ _ _› (by omega) (by omega)
    | exact cnm_g ‹CWg _ _ _ _ _› (by omega) (by omega)
def o_Re_isName_4 : or_T := (31, 8, [(0, (2, 0, 0, [8])), (1, (0, 2, 2, [])), (2, (0, 2, 2, [])), (4, (0, 0, 0, [])), (6, (0, 0, 0, [])), (7, (0, 1, 1, []))], [(9, [1, 0], [7]), (8, [6], [0]), (20, [0], [30, 2, 1, 1, 7]), (20, [0], [30, -2, -1, 1, 7]), (20, [0, 0, 0, 0], [31, 1, -3, -1, 1, 7, 4008, 1, 1, 6, -1, 1, 8, 2000, 1, 7]), (20, [0, 4], [60, 3, 1, 1080, 7, 6, 8, 0]), (20, [0, 6], [60, 3, 1, 1081, 7, 6, 8, 0]), (102, [5], [0]), (8, [4], [0]), (102, [3], [0]), (7, [1, 2], [0])], [], [], [(20, [0, 0, 7], [30, 2008, 1, 1, 6, -1, 1, 8, 2000, 0, 0]), (20, [0, 7], [60, 3, 1, 1079, 7, 6, 8, 0])], [], [])
theorem oo_Re_isName_4 {kA : Nat → ClassId} : or_ok PRD kA GG o_Re_isName_4 := by
  refine or_mk fun A ta ws vs hD hth hl => ?_
  intro t0 r0 t1 k1 t2 k2 t4 k4 t6 k6 t7 k7 f0 f1 f2 f3 f4 f5 f6 ta1 w1 le1 s1 f8 ta2 w2 le2 s2 f10
  replace f0 := shm_198 f0
  have cr_0_0 := fdq_95 hD hth r0
  have g0 : v_iv (n_v vs 1) = w_fi ws (n_v vs 0) 7 := congrArg v_iv f0
  have hK_0_0 := elq_33 hD hth cr_0_0
  have kz_0_6 := fdq_208 hD hth r0
  have kz_0_7 := fdq_297 hD hth r0
  have kz_0_8 := fdq_99 hD hth r0
  have nf0 : fc_1 PRD (20, [0, 0, 7], [30, 2008, 1, 1, 6, -1, 1, 8, 2000, 0, 0]) ws (vs) := ⟨nf_in hl rfl, sgq_1836 (vc_Re_isName_4_0 (v_iv (n_v vs 1)) (v_iv (n_v vs 7)) (w_fi ws (n_v vs 0) 7) (w_fi ws (n_v vs 0) 6) (w_fi ws (n_v vs 0) 8) (w_ei ws (w_ar ws (n_v vs 0) 0)) k1 k7 g0 (shm_1530 f4) hK_0_0 kz_0_6 kz_0_7 kz_0_8)⟩
  have nf1 : fc_1 PRD (20, [0, 7], [60, 3, 1, 1079, 7, 6, 8, 0]) ws (vs) := ⟨nf_in hl rfl, sgq_1837 (vc_Re_isName_4_1 (v_iv (n_v vs 1)) (v_iv (n_v vs 4)) (v_iv (n_v vs 6)) (v_iv (n_v vs 7)) (w_fi ws (n_v vs 0) 7) (w_fi ws (n_v vs 0) 6) (w_fi ws (n_v vs 0) 8) (w_ei ws (w_ar ws (n_v vs 0) 0)) k1 k4 k6 k7 g0 (shm_192 f1) (shm_1828 f5) (shm_1829 f6) (shm_192 f8) kz_0_6 kz_0_7 kz_0_8)⟩
  refine ⟨(fun _ h => (by cases h)), [], trivial, ?_, (fun _ h => (by cases h))⟩
  rw [List.append_nil]
  exact List.forall_mem_cons.mpr ⟨⟨show (20 : Nat) < 100 from by decide, nf0⟩, List.forall_mem_cons.mpr ⟨⟨show (20 : Nat) < 100 from by decide, nf1⟩, (fun _ h => (by cases h))⟩⟩
def n_Re_isName_an : List an_T := []
def t_Re_isName_ct : ct_L := [(37, 95, e_Re_isWord_at_s5000), (64, 95, e_Re_isWord_at_s5001), (1000000, 93, en_ro [] (2, 0, 0, [5000])), (1000000, 99, en_ro [] (2, 0, 0, [5001]))]
set_option maxRecDepth 100000 in
theorem c_Re_isName {l : Launch} {D : va_G} {kA : Nat → ClassId} (h_Re_isWord_at_s5000 : ct_ok PRD l D kA GG y_Re_isWord_at_s5000 z_Re_isWord_at_s5000 e_Re_isWord_at_s5000) (h_Re_isWord_at_s5001 : ct_ok PRD l D kA GG y_Re_isWord_at_s5001 z_Re_isWord_at_s5001 e_Re_isWord_at_s5001) : ct_ok PRD l D kA GG y_Re_isName z_Re_isName e_Re_isName := chk_all_ok (FT := [(38, 8, 7)]) (PT := []) (CT := t_Re_isName_ct) (KT := []) (NT := []) (AN := n_Re_isName_an) (OT := [o_Re_isName_0, o_Re_isName_1, o_Re_isName_2, o_Re_isName_3, o_Re_isName_4]) 0 200 (List.forall_mem_cons.mpr ⟨oo_Re_isName_0, List.forall_mem_cons.mpr ⟨oo_Re_isName_1, List.forall_mem_cons.mpr ⟨oo_Re_isName_2, List.forall_mem_cons.mpr ⟨oo_Re_isName_3, List.forall_mem_cons.mpr ⟨oo_Re_isName_4, List.forall_mem_nil _⟩⟩⟩⟩⟩) (by decide +kernel) ⟨List.forall_mem_cons.mpr ⟨gf_Re_38, List.forall_mem_nil _⟩, List.forall_mem_nil _, List.forall_mem_cons.mpr ⟨cl_virtual (y := y_Re_isWord_at_s5000) (ci := 8) rfl rfl ⟨_, _, rfl⟩ (by decide +kernel) h_Re_isWord_at_s5000 wm_670 wm_2 wm_667 wm_669 wv_1_2 ⟨by decide, by decide, by decide +kernel⟩ (by decide), List.forall_mem_cons.mpr ⟨cl_virtual (y := y_Re_isWord_at_s5001) (ci := 8) rfl rfl ⟨_, _, rfl⟩ (by decide +kernel) h_Re_isWord_at_s5001 wm_670 wm_2 wm_667 wm_669 wv_1_2 ⟨by decide, by decide, by decide +kernel⟩ (by decide), List.forall_mem_cons.mpr ⟨cl_ldc (own := "DrawingHouse$Reader") (idx := 93) (i := 0) (tx := "node") (by decide +kernel) (by decide +kernel) (by decide +kernel), List.forall_mem_cons.mpr ⟨cl_ldc (own := "DrawingHouse$Reader") (idx := 99) (i := 1) (tx := "group") (by decide +kernel) (by decide +kernel) (by decide +kernel), List.forall_mem_nil _⟩⟩⟩⟩, List.forall_mem_nil _, List.forall_mem_nil _, GG_pl⟩ (by decide +kernel)

def o_Sy_advance_0 : or_T := (0, 2, [], [], [], [], [(24, [0, 0], [])], [], [])
theorem oo_Sy_advance_0 {kA : Nat → ClassId} : or_ok PRD kA GG o_Sy_advance_0 := by
  refine or_mk fun A ta ws vs hD hth hl => ?_
  have nf0 : fc_1 PRD (24, [0, 0], []) ws (vs) := by
    refine ⟨nf_in hl rfl, sgq_1 ?_⟩
    · show n_v vs 0 = n_v vs 0
      first | rfl | simp only [true_and]
  refine ⟨(fun _ h => (by cases h)), [], trivial, ?_, (fun _ h => (by cases h))⟩
  rw [List.append_nil]
  exact List.forall_mem_cons.mpr ⟨⟨show (24 : Nat) < 100 from by decide, nf0⟩, (fun _ h => (by cases h))⟩
set_option maxHeartbeats 4000000 in
theorem vc_Sy_advance_1_0 (x5 : Int) (x10 : Int) (kind_0 : Int) (next_0 : Int) (begin_0 : Int) (end_0 : Int) (bytes_2 : Int → Int) (end_1 : Int) (next_1 : Int) (begin_1 : Int) (number_0 : Int) (number_1 : Int) (end_2 : Int) (kind_1 : Int) (kind_2 : Int) (begin_2 : Int) (number_2 : Int) (bytes_0 : Int → Int) (bytes_1 : Int → Int) (bytes_3 : Int → Int) (k5 : 1 ≤ x5 ∧ x5 ≤ 1999) (k10 : 2 ≤ x10 ∧ x10 ≤ 2000) (d1 : x5 + (-4294967296) ≤ x10 ∧ x10 ≤ x5 + 0) (d2 : x5 + 1 ≤ x10 ∧ x10 ≤ x5 + 4294967296) (fe_0_4_1 : end_0 = end_1) (fe_0_5_1 : next_0 = next_1) (fe_0_7_1 : begin_0 = begin_1) (fe_0_8_1 : number_0 = number_1) (fe_0_4_2 : end_1 = end_2) (fe_0_6_2 : kind_1 = kind_2) (fe_0_7_2 : begin_1 = begin_2) (fe_0_8_2 : number_1 = number_2) (hE_0_3_1 : ∀ j : Int, bytes_0 j = bytes_1 j) (hE_0_3_2 : ∀ j : Int, bytes_1 j = bytes_2 j) (hE_0_3_3 : ∀ j : Int, bytes_2 j = bytes_3 j) (kz_0_4 : 0 ≤ end_0 ∧ end_0 ≤ 2000) (kz_0_5 : 0 ≤ next_0 ∧ next_0 ≤ 2000) (kz_0_6 : 0 ≤ kind_0 ∧ kind_0 ≤ 127) (kz_0_7 : 0 ≤ begin_0 ∧ begin_0 ≤ 2000) (kz_0_8 : 0 ≤ number_0 ∧ number_0 ≤ 1000000) : (kind_0 ≠ 3) ∨ (number_0 ≤ 9999) := by
  subst fe_0_4_1
  subst fe_0_5_1
  subst fe_0_7_1
  subst fe_0_8_1
  subst fe_0_4_2
  subst fe_0_6_2
  subst fe_0_7_2
  subst fe_0_8_2
  have e_hE_0_3_1 := funext hE_0_3_1; subst e_hE_0_3_1
  have e_hE_0_3_2 := funext hE_0_3_2; subst e_hE_0_3_2
  have e_hE_0_3_3 := funext hE_0_3_3; subst e_hE_0_3_3
  first
    | omega
  
def o_Sy_advance_1 : or_T := (297, 12, [(0, (2, 0, 0, [11])), (2, (2, 0, 0, [11])), (3, (0, 1, 1999, [])), (4, (2, 0, 0, [109])), (5, (0, 1, 1999, [])), (6, (0, -128, 0, [])), (8, (0, 0, 0, [])), (9, (0, 1, 1, [])), (10, (0, 2, 2000, [])), (11, (0, 1, 1, []))], [(9, [11, 2], [6]), (9, [10, 2], [5]), (9, [3, 2], [7]), (9, [5, 2], [4]), (9, [4, 2], [3]), (20, [6, 8], [61, 0, 1098]), (24, [0, 2], []), (101, [2, 11], [6]), (8, [6], [5]), (20, [6, 8], [61, 0, 1098]), (101, [2, 10], [5]), (1, [10, 3, 9], []), (9, [3, 2], [5]), (8, [8], [0]), (20, [6, 8], [61, 0, 1098]), (10, [6, 4, 3], []), (7, [3, 5], [2]), (101, [2, 3], [7]), (7, [3, 5], [3])], [], [], [(20, [0], [50, 2, 0, 6, 8, 3, 7, 7, 3, 2, 0, 6, 0, 3, 0, 3, 2, 0, 8, 0, 9999])], [], [(10, 3, 1, 1), (10, 5, -4294967296, 0), (10, 5, 1, 4294967296), (3, 5, -4294967296, -1), (3, 5, 0, 4294967296)])
theorem oo_Sy_advance_1 {kA : Nat → ClassId} : or_ok PRD kA GG o_Sy_advance_1 := by
  refine or_mk fun A ta ws vs hD hth hl => ?_
  intro t0 r0 t2 r2 t3 k3 t4 r4 t5 k5 t6 k6 t8 k8 t9 k9 t10 k10 t11 k11 d0 d1 d2 d3 d4 f0 f1 f2 f3 f4 f5 f6 ta1 w1 le1 s1 f8 f9 ta2 w2 le2 s2 f11 f12 f13 f14 f15 f16 ta3 w3 le3 s3 f18
  replace f6 := shm_5 f6
  have s1 : (∀ b j, w_el ws b j = w_el w1 b j) ∧ ∀ b j, w_fd ws b j = if b = v_ad (n_v vs 2) ∧ j = 6 then n_v vs 11 else w_fd w1 b j := s1.2
  have s2 : (∀ b j, w_el w1 b j = w_el w2 b j) ∧ ∀ b j, w_fd w1 b j = if b = v_ad (n_v vs 2) ∧ j = 5 then n_v vs 10 else w_fd w2 b j := s2.2
  have s3 : (∀ b j, w_el w2 b j = w_el w3 b j) ∧ ∀ b j, w_fd w2 b j = if b = v_ad (n_v vs 2) ∧ j = 7 then n_v vs 3 else w_fd w3 b j := s3.2
  have q2 : n_v vs 2 = n_v vs 0 := f6.symm
  rw [q2] at s1
  rw [q2] at s2
  rw [q2] at s3
  have fe_0_4_1 : w_fi ws (n_v vs 0) 4 = w_fi w1 (n_v vs 0) 4 := by show v_iv (w_fd _ _ _) = v_iv (w_fd _ _ _); rw [s1.2, if_neg (fun e => absurd e.2 (by decide))]
  have fe_0_5_1 : w_fi ws (n_v vs 0) 5 = w_fi w1 (n_v vs 0) 5 := by show v_iv (w_fd _ _ _) = v_iv (w_fd _ _ _); rw [s1.2, if_neg (fun e => absurd e.2 (by decide))]
  have fe_0_7_1 : w_fi ws (n_v vs 0) 7 = w_fi w1 (n_v vs 0) 7 := by show v_iv (w_fd _ _ _) = v_iv (w_fd _ _ _); rw [s1.2, if_neg (fun e => absurd e.2 (by decide))]
  have fe_0_8_1 : w_fi ws (n_v vs 0) 8 = w_fi w1 (n_v vs 0) 8 := by show v_iv (w_fd _ _ _) = v_iv (w_fd _ _ _); rw [s1.2, if_neg (fun e => absurd e.2 (by decide))]
  have fe_0_4_2 : w_fi w1 (n_v vs 0) 4 = w_fi w2 (n_v vs 0) 4 := by show v_iv (w_fd _ _ _) = v_iv (w_fd _ _ _); rw [s2.2, if_neg (fun e => absurd e.2 (by decide))]
  have fe_0_6_2 : w_fi w1 (n_v vs 0) 6 = w_fi w2 (n_v vs 0) 6 := by show v_iv (w_fd _ _ _) = v_iv (w_fd _ _ _); rw [s2.2, if_neg (fun e => absurd e.2 (by decide))]
  have fe_0_7_2 : w_fi w1 (n_v vs 0) 7 = w_fi w2 (n_v vs 0) 7 := by show v_iv (w_fd _ _ _) = v_iv (w_fd _ _ _); rw [s2.2, if_neg (fun e => absurd e.2 (by decide))]
  have fe_0_8_2 : w_fi w1 (n_v vs 0) 8 = w_fi w2 (n_v vs 0) 8 := by show v_iv (w_fd _ _ _) = v_iv (w_fd _ _ _); rw [s2.2, if_neg (fun e => absurd e.2 (by decide))]
  have hE_0_3_1 : ∀ j : Int, w_ei ws (w_ar ws (n_v vs 0) 3) j = w_ei w1 (w_ar ws (n_v vs 0) 3) j := fun j => s1.1 _ _
  have hE_0_3_2 : ∀ j : Int, w_ei w1 (w_ar ws (n_v vs 0) 3) j = w_ei w2 (w_ar ws (n_v vs 0) 3) j := fun j => s2.1 _ _
  have hE_0_3_3 : ∀ j : Int, w_ei w2 (w_ar ws (n_v vs 0) 3) j = w_ei w3 (w_ar ws (n_v vs 0) 3) j := fun j => s3.1 _ _
  have kz_0_4 := fdq_312 hD hth r0
  have kz_0_5 := fdq_28 hD hth r0
  have kz_0_6 := fdq_313 hD hth r0
  have kz_0_7 := fdq_29 hD hth r0
  have kz_0_8 := fdq_314 hD hth r0
  have nf0 : fc_1 PRD (20, [0], [50, 2, 0, 6, 8, 3, 7, 7, 3, 2, 0, 6, 0, 3, 0, 3, 2, 0, 8, 0, 9999]) ws (vs) := ⟨nf_in hl rfl, sgq_1840 (vc_Sy_advance_1_0 (v_iv (n_v vs 5)) (v_iv (n_v vs 10)) (w_fi ws (n_v vs 0) 6) (w_fi ws (n_v vs 0) 5) (w_fi ws (n_v vs 0) 7) (w_fi ws (n_v vs 0) 4) (w_ei w2 (w_ar ws (n_v vs 0) 3)) (w_fi w1 (n_v vs 0) 4) (w_fi w1 (n_v vs 0) 5) (w_fi w1 (n_v vs 0) 7) (w_fi ws (n_v vs 0) 8) (w_fi w1 (n_v vs 0) 8) (w_fi w2 (n_v vs 0) 4) (w_fi w1 (n_v vs 0) 6) (w_fi w2 (n_v vs 0) 6) (w_fi w2 (n_v vs 0) 7) (w_fi w2 (n_v vs 0) 8) (w_ei ws (w_ar ws (n_v vs 0) 3)) (w_ei w1 (w_ar ws (n_v vs 0) 3)) (w_ei w3 (w_ar ws (n_v vs 0) 3)) k5 k10 d1 d2 fe_0_4_1 fe_0_5_1 fe_0_7_1 fe_0_8_1 fe_0_4_2 fe_0_6_2 fe_0_7_2 fe_0_8_2 hE_0_3_1 hE_0_3_2 hE_0_3_3 kz_0_4 kz_0_5 kz_0_6 kz_0_7 kz_0_8)⟩
  refine ⟨(fun _ h => (by cases h)), [], trivial, ?_, (fun _ h => (by cases h))⟩
  rw [List.append_nil]
  exact List.forall_mem_cons.mpr ⟨⟨show (20 : Nat) < 100 from by decide, nf0⟩, (fun _ h => (by cases h))⟩
set_option maxHeartbeats 4000000 in
theorem vc_Sy_advance_2_r0 (x5 : Int) (x10 : Int) (x12 : Int) (begin_0 : Int) (end_0 : Int) (bytes_1 : Int → Int) (end_1 : Int) (begin_1 : Int) (bytes_0 : Int → Int) (bytes_2 : Int → Int) (k5 : 1 ≤ x5 ∧ x5 ≤ 1999) (k10 : 2 ≤ x10 ∧ x10 ≤ 2000) (k12 : 0 ≤ x12 ∧ x12 ≤ 65535) (d1 : x5 + (-4294967296) ≤ x10 ∧ x10 ≤ x5 + 0) (d2 : x5 + 1 ≤ x10 ∧ x10 ≤ x5 + 4294967296) (fe_0_4_1 : end_0 = end_1) (fe_0_7_1 : begin_0 = begin_1) (hE_0_3_1 : ∀ j : Int, bytes_0 j = bytes_1 j) (hE_0_3_2 : ∀ j : Int, bytes_1 j = bytes_2 j) (kz_0_4 : 0 ≤ end_0 ∧ end_0 ≤ 2000) (kz_0_7 : 0 ≤ begin_0 ∧ begin_0 ≤ 2000) : 0 ≤ x12 ∧ x12 ≤ 127 := by
  subst fe_0_4_1
  subst fe_0_7_1
  have e_hE_0_3_1 := funext hE_0_3_1; subst e_hE_0_3_1
  have e_hE_0_3_2 := funext hE_0_3_2; subst e_hE_0_3_2
  first
    | omega
  
def o_Sy_advance_2 : or_T := (283, 13, [(0, (2, 0, 0, [11])), (2, (2, 0, 0, [11])), (3, (0, 1, 1999, [])), (4, (2, 0, 0, [109])), (5, (0, 1, 1999, [])), (6, (0, 1, 47, [])), (8, (0, 0, 0, [])), (9, (0, 1, 1, [])), (10, (0, 2, 2000, [])), (12, (0, 0, 65535, []))], [(9, [10, 2], [5]), (9, [3, 2], [7]), (9, [5, 2], [4]), (9, [4, 2], [3]), (22, [12, 6], []), (8, [6], [4]), (20, [6, 8], [61, 0, 1098]), (24, [0, 2], []), (101, [2, 10], [5]), (1, [10, 3, 9], []), (9, [3, 2], [5]), (8, [8], [0]), (20, [6, 8], [61, 0, 1098]), (10, [6, 4, 3], []), (7, [3, 5], [2]), (101, [2, 3], [7]), (7, [3, 5], [3])], [(12, (0, 0, 127, []))], [], [], [], [(10, 3, 1, 1), (10, 5, -4294967296, 0), (10, 5, 1, 4294967296), (3, 5, -4294967296, -1), (3, 5, 0, 4294967296)])
theorem oo_Sy_advance_2 {kA : Nat → ClassId} : or_ok PRD kA GG o_Sy_advance_2 := by
  refine or_mk fun A ta ws vs hD hth hl => ?_
  intro t0 r0 t2 r2 t3 k3 t4 r4 t5 k5 t6 k6 t8 k8 t9 k9 t10 k10 t12 k12 d0 d1 d2 d3 d4 f0 f1 f2 f3 f4 f5 f6 f7 ta1 w1 le1 s1 f9 f10 f11 f12 f13 f14 ta2 w2 le2 s2 f16
  replace f7 := shm_5 f7
  have s1 : (∀ b j, w_el ws b j = w_el w1 b j) ∧ ∀ b j, w_fd ws b j = if b = v_ad (n_v vs 2) ∧ j = 5 then n_v vs 10 else w_fd w1 b j := s1.2
  have s2 : (∀ b j, w_el w1 b j = w_el w2 b j) ∧ ∀ b j, w_fd w1 b j = if b = v_ad (n_v vs 2) ∧ j = 7 then n_v vs 3 else w_fd w2 b j := s2.2
  have q2 : n_v vs 2 = n_v vs 0 := f7.symm
  rw [q2] at s1
  rw [q2] at s2
  have fe_0_4_1 : w_fi ws (n_v vs 0) 4 = w_fi w1 (n_v vs 0) 4 := by show v_iv (w_fd _ _ _) = v_iv (w_fd _ _ _); rw [s1.2, if_neg (fun e => absurd e.2 (by decide))]
  have fe_0_7_1 : w_fi ws (n_v vs 0) 7 = w_fi w1 (n_v vs 0) 7 := by show v_iv (w_fd _ _ _) = v_iv (w_fd _ _ _); rw [s1.2, if_neg (fun e => absurd e.2 (by decide))]
  have hE_0_3_1 : ∀ j : Int, w_ei ws (w_ar ws (n_v vs 0) 3) j = w_ei w1 (w_ar ws (n_v vs 0) 3) j := fun j => s1.1 _ _
  have hE_0_3_2 : ∀ j : Int, w_ei w1 (w_ar ws (n_v vs 0) 3) j = w_ei w2 (w_ar ws (n_v vs 0) 3) j := fun j => s2.1 _ _
  have kz_0_4 := fdq_312 hD hth r0
  have kz_0_7 := fdq_29 hD hth r0
  have hrf0 : 0 ≤ v_iv (n_v vs 12) ∧ v_iv (n_v vs 12) ≤ 127 := vc_Sy_advance_2_r0 (v_iv (n_v vs 5)) (v_iv (n_v vs 10)) (v_iv (n_v vs 12)) (w_fi ws (n_v vs 0) 7) (w_fi ws (n_v vs 0) 4) (w_ei w1 (w_ar ws (n_v vs 0) 3)) (w_fi w1 (n_v vs 0) 4) (w_fi w1 (n_v vs 0) 7) (w_ei ws (w_ar ws (n_v vs 0) 3)) (w_ei w2 (w_ar ws (n_v vs 0) 3)) k5 k10 k12 d1 d2 fe_0_4_1 fe_0_7_1 hE_0_3_1 hE_0_3_2 kz_0_4 kz_0_7
  have rf12 : tv_ok ta (0, 0, 127, []) (n_v vs 12) := tv_in t12 (by first | omega | grind) (by first | omega | grind)
  refine ⟨List.forall_mem_cons.mpr ⟨rf12, (fun _ h => (by cases h))⟩, [], trivial, ?_, (fun _ h => (by cases h))⟩
  rw [List.append_nil]
  exact (fun _ h => (by cases h))
set_option maxHeartbeats 4000000 in
theorem vc_Sy_advance_3_0 (x5 : Int) (x10 : Int) (kind_0 : Int) (next_0 : Int) (begin_0 : Int) (end_0 : Int) (bytes_2 : Int → Int) (end_1 : Int) (next_1 : Int) (begin_1 : Int) (number_0 : Int) (number_1 : Int) (end_2 : Int) (kind_1 : Int) (kind_2 : Int) (begin_2 : Int) (number_2 : Int) (bytes_0 : Int → Int) (bytes_1 : Int → Int) (bytes_3 : Int → Int) (k5 : 1 ≤ x5 ∧ x5 ≤ 1999) (k10 : 2 ≤ x10 ∧ x10 ≤ 2000) (d1 : x5 + (-4294967296) ≤ x10 ∧ x10 ≤ x5 + 0) (d2 : x5 + 1 ≤ x10 ∧ x10 ≤ x5 + 4294967296) (fe_0_4_1 : end_0 = end_1) (fe_0_5_1 : next_0 = next_1) (fe_0_7_1 : begin_0 = begin_1) (fe_0_8_1 : number_0 = number_1) (fe_0_4_2 : end_1 = end_2) (fe_0_6_2 : kind_1 = kind_2) (fe_0_7_2 : begin_1 = begin_2) (fe_0_8_2 : number_1 = number_2) (hE_0_3_1 : ∀ j : Int, bytes_0 j = bytes_1 j) (hE_0_3_2 : ∀ j : Int, bytes_1 j = bytes_2 j) (hE_0_3_3 : ∀ j : Int, bytes_2 j = bytes_3 j) (kz_0_4 : 0 ≤ end_0 ∧ end_0 ≤ 2000) (kz_0_5 : 0 ≤ next_0 ∧ next_0 ≤ 2000) (kz_0_6 : 0 ≤ kind_0 ∧ kind_0 ≤ 127) (kz_0_7 : 0 ≤ begin_0 ∧ begin_0 ≤ 2000) (kz_0_8 : 0 ≤ number_0 ∧ number_0 ≤ 1000000) : (kind_0 ≠ 3) ∨ (number_0 ≤ 9999) := by
  subst fe_0_4_1
  subst fe_0_5_1
  subst fe_0_7_1
  subst fe_0_8_1
  subst fe_0_4_2
  subst fe_0_6_2
  subst fe_0_7_2
  subst fe_0_8_2
  have e_hE_0_3_1 := funext hE_0_3_1; subst e_hE_0_3_1
  have e_hE_0_3_2 := funext hE_0_3_2; subst e_hE_0_3_2
  have e_hE_0_3_3 := funext hE_0_3_3; subst e_hE_0_3_3
  first
    | omega
  
def o_Sy_advance_3 : or_T := (297, 15, [(0, (2, 0, 0, [11])), (2, (2, 0, 0, [11])), (3, (0, 1, 1999, [])), (4, (2, 0, 0, [109])), (5, (0, 1, 1999, [])), (6, (0, 1, 47, [])), (8, (0, 0, 0, [])), (9, (0, 1, 1, [])), (10, (0, 2, 2000, [])), (12, (0, 0, 127, [])), (13, (0, -1, -1, [])), (14, (0, 1, 1, []))], [(9, [14, 2], [6]), (9, [10, 2], [5]), (9, [3, 2], [7]), (9, [5, 2], [4]), (9, [4, 2], [3]), (20, [13, 12], [50, 0, 0, 3, 6, 0, 2, 1, 0, 0, -1, 0, 2, 0, 33, 1, 1]), (22, [12, 6], []), (20, [6, 8], [61, 0, 1098]), (24, [0, 2], []), (101, [2, 14], [6]), (8, [13], [2]), (20, [13, 12], [50, 0, 0, 3, 6, 0, 2, 1, 0, 0, -1, 0, 2, 0, 33, 1, 1]), (22, [12, 6], []), (8, [6], [4]), (20, [6, 8], [61, 0, 1098]), (101, [2, 10], [5]), (1, [10, 3, 9], []), (9, [3, 2], [5]), (8, [8], [0]), (20, [6, 8], [61, 0, 1098]), (10, [6, 4, 3], []), (7, [3, 5], [2]), (101, [2, 3], [7]), (7, [3, 5], [3])], [], [], [(20, [0], [50, 2, 0, 6, 8, 3, 7, 7, 3, 2, 0, 6, 0, 3, 0, 3, 2, 0, 8, 0, 9999])], [], [(10, 3, 1, 1), (10, 5, -4294967296, 0), (10, 5, 1, 4294967296), (3, 5, -4294967296, -1), (3, 5, 0, 4294967296)])
theorem oo_Sy_advance_3 {kA : Nat → ClassId} : or_ok PRD kA GG o_Sy_advance_3 := by
  refine or_mk fun A ta ws vs hD hth hl => ?_
  intro t0 r0 t2 r2 t3 k3 t4 r4 t5 k5 t6 k6 t8 k8 t9 k9 t10 k10 t12 k12 t13 k13 t14 k14 d0 d1 d2 d3 d4 f0 f1 f2 f3 f4 f5 f6 f7 f8 ta1 w1 le1 s1 f10 f11 f12 f13 f14 ta2 w2 le2 s2 f16 f17 f18 f19 f20 f21 ta3 w3 le3 s3 f23
  replace f8 := shm_5 f8
  have s1 : (∀ b j, w_el ws b j = w_el w1 b j) ∧ ∀ b j, w_fd ws b j = if b = v_ad (n_v vs 2) ∧ j = 6 then n_v vs 14 else w_fd w1 b j := s1.2
  have s2 : (∀ b j, w_el w1 b j = w_el w2 b j) ∧ ∀ b j, w_fd w1 b j = if b = v_ad (n_v vs 2) ∧ j = 5 then n_v vs 10 else w_fd w2 b j := s2.2
  have s3 : (∀ b j, w_el w2 b j = w_el w3 b j) ∧ ∀ b j, w_fd w2 b j = if b = v_ad (n_v vs 2) ∧ j = 7 then n_v vs 3 else w_fd w3 b j := s3.2
  have q2 : n_v vs 2 = n_v vs 0 := f8.symm
  rw [q2] at s1
  rw [q2] at s2
  rw [q2] at s3
  have fe_0_4_1 : w_fi ws (n_v vs 0) 4 = w_fi w1 (n_v vs 0) 4 := by show v_iv (w_fd _ _ _) = v_iv (w_fd _ _ _); rw [s1.2, if_neg (fun e => absurd e.2 (by decide))]
  have fe_0_5_1 : w_fi ws (n_v vs 0) 5 = w_fi w1 (n_v vs 0) 5 := by show v_iv (w_fd _ _ _) = v_iv (w_fd _ _ _); rw [s1.2, if_neg (fun e => absurd e.2 (by decide))]
  have fe_0_7_1 : w_fi ws (n_v vs 0) 7 = w_fi w1 (n_v vs 0) 7 := by show v_iv (w_fd _ _ _) = v_iv (w_fd _ _ _); rw [s1.2, if_neg (fun e => absurd e.2 (by decide))]
  have fe_0_8_1 : w_fi ws (n_v vs 0) 8 = w_fi w1 (n_v vs 0) 8 := by show v_iv (w_fd _ _ _) = v_iv (w_fd _ _ _); rw [s1.2, if_neg (fun e => absurd e.2 (by decide))]
  have fe_0_4_2 : w_fi w1 (n_v vs 0) 4 = w_fi w2 (n_v vs 0) 4 := by show v_iv (w_fd _ _ _) = v_iv (w_fd _ _ _); rw [s2.2, if_neg (fun e => absurd e.2 (by decide))]
  have fe_0_6_2 : w_fi w1 (n_v vs 0) 6 = w_fi w2 (n_v vs 0) 6 := by show v_iv (w_fd _ _ _) = v_iv (w_fd _ _ _); rw [s2.2, if_neg (fun e => absurd e.2 (by decide))]
  have fe_0_7_2 : w_fi w1 (n_v vs 0) 7 = w_fi w2 (n_v vs 0) 7 := by show v_iv (w_fd _ _ _) = v_iv (w_fd _ _ _); rw [s2.2, if_neg (fun e => absurd e.2 (by decide))]
  have fe_0_8_2 : w_fi w1 (n_v vs 0) 8 = w_fi w2 (n_v vs 0) 8 := by show v_iv (w_fd _ _ _) = v_iv (w_fd _ _ _); rw [s2.2, if_neg (fun e => absurd e.2 (by decide))]
  have hE_0_3_1 : ∀ j : Int, w_ei ws (w_ar ws (n_v vs 0) 3) j = w_ei w1 (w_ar ws (n_v vs 0) 3) j := fun j => s1.1 _ _
  have hE_0_3_2 : ∀ j : Int, w_ei w1 (w_ar ws (n_v vs 0) 3) j = w_ei w2 (w_ar ws (n_v vs 0) 3) j := fun j => s2.1 _ _
  have hE_0_3_3 : ∀ j : Int, w_ei w2 (w_ar ws (n_v vs 0) 3) j = w_ei w3 (w_ar ws (n_v vs 0) 3) j := fun j => s3.1 _ _
  have kz_0_4 := fdq_312 hD hth r0
  have kz_0_5 := fdq_28 hD hth r0
  have kz_0_6 := fdq_313 hD hth r0
  have kz_0_7 := fdq_29 hD hth r0
  have kz_0_8 := fdq_314 hD hth r0
  have nf0 : fc_1 PRD (20, [0], [50, 2, 0, 6, 8, 3, 7, 7, 3, 2, 0, 6, 0, 3, 0, 3, 2, 0, 8, 0, 9999]) ws (vs) := ⟨nf_in hl rfl, sgq_1840 (vc_Sy_advance_3_0 (v_iv (n_v vs 5)) (v_iv (n_v vs 10)) (w_fi ws (n_v vs 0) 6) (w_fi ws (n_v vs 0) 5) (w_fi ws (n_v vs 0) 7) (w_fi ws (n_v vs 0) 4) (w_ei w2 (w_ar ws (n_v vs 0) 3)) (w_fi w1 (n_v vs 0) 4) (w_fi w1 (n_v vs 0) 5) (w_fi w1 (n_v vs 0) 7) (w_fi ws (n_v vs 0) 8) (w_fi w1 (n_v vs 0) 8) (w_fi w2 (n_v vs 0) 4) (w_fi w1 (n_v vs 0) 6) (w_fi w2 (n_v vs 0) 6) (w_fi w2 (n_v vs 0) 7) (w_fi w2 (n_v vs 0) 8) (w_ei ws (w_ar ws (n_v vs 0) 3)) (w_ei w1 (w_ar ws (n_v vs 0) 3)) (w_ei w3 (w_ar ws (n_v vs 0) 3)) k5 k10 d1 d2 fe_0_4_1 fe_0_5_1 fe_0_7_1 fe_0_8_1 fe_0_4_2 fe_0_6_2 fe_0_7_2 fe_0_8_2 hE_0_3_1 hE_0_3_2 hE_0_3_3 kz_0_4 kz_0_5 kz_0_6 kz_0_7 kz_0_8)⟩
  refine ⟨(fun _ h => (by cases h)), [], trivial, ?_, (fun _ h => (by cases h))⟩
  rw [List.append_nil]
  exact List.forall_mem_cons.mpr ⟨⟨show (20 : Nat) < 100 from by decide, nf0⟩, (fun _ h => (by cases h))⟩
set_option maxHeartbeats 4000000 in
theorem vc_Sy_advance_4_0 (x5 : Int) (x10 : Int) (kind_0 : Int) (next_0 : Int) (begin_0 : Int) (end_0 : Int) (bytes_2 : Int → Int) (end_1 : Int) (next_1 : Int) (begin_1 : Int) (number_0 : Int) (number_1 : Int) (end_2 : Int) (kind_1 : Int) (kind_2 : Int) (begin_2 : Int) (number_2 : Int) (bytes_0 : Int → Int) (bytes_1 : Int → Int) (bytes_3 : Int → Int) (k5 : 1 ≤ x5 ∧ x5 ≤ 1999) (k10 : 2 ≤ x10 ∧ x10 ≤ 2000) (d1 : x5 + (-4294967296) ≤ x10 ∧ x10 ≤ x5 + 0) (d2 : x5 + 1 ≤ x10 ∧ x10 ≤ x5 + 4294967296) (fe_0_4_1 : end_0 = end_1) (fe_0_5_1 : next_0 = next_1) (fe_0_7_1 : begin_0 = begin_1) (fe_0_8_1 : number_0 = number_1) (fe_0_4_2 : end_1 = end_2) (fe_0_6_2 : kind_1 = kind_2) (fe_0_7_2 : begin_1 = begin_2) (fe_0_8_2 : number_1 = number_2) (hE_0_3_1 : ∀ j : Int, bytes_0 j = bytes_1 j) (hE_0_3_2 : ∀ j : Int, bytes_1 j = bytes_2 j) (hE_0_3_3 : ∀ j : Int, bytes_2 j = bytes_3 j) (kz_0_4 : 0 ≤ end_0 ∧ end_0 ≤ 2000) (kz_0_5 : 0 ≤ next_0 ∧ next_0 ≤ 2000) (kz_0_6 : 0 ≤ kind_0 ∧ kind_0 ≤ 127) (kz_0_7 : 0 ≤ begin_0 ∧ begin_0 ≤ 2000) (kz_0_8 : 0 ≤ number_0 ∧ number_0 ≤ 1000000) : (kind_0 ≠ 3) ∨ (number_0 ≤ 9999) := by
  subst fe_0_4_1
  subst fe_0_5_1
  subst fe_0_7_1
  subst fe_0_8_1
  subst fe_0_4_2
  subst fe_0_6_2
  subst fe_0_7_2
  subst fe_0_8_2
  have e_hE_0_3_1 := funext hE_0_3_1; subst e_hE_0_3_1
  have e_hE_0_3_2 := funext hE_0_3_2; subst e_hE_0_3_2
  have e_hE_0_3_3 := funext hE_0_3_3; subst e_hE_0_3_3
  first
    | omega
  
def o_Sy_advance_4 : or_T := (297, 14, [(0, (2, 0, 0, [11])), (2, (2, 0, 0, [11])), (3, (0, 1, 1999, [])), (4, (2, 0, 0, [109])), (5, (0, 1, 1999, [])), (6, (0, 1, 47, [])), (8, (0, 0, 0, [])), (9, (0, 1, 1, [])), (10, (0, 2, 2000, [])), (12, (0, 0, 127, [])), (13, (0, 0, 13, []))], [(9, [6, 2], [6]), (9, [10, 2], [5]), (9, [3, 2], [7]), (9, [5, 2], [4]), (9, [4, 2], [3]), (20, [13, 12], [50, 0, 0, 3, 6, 0, 2, 1, 0, 0, -1, 0, 2, 0, 33, 1, 1]), (22, [12, 6], []), (20, [6, 8], [61, 0, 1098]), (24, [0, 2], []), (101, [2, 6], [6]), (8, [13], [3]), (20, [13, 12], [50, 0, 0, 3, 6, 0, 2, 1, 0, 0, -1, 0, 2, 0, 33, 1, 1]), (22, [12, 6], []), (8, [6], [4]), (20, [6, 8], [61, 0, 1098]), (101, [2, 10], [5]), (1, [10, 3, 9], []), (9, [3, 2], [5]), (8, [8], [0]), (20, [6, 8], [61, 0, 1098]), (10, [6, 4, 3], []), (7, [3, 5], [2]), (101, [2, 3], [7]), (7, [3, 5], [3])], [], [], [(20, [0], [50, 2, 0, 6, 8, 3, 7, 7, 3, 2, 0, 6, 0, 3, 0, 3, 2, 0, 8, 0, 9999])], [], [(10, 3, 1, 1), (10, 5, -4294967296, 0), (10, 5, 1, 4294967296), (3, 5, -4294967296, -1), (3, 5, 0, 4294967296)])
theorem oo_Sy_advance_4 {kA : Nat → ClassId} : or_ok PRD kA GG o_Sy_advance_4 := by
  refine or_mk fun A ta ws vs hD hth hl => ?_
  intro t0 r0 t2 r2 t3 k3 t4 r4 t5 k5 t6 k6 t8 k8 t9 k9 t10 k10 t12 k12 t13 k13 d0 d1 d2 d3 d4 f0 f1 f2 f3 f4 f5 f6 f7 f8 ta1 w1 le1 s1 f10 f11 f12 f13 f14 ta2 w2 le2 s2 f16 f17 f18 f19 f20 f21 ta3 w3 le3 s3 f23
  replace f8 := shm_5 f8
  have s1 : (∀ b j, w_el ws b j = w_el w1 b j) ∧ ∀ b j, w_fd ws b j = if b = v_ad (n_v vs 2) ∧ j = 6 then n_v vs 6 else w_fd w1 b j := s1.2
  have s2 : (∀ b j, w_el w1 b j = w_el w2 b j) ∧ ∀ b j, w_fd w1 b j = if b = v_ad (n_v vs 2) ∧ j = 5 then n_v vs 10 else w_fd w2 b j := s2.2
  have s3 : (∀ b j, w_el w2 b j = w_el w3 b j) ∧ ∀ b j, w_fd w2 b j = if b = v_ad (n_v vs 2) ∧ j = 7 then n_v vs 3 else w_fd w3 b j := s3.2
  have q2 : n_v vs 2 = n_v vs 0 := f8.symm
  rw [q2] at s1
  rw [q2] at s2
  rw [q2] at s3
  have fe_0_4_1 : w_fi ws (n_v vs 0) 4 = w_fi w1 (n_v vs 0) 4 := by show v_iv (w_fd _ _ _) = v_iv (w_fd _ _ _); rw [s1.2, if_neg (fun e => absurd e.2 (by decide))]
  have fe_0_5_1 : w_fi ws (n_v vs 0) 5 = w_fi w1 (n_v vs 0) 5 := by show v_iv (w_fd _ _ _) = v_iv (w_fd _ _ _); rw [s1.2, if_neg (fun e => absurd e.2 (by decide))]
  have fe_0_7_1 : w_fi ws (n_v vs 0) 7 = w_fi w1 (n_v vs 0) 7 := by show v_iv (w_fd _ _ _) = v_iv (w_fd _ _ _); rw [s1.2, if_neg (fun e => absurd e.2 (by decide))]
  have fe_0_8_1 : w_fi ws (n_v vs 0) 8 = w_fi w1 (n_v vs 0) 8 := by show v_iv (w_fd _ _ _) = v_iv (w_fd _ _ _); rw [s1.2, if_neg (fun e => absurd e.2 (by decide))]
  have fe_0_4_2 : w_fi w1 (n_v vs 0) 4 = w_fi w2 (n_v vs 0) 4 := by show v_iv (w_fd _ _ _) = v_iv (w_fd _ _ _); rw [s2.2, if_neg (fun e => absurd e.2 (by decide))]
  have fe_0_6_2 : w_fi w1 (n_v vs 0) 6 = w_fi w2 (n_v vs 0) 6 := by show v_iv (w_fd _ _ _) = v_iv (w_fd _ _ _); rw [s2.2, if_neg (fun e => absurd e.2 (by decide))]
  have fe_0_7_2 : w_fi w1 (n_v vs 0) 7 = w_fi w2 (n_v vs 0) 7 := by show v_iv (w_fd _ _ _) = v_iv (w_fd _ _ _); rw [s2.2, if_neg (fun e => absurd e.2 (by decide))]
  have fe_0_8_2 : w_fi w1 (n_v vs 0) 8 = w_fi w2 (n_v vs 0) 8 := by show v_iv (w_fd _ _ _) = v_iv (w_fd _ _ _); rw [s2.2, if_neg (fun e => absurd e.2 (by decide))]
  have hE_0_3_1 : ∀ j : Int, w_ei ws (w_ar ws (n_v vs 0) 3) j = w_ei w1 (w_ar ws (n_v vs 0) 3) j := fun j => s1.1 _ _
  have hE_0_3_2 : ∀ j : Int, w_ei w1 (w_ar ws (n_v vs 0) 3) j = w_ei w2 (w_ar ws (n_v vs 0) 3) j := fun j => s2.1 _ _
  have hE_0_3_3 : ∀ j : Int, w_ei w2 (w_ar ws (n_v vs 0) 3) j = w_ei w3 (w_ar ws (n_v vs 0) 3) j := fun j => s3.1 _ _
  have kz_0_4 := fdq_312 hD hth r0
  have kz_0_5 := fdq_28 hD hth r0
  have kz_0_6 := fdq_313 hD hth r0
  have kz_0_7 := fdq_29 hD hth r0
  have kz_0_8 := fdq_314 hD hth r0
  have nf0 : fc_1 PRD (20, [0], [50, 2, 0, 6, 8, 3, 7, 7, 3, 2, 0, 6, 0, 3, 0, 3, 2, 0, 8, 0, 9999]) ws (vs) := ⟨nf_in hl rfl, sgq_1840 (vc_Sy_advance_4_0 (v_iv (n_v vs 5)) (v_iv (n_v vs 10)) (w_fi ws (n_v vs 0) 6) (w_fi ws (n_v vs 0) 5) (w_fi ws (n_v vs 0) 7) (w_fi ws (n_v vs 0) 4) (w_ei w2 (w_ar ws (n_v vs 0) 3)) (w_fi w1 (n_v vs 0) 4) (w_fi w1 (n_v vs 0) 5) (w_fi w1 (n_v vs 0) 7) (w_fi ws (n_v vs 0) 8) (w_fi w1 (n_v vs 0) 8) (w_fi w2 (n_v vs 0) 4) (w_fi w1 (n_v vs 0) 6) (w_fi w2 (n_v vs 0) 6) (w_fi w2 (n_v vs 0) 7) (w_fi w2 (n_v vs 0) 8) (w_ei ws (w_ar ws (n_v vs 0) 3)) (w_ei w1 (w_ar ws (n_v vs 0) 3)) (w_ei w3 (w_ar ws (n_v vs 0) 3)) k5 k10 d1 d2 fe_0_4_1 fe_0_5_1 fe_0_7_1 fe_0_8_1 fe_0_4_2 fe_0_6_2 fe_0_7_2 fe_0_8_2 hE_0_3_1 hE_0_3_2 hE_0_3_3 kz_0_4 kz_0_5 kz_0_6 kz_0_7 kz_0_8)⟩
  refine ⟨(fun _ h => (by cases h)), [], trivial, ?_, (fun _ h => (by cases h))⟩
  rw [List.append_nil]
  exact List.forall_mem_cons.mpr ⟨⟨show (20 : Nat) < 100 from by decide, nf0⟩, (fun _ h => (by cases h))⟩
set_option maxHeartbeats 4000000 in
theorem vc_Sy_advance_5_r0 (x5 : Int) (x10 : Int) (x12 : Int) (begin_0 : Int) (end_0 : Int) (bytes_1 : Int → Int) (end_1 : Int) (begin_1 : Int) (bytes_0 : Int → Int) (bytes_2 : Int → Int) (k5 : 1 ≤ x5 ∧ x5 ≤ 1999) (k10 : 2 ≤ x10 ∧ x10 ≤ 2000) (k12 : 0 ≤ x12 ∧ x12 ≤ 65535) (d1 : x5 + (-4294967296) ≤ x10 ∧ x10 ≤ x5 + 0) (d2 : x5 + 1 ≤ x10 ∧ x10 ≤ x5 + 4294967296) (fe_0_4_1 : end_0 = end_1) (fe_0_7_1 : begin_0 = begin_1) (hE_0_3_1 : ∀ j : Int, bytes_0 j = bytes_1 j) (hE_0_3_2 : ∀ j : Int, bytes_1 j = bytes_2 j) (kz_0_4 : 0 ≤ end_0 ∧ end_0 ≤ 2000) (kz_0_7 : 0 ≤ begin_0 ∧ begin_0 ≤ 2000) : 0 ≤ x12 ∧ x12 ≤ 127 := by
  subst fe_0_4_1
  subst fe_0_7_1
  have e_hE_0_3_1 := funext hE_0_3_1; subst e_hE_0_3_1
  have e_hE_0_3_2 := funext hE_0_3_2; subst e_hE_0_3_2
  first
    | omega
  
def o_Sy_advance_5 : or_T := (283, 13, [(0, (2, 0, 0, [11])), (2, (2, 0, 0, [11])), (3, (0, 1, 1999, [])), (4, (2, 0, 0, [109])), (5, (0, 1, 1999, [])), (6, (0, 58, 96, [])), (8, (0, 0, 0, [])), (9, (0, 1, 1, [])), (10, (0, 2, 2000, [])), (12, (0, 0, 65535, []))], [(9, [10, 2], [5]), (9, [3, 2], [7]), (9, [5, 2], [4]), (9, [4, 2], [3]), (22, [12, 6], []), (8, [6], [4]), (20, [6, 8], [61, 0, 1098]), (24, [0, 2], []), (101, [2, 10], [5]), (1, [10, 3, 9], []), (9, [3, 2], [5]), (8, [8], [0]), (20, [6, 8], [61, 0, 1098]), (10, [6, 4, 3], []), (7, [3, 5], [2]), (101, [2, 3], [7]), (7, [3, 5], [3])], [(12, (0, 0, 127, []))], [], [], [], [(10, 3, 1, 1), (10, 5, -4294967296, 0), (10, 5, 1, 4294967296), (3, 5, -4294967296, -1), (3, 5, 0, 4294967296)])
theorem oo_Sy_advance_5 {kA : Nat → ClassId} : or_ok PRD kA GG o_Sy_advance_5 := by
  refine or_mk fun A ta ws vs hD hth hl => ?_
  intro t0 r0 t2 r2 t3 k3 t4 r4 t5 k5 t6 k6 t8 k8 t9 k9 t10 k10 t12 k12 d0 d1 d2 d3 d4 f0 f1 f2 f3 f4 f5 f6 f7 ta1 w1 le1 s1 f9 f10 f11 f12 f13 f14 ta2 w2 le2 s2 f16
  replace f7 := shm_5 f7
  have s1 : (∀ b j, w_el ws b j = w_el w1 b j) ∧ ∀ b j, w_fd ws b j = if b = v_ad (n_v vs 2) ∧ j = 5 then n_v vs 10 else w_fd w1 b j := s1.2
  have s2 : (∀ b j, w_el w1 b j = w_el w2 b j) ∧ ∀ b j, w_fd w1 b j = if b = v_ad (n_v vs 2) ∧ j = 7 then n_v vs 3 else w_fd w2 b j := s2.2
  have q2 : n_v vs 2 = n_v vs 0 := f7.symm
  rw [q2] at s1
  rw [q2] at s2
  have fe_0_4_1 : w_fi ws (n_v vs 0) 4 = w_fi w1 (n_v vs 0) 4 := by show v_iv (w_fd _ _ _) = v_iv (w_fd _ _ _); rw [s1.2, if_neg (fun e => absurd e.2 (by decide))]
  have fe_0_7_1 : w_fi ws (n_v vs 0) 7 = w_fi w1 (n_v vs 0) 7 := by show v_iv (w_fd _ _ _) = v_iv (w_fd _ _ _); rw [s1.2, if_neg (fun e => absurd e.2 (by decide))]
  have hE_0_3_1 : ∀ j : Int, w_ei ws (w_ar ws (n_v vs 0) 3) j = w_ei w1 (w_ar ws (n_v vs 0) 3) j := fun j => s1.1 _ _
  have hE_0_3_2 : ∀ j : Int, w_ei w1 (w_ar ws (n_v vs 0) 3) j = w_ei w2 (w_ar ws (n_v vs 0) 3) j := fun j => s2.1 _ _
  have kz_0_4 := fdq_312 hD hth r0
  have kz_0_7 := fdq_29 hD hth r0
  have hrf0 : 0 ≤ v_iv (n_v vs 12) ∧ v_iv (n_v vs 12) ≤ 127 := vc_Sy_advance_5_r0 (v_iv (n_v vs 5)) (v_iv (n_v vs 10)) (v_iv (n_v vs 12)) (w_fi ws (n_v vs 0) 7) (w_fi ws (n_v vs 0) 4) (w_ei w1 (w_ar ws (n_v vs 0) 3)) (w_fi w1 (n_v vs 0) 4) (w_fi w1 (n_v vs 0) 7) (w_ei ws (w_ar ws (n_v vs 0) 3)) (w_ei w2 (w_ar ws (n_v vs 0) 3)) k5 k10 k12 d1 d2 fe_0_4_1 fe_0_7_1 hE_0_3_1 hE_0_3_2 kz_0_4 kz_0_7
  have rf12 : tv_ok ta (0, 0, 127, []) (n_v vs 12) := tv_in t12 (by first | omega | grind) (by first | omega | grind)
  refine ⟨List.forall_mem_cons.mpr ⟨rf12, (fun _ h => (by cases h))⟩, [], trivial, ?_, (fun _ h => (by cases h))⟩
  rw [List.append_nil]
  exact (fun _ h => (by cases h))
set_option maxHeartbeats 4000000 in
theorem vc_Sy_advance_6_0 (x5 : Int) (x10 : Int) (kind_0 : Int) (next_0 : Int) (begin_0 : Int) (end_0 : Int) (bytes_2 : Int → Int) (end_1 : Int) (next_1 : Int) (begin_1 : Int) (number_0 : Int) (number_1 : Int) (end_2 : Int) (kind_1 : Int) (kind_2 : Int) (begin_2 : Int) (number_2 : Int) (bytes_0 : Int → Int) (bytes_1 : Int → Int) (bytes_3 : Int → Int) (k5 : 1 ≤ x5 ∧ x5 ≤ 1999) (k10 : 2 ≤ x10 ∧ x10 ≤ 2000) (d1 : x5 + (-4294967296) ≤ x10 ∧ x10 ≤ x5 + 0) (d2 : x5 + 1 ≤ x10 ∧ x10 ≤ x5 + 4294967296) (fe_0_4_1 : end_0 = end_1) (fe_0_5_1 : next_0 = next_1) (fe_0_7_1 : begin_0 = begin_1) (fe_0_8_1 : number_0 = number_1) (fe_0_4_2 : end_1 = end_2) (fe_0_6_2 : kind_1 = kind_2) (fe_0_7_2 : begin_1 = begin_2) (fe_0_8_2 : number_1 = number_2) (hE_0_3_1 : ∀ j : Int, bytes_0 j = bytes_1 j) (hE_0_3_2 : ∀ j : Int, bytes_1 j = bytes_2 j) (hE_0_3_3 : ∀ j : Int, bytes_2 j = bytes_3 j) (kz_0_4 : 0 ≤ end_0 ∧ end_0 ≤ 2000) (kz_0_5 : 0 ≤ next_0 ∧ next_0 ≤ 2000) (kz_0_6 : 0 ≤ kind_0 ∧ kind_0 ≤ 127) (kz_0_7 : 0 ≤ begin_0 ∧ begin_0 ≤ 2000) (kz_0_8 : 0 ≤ number_0 ∧ number_0 ≤ 1000000) : (kind_0 ≠ 3) ∨ (number_0 ≤ 9999) := by
  subst fe_0_4_1
  subst fe_0_5_1
  subst fe_0_7_1
  subst fe_0_8_1
  subst fe_0_4_2
  subst fe_0_6_2
  subst fe_0_7_2
  subst fe_0_8_2
  have e_hE_0_3_1 := funext hE_0_3_1; subst e_hE_0_3_1
  have e_hE_0_3_2 := funext hE_0_3_2; subst e_hE_0_3_2
  have e_hE_0_3_3 := funext hE_0_3_3; subst e_hE_0_3_3
  first
    | omega
  
def o_Sy_advance_6 : or_T := (297, 15, [(0, (2, 0, 0, [11])), (2, (2, 0, 0, [11])), (3, (0, 1, 1999, [])), (4, (2, 0, 0, [109])), (5, (0, 1, 1999, [])), (6, (0, 58, 96, [])), (8, (0, 0, 0, [])), (9, (0, 1, 1, [])), (10, (0, 2, 2000, [])), (12, (0, 0, 127, [])), (13, (0, -1, -1, [])), (14, (0, 1, 1, []))], [(9, [14, 2], [6]), (9, [10, 2], [5]), (9, [3, 2], [7]), (9, [5, 2], [4]), (9, [4, 2], [3]), (20, [13, 12], [50, 0, 0, 3, 6, 0, 2, 1, 0, 0, -1, 0, 2, 0, 33, 1, 1]), (22, [12, 6], []), (20, [6, 8], [61, 0, 1098]), (24, [0, 2], []), (101, [2, 14], [6]), (8, [13], [2]), (20, [13, 12], [50, 0, 0, 3, 6, 0, 2, 1, 0, 0, -1, 0, 2, 0, 33, 1, 1]), (22, [12, 6], []), (8, [6], [4]), (20, [6, 8], [61, 0, 1098]), (101, [2, 10], [5]), (1, [10, 3, 9], []), (9, [3, 2], [5]), (8, [8], [0]), (20, [6, 8], [61, 0, 1098]), (10, [6, 4, 3], []), (7, [3, 5], [2]), (101, [2, 3], [7]), (7, [3, 5], [3])], [], [], [(20, [0], [50, 2, 0, 6, 8, 3, 7, 7, 3, 2, 0, 6, 0, 3, 0, 3, 2, 0, 8, 0, 9999])], [], [(10, 3, 1, 1), (10, 5, -4294967296, 0), (10, 5, 1, 4294967296), (3, 5, -4294967296, -1), (3, 5, 0, 4294967296)])
theorem oo_Sy_advance_6 {kA : Nat → ClassId} : or_ok PRD kA GG o_Sy_advance_6 := by
  refine or_mk fun A ta ws vs hD hth hl => ?_
  intro t0 r0 t2 r2 t3 k3 t4 r4 t5 k5 t6 k6 t8 k8 t9 k9 t10 k10 t12 k12 t13 k13 t14 k14 d0 d1 d2 d3 d4 f0 f1 f2 f3 f4 f5 f6 f7 f8 ta1 w1 le1 s1 f10 f11 f12 f13 f14 ta2 w2 le2 s2 f16 f17 f18 f19 f20 f21 ta3 w3 le3 s3 f23
  replace f8 := shm_5 f8
  have s1 : (∀ b j, w_el ws b j = w_el w1 b j) ∧ ∀ b j, w_fd ws b j = if b = v_ad (n_v vs 2) ∧ j = 6 then n_v vs 14 else w_fd w1 b j := s1.2
  have s2 : (∀ b j, w_el w1 b j = w_el w2 b j) ∧ ∀ b j, w_fd w1 b j = if b = v_ad (n_v vs 2) ∧ j = 5 then n_v vs 10 else w_fd w2 b j := s2.2
  have s3 : (∀ b j, w_el w2 b j = w_el w3 b j) ∧ ∀ b j, w_fd w2 b j = if b = v_ad (n_v vs 2) ∧ j = 7 then n_v vs 3 else w_fd w3 b j := s3.2
  have q2 : n_v vs 2 = n_v vs 0 := f8.symm
  rw [q2] at s1
  rw [q2] at s2
  rw [q2] at s3
  have fe_0_4_1 : w_fi ws (n_v vs 0) 4 = w_fi w1 (n_v vs 0) 4 := by show v_iv (w_fd _ _ _) = v_iv (w_fd _ _ _); rw [s1.2, if_neg (fun e => absurd e.2 (by decide))]
  have fe_0_5_1 : w_fi ws (n_v vs 0) 5 = w_fi w1 (n_v vs 0) 5 := by show v_iv (w_fd _ _ _) = v_iv (w_fd _ _ _); rw [s1.2, if_neg (fun e => absurd e.2 (by decide))]
  have fe_0_7_1 : w_fi ws (n_v vs 0) 7 = w_fi w1 (n_v vs 0) 7 := by show v_iv (w_fd _ _ _) = v_iv (w_fd _ _ _); rw [s1.2, if_neg (fun e => absurd e.2 (by decide))]
  have fe_0_8_1 : w_fi ws (n_v vs 0) 8 = w_fi w1 (n_v vs 0) 8 := by show v_iv (w_fd _ _ _) = v_iv (w_fd _ _ _); rw [s1.2, if_neg (fun e => absurd e.2 (by decide))]
  have fe_0_4_2 : w_fi w1 (n_v vs 0) 4 = w_fi w2 (n_v vs 0) 4 := by show v_iv (w_fd _ _ _) = v_iv (w_fd _ _ _); rw [s2.2, if_neg (fun e => absurd e.2 (by decide))]
  have fe_0_6_2 : w_fi w1 (n_v vs 0) 6 = w_fi w2 (n_v vs 0) 6 := by show v_iv (w_fd _ _ _) = v_iv (w_fd _ _ _); rw [s2.2, if_neg (fun e => absurd e.2 (by decide))]
  have fe_0_7_2 : w_fi w1 (n_v vs 0) 7 = w_fi w2 (n_v vs 0) 7 := by show v_iv (w_fd _ _ _) = v_iv (w_fd _ _ _); rw [s2.2, if_neg (fun e => absurd e.2 (by decide))]
  have fe_0_8_2 : w_fi w1 (n_v vs 0) 8 = w_fi w2 (n_v vs 0) 8 := by show v_iv (w_fd _ _ _) = v_iv (w_fd _ _ _); rw [s2.2, if_neg (fun e => absurd e.2 (by decide))]
  have hE_0_3_1 : ∀ j : Int, w_ei ws (w_ar ws (n_v vs 0) 3) j = w_ei w1 (w_ar ws (n_v vs 0) 3) j := fun j => s1.1 _ _
  have hE_0_3_2 : ∀ j : Int, w_ei w1 (w_ar ws (n_v vs 0) 3) j = w_ei w2 (w_ar ws (n_v vs 0) 3) j := fun j => s2.1 _ _
  have hE_0_3_3 : ∀ j : Int, w_ei w2 (w_ar ws (n_v vs 0) 3) j = w_ei w3 (w_ar ws (n_v vs 0) 3) j := fun j => s3.1 _ _
  have kz_0_4 := fdq_312 hD hth r0
  have kz_0_5 := fdq_28 hD hth r0
  have kz_0_6 := fdq_313 hD hth r0
  have kz_0_7 := fdq_29 hD hth r0
  have kz_0_8 := fdq_314 hD hth r0
  have nf0 : fc_1 PRD (20, [0], [50, 2, 0, 6, 8, 3, 7, 7, 3, 2, 0, 6, 0, 3, 0, 3, 2, 0, 8, 0, 9999]) ws (vs) := ⟨nf_in hl rfl, sgq_1840 (vc_Sy_advance_6_0 (v_iv (n_v vs 5)) (v_iv (n_v vs 10)) (w_fi ws (n_v vs 0) 6) (w_fi ws (n_v vs 0) 5) (w_fi ws (n_v vs 0) 7) (w_fi ws (n_v vs 0) 4) (w_ei w2 (w_ar ws (n_v vs 0) 3)) (w_fi w1 (n_v vs 0) 4) (w_fi w1 (n_v vs 0) 5) (w_fi w1 (n_v vs 0) 7) (w_fi ws (n_v vs 0) 8) (w_fi w1 (n_v vs 0) 8) (w_fi w2 (n_v vs 0) 4) (w_fi w1 (n_v vs 0) 6) (w_fi w2 (n_v vs 0) 6) (w_fi w2 (n_v vs 0) 7) (w_fi w2 (n_v vs 0) 8) (w_ei ws (w_ar ws (n_v vs 0) 3)) (w_ei w1 (w_ar ws (n_v vs 0) 3)) (w_ei w3 (w_ar ws (n_v vs 0) 3)) k5 k10 d1 d2 fe_0_4_1 fe_0_5_1 fe_0_7_1 fe_0_8_1 fe_0_4_2 fe_0_6_2 fe_0_7_2 fe_0_8_2 hE_0_3_1 hE_0_3_2 hE_0_3_3 kz_0_4 kz_0_5 kz_0_6 kz_0_7 kz_0_8)⟩
  refine ⟨(fun _ h => (by cases h)), [], trivial, ?_, (fun _ h => (by cases h))⟩
  rw [List.append_nil]
  exact List.forall_mem_cons.mpr ⟨⟨show (20 : Nat) < 100 from by decide, nf0⟩, (fun _ h => (by cases h))⟩
set_option maxHeartbeats 4000000 in
theorem vc_Sy_advance_7_0 (x5 : Int) (x10 : Int) (kind_0 : Int) (next_0 : Int) (begin_0 : Int) (end_0 : Int) (bytes_2 : Int → Int) (end_1 : Int) (next_1 : Int) (begin_1 : Int) (number_0 : Int) (number_1 : Int) (end_2 : Int) (kind_1 : Int) (kind_2 : Int) (begin_2 : Int) (number_2 : Int) (bytes_0 : Int → Int) (bytes_1 : Int → Int) (bytes_3 : Int → Int) (k5 : 1 ≤ x5 ∧ x5 ≤ 1999) (k10 : 2 ≤ x10 ∧ x10 ≤ 2000) (d1 : x5 + (-4294967296) ≤ x10 ∧ x10 ≤ x5 + 0) (d2 : x5 + 1 ≤ x10 ∧ x10 ≤ x5 + 4294967296) (fe_0_4_1 : end_0 = end_1) (fe_0_5_1 : next_0 = next_1) (fe_0_7_1 : begin_0 = begin_1) (fe_0_8_1 : number_0 = number_1) (fe_0_4_2 : end_1 = end_2) (fe_0_6_2 : kind_1 = kind_2) (fe_0_7_2 : begin_1 = begin_2) (fe_0_8_2 : number_1 = number_2) (hE_0_3_1 : ∀ j : Int, bytes_0 j = bytes_1 j) (hE_0_3_2 : ∀ j : Int, bytes_1 j = bytes_2 j) (hE_0_3_3 : ∀ j : Int, bytes_2 j = bytes_3 j) (kz_0_4 : 0 ≤ end_0 ∧ end_0 ≤ 2000) (kz_0_5 : 0 ≤ next_0 ∧ next_0 ≤ 2000) (kz_0_6 : 0 ≤ kind_0 ∧ kind_0 ≤ 127) (kz_0_7 : 0 ≤ begin_0 ∧ begin_0 ≤ 2000) (kz_0_8 : 0 ≤ number_0 ∧ number_0 ≤ 1000000) : (kind_0 ≠ 3) ∨ (number_0 ≤ 9999) := by
  subst fe_0_4_1
  subst fe_0_5_1
  subst fe_0_7_1
  subst fe_0_8_1
  subst fe_0_4_2
  subst fe_0_6_2
  subst fe_0_7_2
  subst fe_0_8_2
  have e_hE_0_3_1 := funext hE_0_3_1; subst e_hE_0_3_1
  have e_hE_0_3_2 := funext hE_0_3_2; subst e_hE_0_3_2
  have e_hE_0_3_3 := funext hE_0_3_3; subst e_hE_0_3_3
  first
    | omega
  
def o_Sy_advance_7 : or_T := (297, 14, [(0, (2, 0, 0, [11])), (2, (2, 0, 0, [11])), (3, (0, 1, 1999, [])), (4, (2, 0, 0, [109])), (5, (0, 1, 1999, [])), (6, (0, 58, 96, [])), (8, (0, 0, 0, [])), (9, (0, 1, 1, [])), (10, (0, 2, 2000, [])), (12, (0, 0, 127, [])), (13, (0, 0, 13, []))], [(9, [6, 2], [6]), (9, [10, 2], [5]), (9, [3, 2], [7]), (9, [5, 2], [4]), (9, [4, 2], [3]), (20, [13, 12], [50, 0, 0, 3, 6, 0, 2, 1, 0, 0, -1, 0, 2, 0, 33, 1, 1]), (22, [12, 6], []), (20, [6, 8], [61, 0, 1098]), (24, [0, 2], []), (101, [2, 6], [6]), (8, [13], [3]), (20, [13, 12], [50, 0, 0, 3, 6, 0, 2, 1, 0, 0, -1, 0, 2, 0, 33, 1, 1]), (22, [12, 6], []), (8, [6], [4]), (20, [6, 8], [61, 0, 1098]), (101, [2, 10], [5]), (1, [10, 3, 9], []), (9, [3, 2], [5]), (8, [8], [0]), (20, [6, 8], [61, 0, 1098]), (10, [6, 4, 3], []), (7, [3, 5], [2]), (101, [2, 3], [7]), (7, [3, 5], [3])], [], [], [(20, [0], [50, 2, 0, 6, 8, 3, 7, 7, 3, 2, 0, 6, 0, 3, 0, 3, 2, 0, 8, 0, 9999])], [], [(10, 3, 1, 1), (10, 5, -4294967296, 0), (10, 5, 1, 4294967296), (3, 5, -4294967296, -1), (3, 5, 0, 4294967296)])
theorem oo_Sy_advance_7 {kA : Nat → ClassId} : or_ok PRD kA GG o_Sy_advance_7 := by
  refine or_mk fun A ta ws vs hD hth hl => ?_
  intro t0 r0 t2 r2 t3 k3 t4 r4 t5 k5 t6 k6 t8 k8 t9 k9 t10 k10 t12 k12 t13 k13 d0 d1 d2 d3 d4 f0 f1 f2 f3 f4 f5 f6 f7 f8 ta1 w1 le1 s1 f10 f11 f12 f13 f14 ta2 w2 le2 s2 f16 f17 f18 f19 f20 f21 ta3 w3 le3 s3 f23
  replace f8 := shm_5 f8
  have s1 : (∀ b j, w_el ws b j = w_el w1 b j) ∧ ∀ b j, w_fd ws b j = if b = v_ad (n_v vs 2) ∧ j = 6 then n_v vs 6 else w_fd w1 b j := s1.2
  have s2 : (∀ b j, w_el w1 b j = w_el w2 b j) ∧ ∀ b j, w_fd w1 b j = if b = v_ad (n_v vs 2) ∧ j = 5 then n_v vs 10 else w_fd w2 b j := s2.2
  have s3 : (∀ b j, w_el w2 b j = w_el w3 b j) ∧ ∀ b j, w_fd w2 b j = if b = v_ad (n_v vs 2) ∧ j = 7 then n_v vs 3 else w_fd w3 b j := s3.2
  have q2 : n_v vs 2 = n_v vs 0 := f8.symm
  rw [q2] at s1
  rw [q2] at s2
  rw [q2] at s3
  have fe_0_4_1 : w_fi ws (n_v vs 0) 4 = w_fi w1 (n_v vs 0) 4 := by show v_iv (w_fd _ _ _) = v_iv (w_fd _ _ _); rw [s1.2, if_neg (fun e => absurd e.2 (by decide))]
  have fe_0_5_1 : w_fi ws (n_v vs 0) 5 = w_fi w1 (n_v vs 0) 5 := by show v_iv (w_fd _ _ _) = v_iv (w_fd _ _ _); rw [s1.2, if_neg (fun e => absurd e.2 (by decide))]
  have fe_0_7_1 : w_fi ws (n_v vs 0) 7 = w_fi w1 (n_v vs 0) 7 := by show v_iv (w_fd _ _ _) = v_iv (w_fd _ _ _); rw [s1.2, if_neg (fun e => absurd e.2 (by decide))]
  have fe_0_8_1 : w_fi ws (n_v vs 0) 8 = w_fi w1 (n_v vs 0) 8 := by show v_iv (w_fd _ _ _) = v_iv (w_fd _ _ _); rw [s1.2, if_neg (fun e => absurd e.2 (by decide))]
  have fe_0_4_2 : w_fi w1 (n_v vs 0) 4 = w_fi w2 (n_v vs 0) 4 := by show v_iv (w_fd _ _ _) = v_iv (w_fd _ _ _); rw [s2.2, if_neg (fun e => absurd e.2 (by decide))]
  have fe_0_6_2 : w_fi w1 (n_v vs 0) 6 = w_fi w2 (n_v vs 0) 6 := by show v_iv (w_fd _ _ _) = v_iv (w_fd _ _ _); rw [s2.2, if_neg (fun e => absurd e.2 (by decide))]
  have fe_0_7_2 : w_fi w1 (n_v vs 0) 7 = w_fi w2 (n_v vs 0) 7 := by show v_iv (w_fd _ _ _) = v_iv (w_fd _ _ _); rw [s2.2, if_neg (fun e => absurd e.2 (by decide))]
  have fe_0_8_2 : w_fi w1 (n_v vs 0) 8 = w_fi w2 (n_v vs 0) 8 := by show v_iv (w_fd _ _ _) = v_iv (w_fd _ _ _); rw [s2.2, if_neg (fun e => absurd e.2 (by decide))]
  have hE_0_3_1 : ∀ j : Int, w_ei ws (w_ar ws (n_v vs 0) 3) j = w_ei w1 (w_ar ws (n_v vs 0) 3) j := fun j => s1.1 _ _
  have hE_0_3_2 : ∀ j : Int, w_ei w1 (w_ar ws (n_v vs 0) 3) j = w_ei w2 (w_ar ws (n_v vs 0) 3) j := fun j => s2.1 _ _
  have hE_0_3_3 : ∀ j : Int, w_ei w2 (w_ar ws (n_v vs 0) 3) j = w_ei w3 (w_ar ws (n_v vs 0) 3) j := fun j => s3.1 _ _
  have kz_0_4 := fdq_312 hD hth r0
  have kz_0_5 := fdq_28 hD hth r0
  have kz_0_6 := fdq_313 hD hth r0
  have kz_0_7 := fdq_29 hD hth r0
  have kz_0_8 := fdq_314 hD hth r0
  have nf0 : fc_1 PRD (20, [0], [50, 2, 0, 6, 8, 3, 7, 7, 3, 2, 0, 6, 0, 3, 0, 3, 2, 0, 8, 0, 9999]) ws (vs) := ⟨nf_in hl rfl, sgq_1840 (vc_Sy_advance_7_0 (v_iv (n_v vs 5)) (v_iv (n_v vs 10)) (w_fi ws (n_v vs 0) 6) (w_fi ws (n_v vs 0) 5) (w_fi ws (n_v vs 0) 7) (w_fi ws (n_v vs 0) 4) (w_ei w2 (w_ar ws (n_v vs 0) 3)) (w_fi w1 (n_v vs 0) 4) (w_fi w1 (n_v vs 0) 5) (w_fi w1 (n_v vs 0) 7) (w_fi ws (n_v vs 0) 8) (w_fi w1 (n_v vs 0) 8) (w_fi w2 (n_v vs 0) 4) (w_fi w1 (n_v vs 0) 6) (w_fi w2 (n_v vs 0) 6) (w_fi w2 (n_v vs 0) 7) (w_fi w2 (n_v vs 0) 8) (w_ei ws (w_ar ws (n_v vs 0) 3)) (w_ei w1 (w_ar ws (n_v vs 0) 3)) (w_ei w3 (w_ar ws (n_v vs 0) 3)) k5 k10 d1 d2 fe_0_4_1 fe_0_5_1 fe_0_7_1 fe_0_8_1 fe_0_4_2 fe_0_6_2 fe_0_7_2 fe_0_8_2 hE_0_3_1 hE_0_3_2 hE_0_3_3 kz_0_4 kz_0_5 kz_0_6 kz_0_7 kz_0_8)⟩
  refine ⟨(fun _ h => (by cases h)), [], trivial, ?_, (fun _ h => (by cases h))⟩
  rw [List.append_nil]
  exact List.forall_mem_cons.mpr ⟨⟨show (20 : Nat) < 100 from by decide, nf0⟩, (fun _ h => (by cases h))⟩
set_option maxHeartbeats 4000000 in
theorem vc_Sy_advance_8_0 (x3 : Int) (x5 : Int) (number_0 : Int) (begin_0 : Int) (end_0 : Int) (next_0 : Int) (bytes_1 : Int → Int) (end_1 : Int) (next_1 : Int) (begin_1 : Int) (bytes_0 : Int → Int) (bytes_2 : Int → Int) (k3 : 1 ≤ x3 ∧ x3 ≤ 1999) (k5 : 1 ≤ x5 ∧ x5 ≤ 1999) (d0 : x5 + (-4294967296) ≤ x3 ∧ x3 ≤ x5 + (-1)) (d1 : x5 + 0 ≤ x3 ∧ x3 ≤ x5 + 4294967296) (fe_0_4_1 : end_0 = end_1) (fe_0_5_1 : next_0 = next_1) (fe_0_7_1 : begin_0 = begin_1) (hE_0_3_1 : ∀ j : Int, bytes_0 j = bytes_1 j) (hE_0_3_2 : ∀ j : Int, bytes_1 j = bytes_2 j) (kz_0_4 : 0 ≤ end_0 ∧ end_0 ≤ 2000) (kz_0_5 : 0 ≤ next_0 ∧ next_0 ≤ 2000) (kz_0_7 : 0 ≤ begin_0 ∧ begin_0 ≤ 2000) (kz_0_8 : 0 ≤ number_0 ∧ number_0 ≤ 1000000) : (0 ≤ number_0) ∧ ((begin_0 ≤ next_0) ∧ ((((next_0 - begin_0) ≤ 0) → (number_0 ≤ 0)) ∧ ((((next_0 - begin_0) ≤ 1) → (number_0 ≤ 9)) ∧ ((((next_0 - begin_0) ≤ 2) → (number_0 ≤ 99)) ∧ ((((next_0 - begin_0) ≤ 3) → (number_0 ≤ 999)) ∧ (((next_0 - begin_0) ≤ 4) → (number_0 ≤ 9999))))))) := by
  subst fe_0_4_1
  subst fe_0_5_1
  subst fe_0_7_1
  have e_hE_0_3_1 := funext hE_0_3_1; subst e_hE_0_3_1
  have e_hE_0_3_2 := funext hE_0_3_2; subst e_hE_0_3_2
  first
    | omega
  
def o_Sy_advance_8 : or_T := (171, 10, [(0, (2, 0, 0, [11])), (3, (0, 1, 1999, [])), (5, (0, 1, 1999, []))], [(24, [0, 2], []), (101, [2, 9], [8]), (101, [2, 3], [7])], [], [], [(20, [2], [50, 3, 0, 8, 7, 5, 2, 7, 0, 2, 0, 0, 2, 0, 8, 2, 8, 0, 3, 2, 0, 7, 2, 0, 5, 2, 21, 4, 12, 0, 8, 5, 3, 2, 0, 5, 2, 0, 7, 0, 0, 0, 3, 2, 0, 8, 0, 0, 2, 21, 4, 12, 0, 8, 5, 3, 2, 0, 5, 2, 0, 7, 0, 1, 0, 3, 2, 0, 8, 0, 9, 2, 21, 4, 12, 0, 8, 5, 3, 2, 0, 5, 2, 0, 7, 0, 2, 0, 3, 2, 0, 8, 0, 99, 2, 21, 4, 12, 0, 8, 5, 3, 2, 0, 5, 2, 0, 7, 0, 3, 0, 3, 2, 0, 8, 0, 999, 4, 12, 0, 8, 5, 3, 2, 0, 5, 2, 0, 7, 0, 4, 0, 3, 2, 0, 8, 0, 9999])], [], [(3, 5, -4294967296, -1), (3, 5, 0, 4294967296)])
theorem oo_Sy_advance_8 {kA : Nat → ClassId} : or_ok PRD kA GG o_Sy_advance_8 := by
  refine or_mk fun A ta ws vs hD hth hl => ?_
  intro t0 r0 t3 k3 t5 k5 d0 d1 f6 ta1 w1 le1 s1 ta2 w2 le2 s2
  replace f6 := shm_5 f6
  have s1 : (∀ b j, w_el ws b j = w_el w1 b j) ∧ ∀ b j, w_fd ws b j = if b = v_ad (n_v vs 2) ∧ j = 8 then n_v vs 9 else w_fd w1 b j := s1.2
  have s2 : (∀ b j, w_el w1 b j = w_el w2 b j) ∧ ∀ b j, w_fd w1 b j = if b = v_ad (n_v vs 2) ∧ j = 7 then n_v vs 3 else w_fd w2 b j := s2.2
  have q2 : n_v vs 2 = n_v vs 0 := f6.symm
  rw [q2] at s1
  rw [q2] at s2
  have fe_0_4_1 : w_fi ws (n_v vs 0) 4 = w_fi w1 (n_v vs 0) 4 := by show v_iv (w_fd _ _ _) = v_iv (w_fd _ _ _); rw [s1.2, if_neg (fun e => absurd e.2 (by decide))]
  have fe_0_5_1 : w_fi ws (n_v vs 0) 5 = w_fi w1 (n_v vs 0) 5 := by show v_iv (w_fd _ _ _) = v_iv (w_fd _ _ _); rw [s1.2, if_neg (fun e => absurd e.2 (by decide))]
  have fe_0_7_1 : w_fi ws (n_v vs 0) 7 = w_fi w1 (n_v vs 0) 7 := by show v_iv (w_fd _ _ _) = v_iv (w_fd _ _ _); rw [s1.2, if_neg (fun e => absurd e.2 (by decide))]
  have hE_0_3_1 : ∀ j : Int, w_ei ws (w_ar ws (n_v vs 0) 3) j = w_ei w1 (w_ar ws (n_v vs 0) 3) j := fun j => s1.1 _ _
  have hE_0_3_2 : ∀ j : Int, w_ei w1 (w_ar ws (n_v vs 0) 3) j = w_ei w2 (w_ar ws (n_v vs 0) 3) j := fun j => s2.1 _ _
  have kz_0_4 := fdq_312 hD hth r0
  have kz_0_5 := fdq_28 hD hth r0
  have kz_0_7 := fdq_29 hD hth r0
  have kz_0_8 := fdq_314 hD hth r0
  have nf0 : fc_1 PRD (20, [2], [50, 3, 0, 8, 7, 5, 2, 7, 0, 2, 0, 0, 2, 0, 8, 2, 8, 0, 3, 2, 0, 7, 2, 0, 5, 2, 21, 4, 12, 0, 8, 5, 3, 2, 0, 5, 2, 0, 7, 0, 0, 0, 3, 2, 0, 8, 0, 0, 2, 21, 4, 12, 0, 8, 5, 3, 2, 0, 5, 2, 0, 7, 0, 1, 0, 3, 2, 0, 8, 0, 9, 2, 21, 4, 12, 0, 8, 5, 3, 2, 0, 5, 2, 0, 7, 0, 2, 0, 3, 2, 0, 8, 0, 99, 2, 21, 4, 12, 0, 8, 5, 3, 2, 0, 5, 2, 0, 7, 0, 3, 0, 3, 2, 0, 8, 0, 999, 4, 12, 0, 8, 5, 3, 2, 0, 5, 2, 0, 7, 0, 4, 0, 3, 2, 0, 8, 0, 9999]) ws (vs) := by
    refine ⟨nf_in hl rfl, sgq_1841 ?_⟩
    · show (0 ≤ w_fi ws (n_v vs 2) 8) ∧ ((w_fi ws (n_v vs 2) 7 ≤ w_fi ws (n_v vs 2) 5) ∧ ((((w_fi ws (n_v vs 2) 5 - w_fi ws (n_v vs 2) 7) ≤ 0) → (w_fi ws (n_v vs 2) 8 ≤ 0)) ∧ ((((w_fi ws (n_v vs 2) 5 - w_fi ws (n_v vs 2) 7) ≤ 1) → (w_fi ws (n_v vs 2) 8 ≤ 9)) ∧ ((((w_fi ws (n_v vs 2) 5 - w_fi ws (n_v vs 2) 7) ≤ 2) → (w_fi ws (n_v vs 2) 8 ≤ 99)) ∧ ((((w_fi ws (n_v vs 2) 5 - w_fi ws (n_v vs 2) 7) ≤ 3) → (w_fi ws (n_v vs 2) 8 ≤ 999)) ∧ (((w_fi ws (n_v vs 2) 5 - w_fi ws (n_v vs 2) 7) ≤ 4) → (w_fi ws (n_v vs 2) 8 ≤ 9999)))))))
      rw [q2]
      exact vc_Sy_advance_8_0 (v_iv (n_v vs 3)) (v_iv (n_v vs 5)) (w_fi ws (n_v vs 0) 8) (w_fi ws (n_v vs 0) 7) (w_fi ws (n_v vs 0) 4) (w_fi ws (n_v vs 0) 5) (w_ei w1 (w_ar ws (n_v vs 0) 3)) (w_fi w1 (n_v vs 0) 4) (w_fi w1 (n_v vs 0) 5) (w_fi w1 (n_v vs 0) 7) (w_ei ws (w_ar ws (n_v vs 0) 3)) (w_ei w2 (w_ar ws (n_v vs 0) 3)) k3 k5 d0 d1 fe_0_4_1 fe_0_5_1 fe_0_7_1 hE_0_3_1 hE_0_3_2 kz_0_4 kz_0_5 kz_0_7 kz_0_8
  refine ⟨(fun _ h => (by cases h)), [], trivial, ?_, (fun _ h => (by cases h))⟩
  rw [List.append_nil]
  exact List.forall_mem_cons.mpr ⟨⟨show (20 : Nat) < 100 from by decide, nf0⟩, (fun _ h => (by cases h))⟩
set_option maxHeartbeats 4000000 in
theorem vc_Sy_advance_9_r0 (x5 : Int) (x10 : Int) (x12 : Int) (begin_0 : Int) (end_0 : Int) (bytes_1 : Int → Int) (end_1 : Int) (begin_1 : Int) (bytes_0 : Int → Int) (bytes_2 : Int → Int) (k5 : 1 ≤ x5 ∧ x5 ≤ 1999) (k10 : 2 ≤ x10 ∧ x10 ≤ 2000) (k12 : 0 ≤ x12 ∧ x12 ≤ 65535) (d1 : x5 + (-4294967296) ≤ x10 ∧ x10 ≤ x5 + 0) (d2 : x5 + 1 ≤ x10 ∧ x10 ≤ x5 + 4294967296) (fe_0_4_1 : end_0 = end_1) (fe_0_7_1 : begin_0 = begin_1) (hE_0_3_1 : ∀ j : Int, bytes_0 j = bytes_1 j) (hE_0_3_2 : ∀ j : Int, bytes_1 j = bytes_2 j) (kz_0_4 : 0 ≤ end_0 ∧ end_0 ≤ 2000) (kz_0_7 : 0 ≤ begin_0 ∧ begin_0 ≤ 2000) : 0 ≤ x12 ∧ x12 ≤ 127 := by
  subst fe_0_4_1
  subst fe_0_7_1
  have e_hE_0_3_1 := funext hE_0_3_1; subst e_hE_0_3_1
  have e_hE_0_3_2 := funext hE_0_3_2; subst e_hE_0_3_2
  first
    | omega
  
def o_Sy_advance_9 : or_T := (283, 13, [(0, (2, 0, 0, [11])), (2, (2, 0, 0, [11])), (3, (0, 1, 1999, [])), (4, (2, 0, 0, [109])), (5, (0, 1, 1999, [])), (6, (0, 123, 127, [])), (8, (0, 0, 0, [])), (9, (0, 1, 1, [])), (10, (0, 2, 2000, [])), (12, (0, 0, 65535, []))], [(9, [10, 2], [5]), (9, [3, 2], [7]), (9, [5, 2], [4]), (9, [4, 2], [3]), (22, [12, 6], []), (8, [6], [4]), (20, [6, 8], [61, 0, 1098]), (24, [0, 2], []), (101, [2, 10], [5]), (1, [10, 3, 9], []), (9, [3, 2], [5]), (8, [8], [0]), (20, [6, 8], [61, 0, 1098]), (10, [6, 4, 3], []), (7, [3, 5], [2]), (101, [2, 3], [7]), (7, [3, 5], [3])], [(12, (0, 0, 127, []))], [], [], [], [(10, 3, 1, 1), (10, 5, -4294967296, 0), (10, 5, 1, 4294967296), (3, 5, -4294967296, -1), (3, 5, 0, 4294967296)])
theorem oo_Sy_advance_9 {kA : Nat → ClassId} : or_ok PRD kA GG o_Sy_advance_9 := by
  refine or_mk fun A ta ws vs hD hth hl => ?_
  intro t0 r0 t2 r2 t3 k3 t4 r4 t5 k5 t6 k6 t8 k8 t9 k9 t10 k10 t12 k12 d0 d1 d2 d3 d4 f0 f1 f2 f3 f4 f5 f6 f7 ta1 w1 le1 s1 f9 f10 f11 f12 f13 f14 ta2 w2 le2 s2 f16
  replace f7 := shm_5 f7
  have s1 : (∀ b j, w_el ws b j = w_el w1 b j) ∧ ∀ b j, w_fd ws b j = if b = v_ad (n_v vs 2) ∧ j = 5 then n_v vs 10 else w_fd w1 b j := s1.2
  have s2 : (∀ b j, w_el w1 b j = w_el w2 b j) ∧ ∀ b j, w_fd w1 b j = if b = v_ad (n_v vs 2) ∧ j = 7 then n_v vs 3 else w_fd w2 b j := s2.2
  have q2 : n_v vs 2 = n_v vs 0 := f7.symm
  rw [q2] at s1
  rw [q2] at s2
  have fe_0_4_1 : w_fi ws (n_v vs 0) 4 = w_fi w1 (n_v vs 0) 4 := by show v_iv (w_fd _ _ _) = v_iv (w_fd _ _ _); rw [s1.2, if_neg (fun e => absurd e.2 (by decide))]
  have fe_0_7_1 : w_fi ws (n_v vs 0) 7 = w_fi w1 (n_v vs 0) 7 := by show v_iv (w_fd _ _ _) = v_iv (w_fd _ _ _); rw [s1.2, if_neg (fun e => absurd e.2 (by decide))]
  have hE_0_3_1 : ∀ j : Int, w_ei ws (w_ar ws (n_v vs 0) 3) j = w_ei w1 (w_ar ws (n_v vs 0) 3) j := fun j => s1.1 _ _
  have hE_0_3_2 : ∀ j : Int, w_ei w1 (w_ar ws (n_v vs 0) 3) j = w_ei w2 (w_ar ws (n_v vs 0) 3) j := fun j => s2.1 _ _
  have kz_0_4 := fdq_312 hD hth r0
  have kz_0_7 := fdq_29 hD hth r0
  have hrf0 : 0 ≤ v_iv (n_v vs 12) ∧ v_iv (n_v vs 12) ≤ 127 := vc_Sy_advance_9_r0 (v_iv (n_v vs 5)) (v_iv (n_v vs 10)) (v_iv (n_v vs 12)) (w_fi ws (n_v vs 0) 7) (w_fi ws (n_v vs 0) 4) (w_ei w1 (w_ar ws (n_v vs 0) 3)) (w_fi w1 (n_v vs 0) 4) (w_fi w1 (n_v vs 0) 7) (w_ei ws (w_ar ws (n_v vs 0) 3)) (w_ei w2 (w_ar ws (n_v vs 0) 3)) k5 k10 k12 d1 d2 fe_0_4_1 fe_0_7_1 hE_0_3_1 hE_0_3_2 kz_0_4 kz_0_7
  have rf12 : tv_ok ta (0, 0, 127, []) (n_v vs 12) := tv_in t12 (by first | omega | grind) (by first | omega | grind)
  refine ⟨List.forall_mem_cons.mpr ⟨rf12, (fun _ h => (by cases h))⟩, [], trivial, ?_, (fun _ h => (by cases h))⟩
  rw [List.append_nil]
  exact (fun _ h => (by cases h))
set_option maxHeartbeats 4000000 in
theorem vc_Sy_advance_10_0 (x5 : Int) (x10 : Int) (kind_0 : Int) (next_0 : Int) (begin_0 : Int) (end_0 : Int) (bytes_2 : Int → Int) (end_1 : Int) (next_1 : Int) (begin_1 : Int) (number_0 : Int) (number_1 : Int) (end_2 : Int) (kind_1 : Int) (kind_2 : Int) (begin_2 : Int) (number_2 : Int) (bytes_0 : Int → Int) (bytes_1 : Int → Int) (bytes_3 : Int → Int) (k5 : 1 ≤ x5 ∧ x5 ≤ 1999) (k10 : 2 ≤ x10 ∧ x10 ≤ 2000) (d1 : x5 + (-4294967296) ≤ x10 ∧ x10 ≤ x5 + 0) (d2 : x5 + 1 ≤ x10 ∧ x10 ≤ x5 + 4294967296) (fe_0_4_1 : end_0 = end_1) (fe_0_5_1 : next_0 = next_1) (fe_0_7_1 : begin_0 = begin_1) (fe_0_8_1 : number_0 = number_1) (fe_0_4_2 : end_1 = end_2) (fe_0_6_2 : kind_1 = kind_2) (fe_0_7_2 : begin_1 = begin_2) (fe_0_8_2 : number_1 = number_2) (hE_0_3_1 : ∀ j : Int, bytes_0 j = bytes_1 j) (hE_0_3_2 : ∀ j : Int, bytes_1 j = bytes_2 j) (hE_0_3_3 : ∀ j : Int, bytes_2 j = bytes_3 j) (kz_0_4 : 0 ≤ end_0 ∧ end_0 ≤ 2000) (kz_0_5 : 0 ≤ next_0 ∧ next_0 ≤ 2000) (kz_0_6 : 0 ≤ kind_0 ∧ kind_0 ≤ 127) (kz_0_7 : 0 ≤ begin_0 ∧ begin_0 ≤ 2000) (kz_0_8 : 0 ≤ number_0 ∧ number_0 ≤ 1000000) : (kind_0 ≠ 3) ∨ (number_0 ≤ 9999) := by
  subst fe_0_4_1
  subst fe_0_5_1
  subst fe_0_7_1
  subst fe_0_8_1
  subst fe_0_4_2
  subst fe_0_6_2
  subst fe_0_7_2
  subst fe_0_8_2
  have e_hE_0_3_1 := funext hE_0_3_1; subst e_hE_0_3_1
  have e_hE_0_3_2 := funext hE_0_3_2; subst e_hE_0_3_2
  have e_hE_0_3_3 := funext hE_0_3_3; subst e_hE_0_3_3
  first
    | omega
  
def o_Sy_advance_10 : or_T := (297, 15, [(0, (2, 0, 0, [11])), (2, (2, 0, 0, [11])), (3, (0, 1, 1999, [])), (4, (2, 0, 0, [109])), (5, (0, 1, 1999, [])), (6, (0, 123, 127, [])), (8, (0, 0, 0, [])), (9, (0, 1, 1, [])), (10, (0, 2, 2000, [])), (12, (0, 0, 127, [])), (13, (0, -1, -1, [])), (14, (0, 1, 1, []))], [(9, [14, 2], [6]), (9, [10, 2], [5]), (9, [3, 2], [7]), (9, [5, 2], [4]), (9, [4, 2], [3]), (20, [13, 12], [50, 0, 0, 3, 6, 0, 2, 1, 0, 0, -1, 0, 2, 0, 33, 1, 1]), (22, [12, 6], []), (20, [6, 8], [61, 0, 1098]), (24, [0, 2], []), (101, [2, 14], [6]), (8, [13], [2]), (20, [13, 12], [50, 0, 0, 3, 6, 0, 2, 1, 0, 0, -1, 0, 2, 0, 33, 1, 1]), (22, [12, 6], []), (8, [6], [4]), (20, [6, 8], [61, 0, 1098]), (101, [2, 10], [5]), (1, [10, 3, 9], []), (9, [3, 2], [5]), (8, [8], [0]), (20, [6, 8], [61, 0, 1098]), (10, [6, 4, 3], []), (7, [3, 5], [2]), (101, [2, 3], [7]), (7, [3, 5], [3])], [], [], [(20, [0], [50, 2, 0, 6, 8, 3, 7, 7, 3, 2, 0, 6, 0, 3, 0, 3, 2, 0, 8, 0, 9999])], [], [(10, 3, 1, 1), (10, 5, -4294967296, 0), (10, 5, 1, 4294967296), (3, 5, -4294967296, -1), (3, 5, 0, 4294967296)])
theorem oo_Sy_advance_10 {kA : Nat → ClassId} : or_ok PRD kA GG o_Sy_advance_10 := by
  refine or_mk fun A ta ws vs hD hth hl => ?_
  intro t0 r0 t2 r2 t3 k3 t4 r4 t5 k5 t6 k6 t8 k8 t9 k9 t10 k10 t12 k12 t13 k13 t14 k14 d0 d1 d2 d3 d4 f0 f1 f2 f3 f4 f5 f6 f7 f8 ta1 w1 le1 s1 f10 f11 f12 f13 f14 ta2 w2 le2 s2 f16 f17 f18 f19 f20 f21 ta3 w3 le3 s3 f23
  replace f8 := shm_5 f8
  have s1 : (∀ b j, w_el ws b j = w_el w1 b j) ∧ ∀ b j, w_fd ws b j = if b = v_ad (n_v vs 2) ∧ j = 6 then n_v vs 14 else w_fd w1 b j := s1.2
  have s2 : (∀ b j, w_el w1 b j = w_el w2 b j) ∧ ∀ b j, w_fd w1 b j = if b = v_ad (n_v vs 2) ∧ j = 5 then n_v vs 10 else w_fd w2 b j := s2.2
  have s3 : (∀ b j, w_el w2 b j = w_el w3 b j) ∧ ∀ b j, w_fd w2 b j = if b = v_ad (n_v vs 2) ∧ j = 7 then n_v vs 3 else w_fd w3 b j := s3.2
  have q2 : n_v vs 2 = n_v vs 0 := f8.symm
  rw [q2] at s1
  rw [q2] at s2
  rw [q2] at s3
  have fe_0_4_1 : w_fi ws (n_v vs 0) 4 = w_fi w1 (n_v vs 0) 4 := by show v_iv (w_fd _ _ _) = v_iv (w_fd _ _ _); rw [s1.2, if_neg (fun e => absurd e.2 (by decide))]
  have fe_0_5_1 : w_fi ws (n_v vs 0) 5 = w_fi w1 (n_v vs 0) 5 := by show v_iv (w_fd _ _ _) = v_iv (w_fd _ _ _); rw [s1.2, if_neg (fun e => absurd e.2 (by decide))]
  have fe_0_7_1 : w_fi ws (n_v vs 0) 7 = w_fi w1 (n_v vs 0) 7 := by show v_iv (w_fd _ _ _) = v_iv (w_fd _ _ _); rw [s1.2, if_neg (fun e => absurd e.2 (by decide))]
  have fe_0_8_1 : w_fi ws (n_v vs 0) 8 = w_fi w1 (n_v vs 0) 8 := by show v_iv (w_fd _ _ _) = v_iv (w_fd _ _ _); rw [s1.2, if_neg (fun e => absurd e.2 (by decide))]
  have fe_0_4_2 : w_fi w1 (n_v vs 0) 4 = w_fi w2 (n_v vs 0) 4 := by show v_iv (w_fd _ _ _) = v_iv (w_fd _ _ _); rw [s2.2, if_neg (fun e => absurd e.2 (by decide))]
  have fe_0_6_2 : w_fi w1 (n_v vs 0) 6 = w_fi w2 (n_v vs 0) 6 := by show v_iv (w_fd _ _ _) = v_iv (w_fd _ _ _); rw [s2.2, if_neg (fun e => absurd e.2 (by decide))]
  have fe_0_7_2 : w_fi w1 (n_v vs 0) 7 = w_fi w2 (n_v vs 0) 7 := by show v_iv (w_fd _ _ _) = v_iv (w_fd _ _ _); rw [s2.2, if_neg (fun e => absurd e.2 (by decide))]
  have fe_0_8_2 : w_fi w1 (n_v vs 0) 8 = w_fi w2 (n_v vs 0) 8 := by show v_iv (w_fd _ _ _) = v_iv (w_fd _ _ _); rw [s2.2, if_neg (fun e => absurd e.2 (by decide))]
  have hE_0_3_1 : ∀ j : Int, w_ei ws (w_ar ws (n_v vs 0) 3) j = w_ei w1 (w_ar ws (n_v vs 0) 3) j := fun j => s1.1 _ _
  have hE_0_3_2 : ∀ j : Int, w_ei w1 (w_ar ws (n_v vs 0) 3) j = w_ei w2 (w_ar ws (n_v vs 0) 3) j := fun j => s2.1 _ _
  have hE_0_3_3 : ∀ j : Int, w_ei w2 (w_ar ws (n_v vs 0) 3) j = w_ei w3 (w_ar ws (n_v vs 0) 3) j := fun j => s3.1 _ _
  have kz_0_4 := fdq_312 hD hth r0
  have kz_0_5 := fdq_28 hD hth r0
  have kz_0_6 := fdq_313 hD hth r0
  have kz_0_7 := fdq_29 hD hth r0
  have kz_0_8 := fdq_314 hD hth r0
  have nf0 : fc_1 PRD (20, [0], [50, 2, 0, 6, 8, 3, 7, 7, 3, 2, 0, 6, 0, 3, 0, 3, 2, 0, 8, 0, 9999]) ws (vs) := ⟨nf_in hl rfl, sgq_1840 (vc_Sy_advance_10_0 (v_iv (n_v vs 5)) (v_iv (n_v vs 10)) (w_fi ws (n_v vs 0) 6) (w_fi ws (n_v vs 0) 5) (w_fi ws (n_v vs 0) 7) (w_fi ws (n_v vs 0) 4) (w_ei w2 (w_ar ws (n_v vs 0) 3)) (w_fi w1 (n_v vs 0) 4) (w_fi w1 (n_v vs 0) 5) (w_fi w1 (n_v vs 0) 7) (w_fi ws (n_v vs 0) 8) (w_fi w1 (n_v vs 0) 8) (w_fi w2 (n_v vs 0) 4) (w_fi w1 (n_v vs 0) 6) (w_fi w2 (n_v vs 0) 6) (w_fi w2 (n_v vs 0) 7) (w_fi w2 (n_v vs 0) 8) (w_ei ws (w_ar ws (n_v vs 0) 3)) (w_ei w1 (w_ar ws (n_v vs 0) 3)) (w_ei w3 (w_ar ws (n_v vs 0) 3)) k5 k10 d1 d2 fe_0_4_1 fe_0_5_1 fe_0_7_1 fe_0_8_1 fe_0_4_2 fe_0_6_2 fe_0_7_2 fe_0_8_2 hE_0_3_1 hE_0_3_2 hE_0_3_3 kz_0_4 kz_0_5 kz_0_6 kz_0_7 kz_0_8)⟩
  refine ⟨(fun _ h => (by cases h)), [], trivial, ?_, (fun _ h => (by cases h))⟩
  rw [List.append_nil]
  exact List.forall_mem_cons.mpr ⟨⟨show (20 : Nat) < 100 from by decide, nf0⟩, (fun _ h => (by cases h))⟩
set_option maxHeartbeats 4000000 in
theorem vc_Sy_advance_11_0 (x5 : Int) (x10 : Int) (kind_0 : Int) (next_0 : Int) (begin_0 : Int) (end_0 : Int) (bytes_2 : Int → Int) (end_1 : Int) (next_1 : Int) (begin_1 : Int) (number_0 : Int) (number_1 : Int) (end_2 : Int) (kind_1 : Int) (kind_2 : Int) (begin_2 : Int) (number_2 : Int) (bytes_0 : Int → Int) (bytes_1 : Int → Int) (bytes_3 : Int → Int) (k5 : 1 ≤ x5 ∧ x5 ≤ 1999) (k10 : 2 ≤ x10 ∧ x10 ≤ 2000) (d1 : x5 + (-4294967296) ≤ x10 ∧ x10 ≤ x5 + 0) (d2 : x5 + 1 ≤ x10 ∧ x10 ≤ x5 + 4294967296) (fe_0_4_1 : end_0 = end_1) (fe_0_5_1 : next_0 = next_1) (fe_0_7_1 : begin_0 = begin_1) (fe_0_8_1 : number_0 = number_1) (fe_0_4_2 : end_1 = end_2) (fe_0_6_2 : kind_1 = kind_2) (fe_0_7_2 : begin_1 = begin_2) (fe_0_8_2 : number_1 = number_2) (hE_0_3_1 : ∀ j : Int, bytes_0 j = bytes_1 j) (hE_0_3_2 : ∀ j : Int, bytes_1 j = bytes_2 j) (hE_0_3_3 : ∀ j : Int, bytes_2 j = bytes_3 j) (kz_0_4 : 0 ≤ end_0 ∧ end_0 ≤ 2000) (kz_0_5 : 0 ≤ next_0 ∧ next_0 ≤ 2000) (kz_0_6 : 0 ≤ kind_0 ∧ kind_0 ≤ 127) (kz_0_7 : 0 ≤ begin_0 ∧ begin_0 ≤ 2000) (kz_0_8 : 0 ≤ number_0 ∧ number_0 ≤ 1000000) : (kind_0 ≠ 3) ∨ (number_0 ≤ 9999) := by
  subst fe_0_4_1
  subst fe_0_5_1
  subst fe_0_7_1
  subst fe_0_8_1
  subst fe_0_4_2
  subst fe_0_6_2
  subst fe_0_7_2
  subst fe_0_8_2
  have e_hE_0_3_1 := funext hE_0_3_1; subst e_hE_0_3_1
  have e_hE_0_3_2 := funext hE_0_3_2; subst e_hE_0_3_2
  have e_hE_0_3_3 := funext hE_0_3_3; subst e_hE_0_3_3
  first
    | omega
  
def o_Sy_advance_11 : or_T := (297, 14, [(0, (2, 0, 0, [11])), (2, (2, 0, 0, [11])), (3, (0, 1, 1999, [])), (4, (2, 0, 0, [109])), (5, (0, 1, 1999, [])), (6, (0, 123, 127, [])), (8, (0, 0, 0, [])), (9, (0, 1, 1, [])), (10, (0, 2, 2000, [])), (12, (0, 0, 127, [])), (13, (0, 0, 13, []))], [(9, [6, 2], [6]), (9, [10, 2], [5]), (9, [3, 2], [7]), (9, [5, 2], [4]), (9, [4, 2], [3]), (20, [13, 12], [50, 0, 0, 3, 6, 0, 2, 1, 0, 0, -1, 0, 2, 0, 33, 1, 1]), (22, [12, 6], []), (20, [6, 8], [61, 0, 1098]), (24, [0, 2], []), (101, [2, 6], [6]), (8, [13], [3]), (20, [13, 12], [50, 0, 0, 3, 6, 0, 2, 1, 0, 0, -1, 0, 2, 0, 33, 1, 1]), (22, [12, 6], []), (8, [6], [4]), (20, [6, 8], [61, 0, 1098]), (101, [2, 10], [5]), (1, [10, 3, 9], []), (9, [3, 2], [5]), (8, [8], [0]), (20, [6, 8], [61, 0, 1098]), (10, [6, 4, 3], []), (7, [3, 5], [2]), (101, [2, 3], [7]), (7, [3, 5], [3])], [], [], [(20, [0], [50, 2, 0, 6, 8, 3, 7, 7, 3, 2, 0, 6, 0, 3, 0, 3, 2, 0, 8, 0, 9999])], [], [(10, 3, 1, 1), (10, 5, -4294967296, 0), (10, 5, 1, 4294967296), (3, 5, -4294967296, -1), (3, 5, 0, 4294967296)])
theorem oo_Sy_advance_11 {kA : Nat → ClassId} : or_ok PRD kA GG o_Sy_advance_11 := by
  refine or_mk fun A ta ws vs hD hth hl => ?_
  intro t0 r0 t2 r2 t3 k3 t4 r4 t5 k5 t6 k6 t8 k8 t9 k9 t10 k10 t12 k12 t13 k13 d0 d1 d2 d3 d4 f0 f1 f2 f3 f4 f5 f6 f7 f8 ta1 w1 le1 s1 f10 f11 f12 f13 f14 ta2 w2 le2 s2 f16 f17 f18 f19 f20 f21 ta3 w3 le3 s3 f23
  replace f8 := shm_5 f8
  have s1 : (∀ b j, w_el ws b j = w_el w1 b j) ∧ ∀ b j, w_fd ws b j = if b = v_ad (n_v vs 2) ∧ j = 6 then n_v vs 6 else w_fd w1 b j := s1.2
  have s2 : (∀ b j, w_el w1 b j = w_el w2 b j) ∧ ∀ b j, w_fd w1 b j = if b = v_ad (n_v vs 2) ∧ j = 5 then n_v vs 10 else w_fd w2 b j := s2.2
  have s3 : (∀ b j, w_el w2 b j = w_el w3 b j) ∧ ∀ b j, w_fd w2 b j = if b = v_ad (n_v vs 2) ∧ j = 7 then n_v vs 3 else w_fd w3 b j := s3.2
  have q2 : n_v vs 2 = n_v vs 0 := f8.symm
  rw [q2] at s1
  rw [q2] at s2
  rw [q2] at s3
  have fe_0_4_1 : w_fi ws (n_v vs 0) 4 = w_fi w1 (n_v vs 0) 4 := by show v_iv (w_fd _ _ _) = v_iv (w_fd _ _ _); rw [s1.2, if_neg (fun e => absurd e.2 (by decide))]
  have fe_0_5_1 : w_fi ws (n_v vs 0) 5 = w_fi w1 (n_v vs 0) 5 := by show v_iv (w_fd _ _ _) = v_iv (w_fd _ _ _); rw [s1.2, if_neg (fun e => absurd e.2 (by decide))]
  have fe_0_7_1 : w_fi ws (n_v vs 0) 7 = w_fi w1 (n_v vs 0) 7 := by show v_iv (w_fd _ _ _) = v_iv (w_fd _ _ _); rw [s1.2, if_neg (fun e => absurd e.2 (by decide))]
  have fe_0_8_1 : w_fi ws (n_v vs 0) 8 = w_fi w1 (n_v vs 0) 8 := by show v_iv (w_fd _ _ _) = v_iv (w_fd _ _ _); rw [s1.2, if_neg (fun e => absurd e.2 (by decide))]
  have fe_0_4_2 : w_fi w1 (n_v vs 0) 4 = w_fi w2 (n_v vs 0) 4 := by show v_iv (w_fd _ _ _) = v_iv (w_fd _ _ _); rw [s2.2, if_neg (fun e => absurd e.2 (by decide))]
  have fe_0_6_2 : w_fi w1 (n_v vs 0) 6 = w_fi w2 (n_v vs 0) 6 := by show v_iv (w_fd _ _ _) = v_iv (w_fd _ _ _); rw [s2.2, if_neg (fun e => absurd e.2 (by decide))]
  have fe_0_7_2 : w_fi w1 (n_v vs 0) 7 = w_fi w2 (n_v vs 0) 7 := by show v_iv (w_fd _ _ _) = v_iv (w_fd _ _ _); rw [s2.2, if_neg (fun e => absurd e.2 (by decide))]
  have fe_0_8_2 : w_fi w1 (n_v vs 0) 8 = w_fi w2 (n_v vs 0) 8 := by show v_iv (w_fd _ _ _) = v_iv (w_fd _ _ _); rw [s2.2, if_neg (fun e => absurd e.2 (by decide))]
  have hE_0_3_1 : ∀ j : Int, w_ei ws (w_ar ws (n_v vs 0) 3) j = w_ei w1 (w_ar ws (n_v vs 0) 3) j := fun j => s1.1 _ _
  have hE_0_3_2 : ∀ j : Int, w_ei w1 (w_ar ws (n_v vs 0) 3) j = w_ei w2 (w_ar ws (n_v vs 0) 3) j := fun j => s2.1 _ _
  have hE_0_3_3 : ∀ j : Int, w_ei w2 (w_ar ws (n_v vs 0) 3) j = w_ei w3 (w_ar ws (n_v vs 0) 3) j := fun j => s3.1 _ _
  have kz_0_4 := fdq_312 hD hth r0
  have kz_0_5 := fdq_28 hD hth r0
  have kz_0_6 := fdq_313 hD hth r0
  have kz_0_7 := fdq_29 hD hth r0
  have kz_0_8 := fdq_314 hD hth r0
  have nf0 : fc_1 PRD (20, [0], [50, 2, 0, 6, 8, 3, 7, 7, 3, 2, 0, 6, 0, 3, 0, 3, 2, 0, 8, 0, 9999]) ws (vs) := ⟨nf_in hl rfl, sgq_1840 (vc_Sy_advance_11_0 (v_iv (n_v vs 5)) (v_iv (n_v vs 10)) (w_fi ws (n_v vs 0) 6) (w_fi ws (n_v vs 0) 5) (w_fi ws (n_v vs 0) 7) (w_fi ws (n_v vs 0) 4) (w_ei w2 (w_ar ws (n_v vs 0) 3)) (w_fi w1 (n_v vs 0) 4) (w_fi w1 (n_v vs 0) 5) (w_fi w1 (n_v vs 0) 7) (w_fi ws (n_v vs 0) 8) (w_fi w1 (n_v vs 0) 8) (w_fi w2 (n_v vs 0) 4) (w_fi w1 (n_v vs 0) 6) (w_fi w2 (n_v vs 0) 6) (w_fi w2 (n_v vs 0) 7) (w_fi w2 (n_v vs 0) 8) (w_ei ws (w_ar ws (n_v vs 0) 3)) (w_ei w1 (w_ar ws (n_v vs 0) 3)) (w_ei w3 (w_ar ws (n_v vs 0) 3)) k5 k10 d1 d2 fe_0_4_1 fe_0_5_1 fe_0_7_1 fe_0_8_1 fe_0_4_2 fe_0_6_2 fe_0_7_2 fe_0_8_2 hE_0_3_1 hE_0_3_2 hE_0_3_3 kz_0_4 kz_0_5 kz_0_6 kz_0_7 kz_0_8)⟩
  refine ⟨(fun _ h => (by cases h)), [], trivial, ?_, (fun _ h => (by cases h))⟩
  rw [List.append_nil]
  exact List.forall_mem_cons.mpr ⟨⟨show (20 : Nat) < 100 from by decide, nf0⟩, (fun _ h => (by cases h))⟩
set_option maxHeartbeats 4000000 in
theorem vc_Sy_advance_12_0 (x6 : Int) (kind_0 : Int) (number_0 : Int) (k6 : 0 ≤ x6 ∧ x6 ≤ 0) (g0 : x6 = kind_0) (kz_0_6 : 0 ≤ kind_0 ∧ kind_0 ≤ 127) (kz_0_8 : 0 ≤ number_0 ∧ number_0 ≤ 1000000) : (kind_0 ≠ 3) ∨ (number_0 ≤ 9999) := by
  first
    | omega
  
def o_Sy_advance_12 : or_T := (76, 7, [(0, (2, 0, 0, [11])), (6, (0, 0, 0, []))], [(9, [6, 2], [6]), (24, [0, 2], [])], [], [], [(20, [0], [50, 2, 0, 6, 8, 3, 7, 7, 3, 2, 0, 6, 0, 3, 0, 3, 2, 0, 8, 0, 9999])], [], [])
theorem oo_Sy_advance_12 {kA : Nat → ClassId} : or_ok PRD kA GG o_Sy_advance_12 := by
  refine or_mk fun A ta ws vs hD hth hl => ?_
  intro t0 r0 t6 k6 f0 f1
  replace f0 := shm_111 f0
  replace f1 := shm_5 f1
  have q2 : n_v vs 2 = n_v vs 0 := f1.symm
  simp only [q2] at f0
  have g0 : v_iv (n_v vs 6) = w_fi ws (n_v vs 0) 6 := congrArg v_iv f0
  have kz_0_6 := fdq_313 hD hth r0
  have kz_0_8 := fdq_314 hD hth r0
  have nf0 : fc_1 PRD (20, [0], [50, 2, 0, 6, 8, 3, 7, 7, 3, 2, 0, 6, 0, 3, 0, 3, 2, 0, 8, 0, 9999]) ws (vs) := ⟨nf_in hl rfl, sgq_1840 (vc_Sy_advance_12_0 (v_iv (n_v vs 6)) (w_fi ws (n_v vs 0) 6) (w_fi ws (n_v vs 0) 8) k6 g0 kz_0_6 kz_0_8)⟩
  refine ⟨(fun _ h => (by cases h)), [], trivial, ?_, (fun _ h => (by cases h))⟩
  rw [List.append_nil]
  exact List.forall_mem_cons.mpr ⟨⟨show (20 : Nat) < 100 from by decide, nf0⟩, (fun _ h => (by cases h))⟩
set_option maxHeartbeats 4000000 in
theorem vc_Sy_advance_13_0 (x15 : Int) (kind_0 : Int) (next_0 : Int) (begin_0 : Int) (end_0 : Int) (bytes_2 : Int → Int) (bytes_3 : Int → Int) (end_1 : Int) (next_1 : Int) (begin_1 : Int) (number_0 : Int) (number_1 : Int) (end_2 : Int) (kind_1 : Int) (kind_2 : Int) (begin_2 : Int) (number_2 : Int) (bytes_0 : Int → Int) (bytes_1 : Int → Int) (k15 : 1 ≤ x15 ∧ x15 ≤ 1) (g0 : x15 = kind_0) (fe_0_4_1 : end_0 = end_1) (fe_0_5_1 : next_0 = next_1) (fe_0_7_1 : begin_0 = begin_1) (fe_0_8_1 : number_0 = number_1) (fe_0_4_2 : end_1 = end_2) (fe_0_6_2 : kind_1 = kind_2) (fe_0_7_2 : begin_1 = begin_2) (fe_0_8_2 : number_1 = number_2) (hE_0_3_1 : ∀ j : Int, bytes_0 j = bytes_1 j) (hE_0_3_2 : ∀ j : Int, bytes_1 j = bytes_2 j) (hE_0_3_3 : ∀ j : Int, bytes_2 j = bytes_3 j) (kz_0_4 : 0 ≤ end_0 ∧ end_0 ≤ 2000) (kz_0_5 : 0 ≤ next_0 ∧ next_0 ≤ 2000) (kz_0_6 : 0 ≤ kind_0 ∧ kind_0 ≤ 127) (kz_0_7 : 0 ≤ begin_0 ∧ begin_0 ≤ 2000) (kz_0_8 : 0 ≤ number_0 ∧ number_0 ≤ 1000000) : (kind_0 ≠ 3) ∨ (number_0 ≤ 9999) := by
  subst fe_0_4_1
  subst fe_0_5_1
  subst fe_0_7_1
  subst fe_0_8_1
  subst fe_0_4_2
  subst fe_0_6_2
  subst fe_0_7_2
  subst fe_0_8_2
  have e_hE_0_3_1 := funext hE_0_3_1; subst e_hE_0_3_1
  have e_hE_0_3_2 := funext hE_0_3_2; subst e_hE_0_3_2
  have e_hE_0_3_3 := funext hE_0_3_3; subst e_hE_0_3_3
  first
    | omega
  
def o_Sy_advance_13 : or_T := (297, 16, [(0, (2, 0, 0, [11])), (15, (0, 1, 1, []))], [(9, [15, 2], [6]), (24, [0, 2], []), (101, [2, 15], [6]), (101, [2, 14], [5]), (101, [2, 3], [7])], [], [], [(20, [0], [50, 2, 0, 6, 8, 3, 7, 7, 3, 2, 0, 6, 0, 3, 0, 3, 2, 0, 8, 0, 9999])], [], [])
theorem oo_Sy_advance_13 {kA : Nat → ClassId} : or_ok PRD kA GG o_Sy_advance_13 := by
  refine or_mk fun A ta ws vs hD hth hl => ?_
  intro t0 r0 t15 k15 f0 f6 ta1 w1 le1 s1 ta2 w2 le2 s2 ta3 w3 le3 s3
  replace f0 := shm_111 f0
  replace f6 := shm_5 f6
  have s1 : (∀ b j, w_el ws b j = w_el w1 b j) ∧ ∀ b j, w_fd ws b j = if b = v_ad (n_v vs 2) ∧ j = 6 then n_v vs 15 else w_fd w1 b j := s1.2
  have s2 : (∀ b j, w_el w1 b j = w_el w2 b j) ∧ ∀ b j, w_fd w1 b j = if b = v_ad (n_v vs 2) ∧ j = 5 then n_v vs 14 else w_fd w2 b j := s2.2
  have s3 : (∀ b j, w_el w2 b j = w_el w3 b j) ∧ ∀ b j, w_fd w2 b j = if b = v_ad (n_v vs 2) ∧ j = 7 then n_v vs 3 else w_fd w3 b j := s3.2
  have q2 : n_v vs 2 = n_v vs 0 := f6.symm
  simp only [q2] at f0
  rw [q2] at s1
  rw [q2] at s2
  rw [q2] at s3
  have g0 : v_iv (n_v vs 15) = w_fi ws (n_v vs 0) 6 := congrArg v_iv f0
  have fe_0_4_1 : w_fi ws (n_v vs 0) 4 = w_fi w1 (n_v vs 0) 4 := by show v_iv (w_fd _ _ _) = v_iv (w_fd _ _ _); rw [s1.2, if_neg (fun e => absurd e.2 (by decide))]
  have fe_0_5_1 : w_fi ws (n_v vs 0) 5 = w_fi w1 (n_v vs 0) 5 := by show v_iv (w_fd _ _ _) = v_iv (w_fd _ _ _); rw [s1.2, if_neg (fun e => absurd e.2 (by decide))]
  have fe_0_7_1 : w_fi ws (n_v vs 0) 7 = w_fi w1 (n_v vs 0) 7 := by show v_iv (w_fd _ _ _) = v_iv (w_fd _ _ _); rw [s1.2, if_neg (fun e => absurd e.2 (by decide))]
  have fe_0_8_1 : w_fi ws (n_v vs 0) 8 = w_fi w1 (n_v vs 0) 8 := by show v_iv (w_fd _ _ _) = v_iv (w_fd _ _ _); rw [s1.2, if_neg (fun e => absurd e.2 (by decide))]
  have fe_0_4_2 : w_fi w1 (n_v vs 0) 4 = w_fi w2 (n_v vs 0) 4 := by show v_iv (w_fd _ _ _) = v_iv (w_fd _ _ _); rw [s2.2, if_neg (fun e => absurd e.2 (by decide))]
  have fe_0_6_2 : w_fi w1 (n_v vs 0) 6 = w_fi w2 (n_v vs 0) 6 := by show v_iv (w_fd _ _ _) = v_iv (w_fd _ _ _); rw [s2.2, if_neg (fun e => absurd e.2 (by decide))]
  have fe_0_7_2 : w_fi w1 (n_v vs 0) 7 = w_fi w2 (n_v vs 0) 7 := by show v_iv (w_fd _ _ _) = v_iv (w_fd _ _ _); rw [s2.2, if_neg (fun e => absurd e.2 (by decide))]
  have fe_0_8_2 : w_fi w1 (n_v vs 0) 8 = w_fi w2 (n_v vs 0) 8 := by show v_iv (w_fd _ _ _) = v_iv (w_fd _ _ _); rw [s2.2, if_neg (fun e => absurd e.2 (by decide))]
  have hE_0_3_1 : ∀ j : Int, w_ei ws (w_ar ws (n_v vs 0) 3) j = w_ei w1 (w_ar ws (n_v vs 0) 3) j := fun j => s1.1 _ _
  have hE_0_3_2 : ∀ j : Int, w_ei w1 (w_ar ws (n_v vs 0) 3) j = w_ei w2 (w_ar ws (n_v vs 0) 3) j := fun j => s2.1 _ _
  have hE_0_3_3 : ∀ j : Int, w_ei w2 (w_ar ws (n_v vs 0) 3) j = w_ei w3 (w_ar ws (n_v vs 0) 3) j := fun j => s3.1 _ _
  have kz_0_4 := fdq_312 hD hth r0
  have kz_0_5 := fdq_28 hD hth r0
  have kz_0_6 := fdq_313 hD hth r0
  have kz_0_7 := fdq_29 hD hth r0
  have kz_0_8 := fdq_314 hD hth r0
  have nf0 : fc_1 PRD (20, [0], [50, 2, 0, 6, 8, 3, 7, 7, 3, 2, 0, 6, 0, 3, 0, 3, 2, 0, 8, 0, 9999]) ws (vs) := ⟨nf_in hl rfl, sgq_1840 (vc_Sy_advance_13_0 (v_iv (n_v vs 15)) (w_fi ws (n_v vs 0) 6) (w_fi ws (n_v vs 0) 5) (w_fi ws (n_v vs 0) 7) (w_fi ws (n_v vs 0) 4) (w_ei w2 (w_ar ws (n_v vs 0) 3)) (w_ei w3 (w_ar ws (n_v vs 0) 3)) (w_fi w1 (n_v vs 0) 4) (w_fi w1 (n_v vs 0) 5) (w_fi w1 (n_v vs 0) 7) (w_fi ws (n_v vs 0) 8) (w_fi w1 (n_v vs 0) 8) (w_fi w2 (n_v vs 0) 4) (w_fi w1 (n_v vs 0) 6) (w_fi w2 (n_v vs 0) 6) (w_fi w2 (n_v vs 0) 7) (w_fi w2 (n_v vs 0) 8) (w_ei ws (w_ar ws (n_v vs 0) 3)) (w_ei w1 (w_ar ws (n_v vs 0) 3)) k15 g0 fe_0_4_1 fe_0_5_1 fe_0_7_1 fe_0_8_1 fe_0_4_2 fe_0_6_2 fe_0_7_2 fe_0_8_2 hE_0_3_1 hE_0_3_2 hE_0_3_3 kz_0_4 kz_0_5 kz_0_6 kz_0_7 kz_0_8)⟩
  refine ⟨(fun _ h => (by cases h)), [], trivial, ?_, (fun _ h => (by cases h))⟩
  rw [List.append_nil]
  exact List.forall_mem_cons.mpr ⟨⟨show (20 : Nat) < 100 from by decide, nf0⟩, (fun _ h => (by cases h))⟩
set_option maxHeartbeats 4000000 in
theorem vc_Sy_advance_14_r0 (x3 : Int) (x10 : Int) (x16 : Int) (begin_0 : Int) (end_0 : Int) (bytes_1 : Int → Int) (bytes_2 : Int → Int) (end_1 : Int) (begin_1 : Int) (bytes_0 : Int → Int) (k3 : 0 ≤ x3 ∧ x3 ≤ 1999) (k10 : 1 ≤ x10 ∧ x10 ≤ 47) (k16 : 0 ≤ x16 ∧ x16 ≤ 65535) (f4 : x16 = x10) (h13 : x10 = bytes_1 (x3)) (fe_0_4_1 : end_0 = end_1) (fe_0_7_1 : begin_0 = begin_1) (hE_0_3_1 : ∀ j : Int, bytes_0 j = bytes_1 j) (hE_0_3_2 : ∀ j : Int, bytes_1 j = bytes_2 j) (kz_0_4 : 0 ≤ end_0 ∧ end_0 ≤ 2000) (kz_0_7 : 0 ≤ begin_0 ∧ begin_0 ≤ 2000) : 0 ≤ x16 ∧ x16 ≤ 127 := by
  subst fe_0_4_1
  subst fe_0_7_1
  have e_hE_0_3_1 := funext hE_0_3_1; subst e_hE_0_3_1
  have e_hE_0_3_2 := funext hE_0_3_2; subst e_hE_0_3_2
  first
    | omega
  
def o_Sy_advance_14 : or_T := (283, 17, [(0, (2, 0, 0, [11])), (2, (2, 0, 0, [11])), (3, (0, 0, 1999, [])), (4, (2, 0, 0, [109])), (5, (0, 1, 2000, [])), (6, (0, -128, 127, [])), (7, (0, 32, 32, [])), (8, (0, -128, 127, [])), (9, (0, 10, 10, [])), (10, (0, 1, 47, [])), (12, (0, 0, 0, [])), (13, (0, 1, 1, [])), (14, (0, 1, 2000, [])), (16, (0, 0, 65535, []))], [(9, [14, 2], [5]), (9, [3, 2], [7]), (9, [5, 2], [4]), (9, [4, 2], [3]), (22, [16, 10], []), (8, [10], [4]), (20, [10, 12], [61, 0, 1098]), (24, [0, 2], []), (101, [2, 14], [5]), (1, [14, 3, 13], []), (9, [3, 2], [5]), (8, [12], [0]), (20, [10, 12], [61, 0, 1098]), (10, [10, 4, 3], []), (7, [3, 5], [2]), (101, [2, 3], [7]), (7, [8, 9], [1]), (10, [8, 4, 3], []), (7, [6, 7], [1]), (10, [6, 4, 3], []), (7, [3, 5], [2])], [(16, (0, 0, 127, []))], [], [], [], [(14, 3, 1, 1), (14, 5, -4294967296, 0), (3, 5, -4294967296, -1)])
theorem oo_Sy_advance_14 {kA : Nat → ClassId} : or_ok PRD kA GG o_Sy_advance_14 := by
  refine or_mk fun A ta ws vs hD hth hl => ?_
  intro t0 r0 t2 r2 t3 k3 t4 r4 t5 k5 t6 k6 t7 k7 t8 k8 t9 k9 t10 k10 t12 k12 t13 k13 t14 k14 t16 k16 d0 d1 d2 f0 f1 f2 f3 f4 f5 f6 f7 ta1 w1 le1 s1 f9 f10 f11 f12 f13 f14 ta2 w2 le2 s2 f16 f17 f18 f19 f20
  replace f3 := shm_137 f3
  replace f7 := shm_5 f7
  have s1 : (∀ b j, w_el ws b j = w_el w1 b j) ∧ ∀ b j, w_fd ws b j = if b = v_ad (n_v vs 2) ∧ j = 5 then n_v vs 14 else w_fd w1 b j := s1.2
  replace f13 := shm_107 f13
  have s2 : (∀ b j, w_el w1 b j = w_el w2 b j) ∧ ∀ b j, w_fd w1 b j = if b = v_ad (n_v vs 2) ∧ j = 7 then n_v vs 3 else w_fd w2 b j := s2.2
  have q2 : n_v vs 2 = n_v vs 0 := f7.symm
  simp only [q2] at f3
  rw [q2] at s1
  rw [q2] at s2
  have ad_4 : v_ad (n_v vs 4) = w_ar ws (n_v vs 0) 3 := congrArg v_ad f3
  simp only [ad_4] at f13
  have h13 : v_iv (n_v vs 10) = w_ei w1 (w_ar ws (n_v vs 0) 3) (v_iv (n_v vs 3)) := f13
  have fe_0_4_1 : w_fi ws (n_v vs 0) 4 = w_fi w1 (n_v vs 0) 4 := by show v_iv (w_fd _ _ _) = v_iv (w_fd _ _ _); rw [s1.2, if_neg (fun e => absurd e.2 (by decide))]
  have fe_0_7_1 : w_fi ws (n_v vs 0) 7 = w_fi w1 (n_v vs 0) 7 := by show v_iv (w_fd _ _ _) = v_iv (w_fd _ _ _); rw [s1.2, if_neg (fun e => absurd e.2 (by decide))]
  have hE_0_3_1 : ∀ j : Int, w_ei ws (w_ar ws (n_v vs 0) 3) j = w_ei w1 (w_ar ws (n_v vs 0) 3) j := fun j => s1.1 _ _
  have hE_0_3_2 : ∀ j : Int, w_ei w1 (w_ar ws (n_v vs 0) 3) j = w_ei w2 (w_ar ws (n_v vs 0) 3) j := fun j => s2.1 _ _
  have kz_0_4 := fdq_312 hD hth r0
  have kz_0_7 := fdq_29 hD hth r0
  have hrf0 : 0 ≤ v_iv (n_v vs 16) ∧ v_iv (n_v vs 16) ≤ 127 := vc_Sy_advance_14_r0 (v_iv (n_v vs 3)) (v_iv (n_v vs 10)) (v_iv (n_v vs 16)) (w_fi ws (n_v vs 0) 7) (w_fi ws (n_v vs 0) 4) (w_ei w1 (w_ar ws (n_v vs 0) 3)) (w_ei w2 (w_ar ws (n_v vs 0) 3)) (w_fi w1 (n_v vs 0) 4) (w_fi w1 (n_v vs 0) 7) (w_ei ws (w_ar ws (n_v vs 0) 3)) k3 k10 k16 (shm_47 f4) h13 fe_0_4_1 fe_0_7_1 hE_0_3_1 hE_0_3_2 kz_0_4 kz_0_7
  have rf16 : tv_ok ta (0, 0, 127, []) (n_v vs 16) := tv_in t16 (by first | omega | grind) (by first | omega | grind)
  refine ⟨List.forall_mem_cons.mpr ⟨rf16, (fun _ h => (by cases h))⟩, [], trivial, ?_, (fun _ h => (by cases h))⟩
  rw [List.append_nil]
  exact (fun _ h => (by cases h))
set_option maxHeartbeats 4000000 in
theorem vc_Sy_advance_15_0 (x18 : Int) (kind_0 : Int) (next_0 : Int) (begin_0 : Int) (end_0 : Int) (bytes_2 : Int → Int) (bytes_3 : Int → Int) (end_1 : Int) (next_1 : Int) (begin_1 : Int) (number_0 : Int) (number_1 : Int) (end_2 : Int) (kind_1 : Int) (kind_2 : Int) (begin_2 : Int) (number_2 : Int) (bytes_0 : Int → Int) (bytes_1 : Int → Int) (k18 : 1 ≤ x18 ∧ x18 ≤ 1) (g0 : x18 = kind_0) (fe_0_4_1 : end_0 = end_1) (fe_0_5_1 : next_0 = next_1) (fe_0_7_1 : begin_0 = begin_1) (fe_0_8_1 : number_0 = number_1) (fe_0_4_2 : end_1 = end_2) (fe_0_6_2 : kind_1 = kind_2) (fe_0_7_2 : begin_1 = begin_2) (fe_0_8_2 : number_1 = number_2) (hE_0_3_1 : ∀ j : Int, bytes_0 j = bytes_1 j) (hE_0_3_2 : ∀ j : Int, bytes_1 j = bytes_2 j) (hE_0_3_3 : ∀ j : Int, bytes_2 j = bytes_3 j) (kz_0_4 : 0 ≤ end_0 ∧ end_0 ≤ 2000) (kz_0_5 : 0 ≤ next_0 ∧ next_0 ≤ 2000) (kz_0_6 : 0 ≤ kind_0 ∧ kind_0 ≤ 127) (kz_0_7 : 0 ≤ begin_0 ∧ begin_0 ≤ 2000) (kz_0_8 : 0 ≤ number_0 ∧ number_0 ≤ 1000000) : (kind_0 ≠ 3) ∨ (number_0 ≤ 9999) := by
  subst fe_0_4_1
  subst fe_0_5_1
  subst fe_0_7_1
  subst fe_0_8_1
  subst fe_0_4_2
  subst fe_0_6_2
  subst fe_0_7_2
  subst fe_0_8_2
  have e_hE_0_3_1 := funext hE_0_3_1; subst e_hE_0_3_1
  have e_hE_0_3_2 := funext hE_0_3_2; subst e_hE_0_3_2
  have e_hE_0_3_3 := funext hE_0_3_3; subst e_hE_0_3_3
  first
    | omega
  
def o_Sy_advance_15 : or_T := (297, 19, [(0, (2, 0, 0, [11])), (2, (2, 0, 0, [11])), (3, (0, 0, 1999, [])), (4, (2, 0, 0, [109])), (5, (0, 1, 2000, [])), (6, (0, -128, 127, [])), (7, (0, 32, 32, [])), (8, (0, -128, 127, [])), (9, (0, 10, 10, [])), (10, (0, 1, 47, [])), (12, (0, 0, 0, [])), (13, (0, 1, 1, [])), (14, (0, 1, 2000, [])), (16, (0, 0, 127, [])), (17, (0, -1, -1, [])), (18, (0, 1, 1, []))], [(9, [18, 2], [6]), (9, [14, 2], [5]), (9, [3, 2], [7]), (9, [5, 2], [4]), (9, [4, 2], [3]), (20, [17, 16], [50, 0, 0, 3, 6, 0, 2, 1, 0, 0, -1, 0, 2, 0, 33, 1, 1]), (22, [16, 10], []), (20, [10, 12], [61, 0, 1098]), (24, [0, 2], []), (101, [2, 18], [6]), (8, [17], [2]), (20, [17, 16], [50, 0, 0, 3, 6, 0, 2, 1, 0, 0, -1, 0, 2, 0, 33, 1, 1]), (22, [16, 10], []), (8, [10], [4]), (20, [10, 12], [61, 0, 1098]), (101, [2, 14], [5]), (1, [14, 3, 13], []), (9, [3, 2], [5]), (8, [12], [0]), (20, [10, 12], [61, 0, 1098]), (10, [10, 4, 3], []), (7, [3, 5], [2]), (101, [2, 3], [7]), (7, [8, 9], [1]), (10, [8, 4, 3], []), (7, [6, 7], [1]), (10, [6, 4, 3], []), (7, [3, 5], [2])], [], [], [(20, [0], [50, 2, 0, 6, 8, 3, 7, 7, 3, 2, 0, 6, 0, 3, 0, 3, 2, 0, 8, 0, 9999])], [], [(14, 3, 1, 1), (14, 5, -4294967296, 0), (3, 5, -4294967296, -1)])
theorem oo_Sy_advance_15 {kA : Nat → ClassId} : or_ok PRD kA GG o_Sy_advance_15 := by
  refine or_mk fun A ta ws vs hD hth hl => ?_
  intro t0 r0 t2 r2 t3 k3 t4 r4 t5 k5 t6 k6 t7 k7 t8 k8 t9 k9 t10 k10 t12 k12 t13 k13 t14 k14 t16 k16 t17 k17 t18 k18 d0 d1 d2 f0 f1 f2 f3 f4 f5 f6 f7 f8 ta1 w1 le1 s1 f10 f11 f12 f13 f14 ta2 w2 le2 s2 f16 f17 f18 f19 f20 f21 ta3 w3 le3 s3 f23 f24 f25 f26 f27
  replace f0 := shm_111 f0
  replace f8 := shm_5 f8
  have s1 : (∀ b j, w_el ws b j = w_el w1 b j) ∧ ∀ b j, w_fd ws b j = if b = v_ad (n_v vs 2) ∧ j = 6 then n_v vs 18 else w_fd w1 b j := s1.2
  have s2 : (∀ b j, w_el w1 b j = w_el w2 b j) ∧ ∀ b j, w_fd w1 b j = if b = v_ad (n_v vs 2) ∧ j = 5 then n_v vs 14 else w_fd w2 b j := s2.2
  have s3 : (∀ b j, w_el w2 b j = w_el w3 b j) ∧ ∀ b j, w_fd w2 b j = if b = v_ad (n_v vs 2) ∧ j = 7 then n_v vs 3 else w_fd w3 b j := s3.2
  have q2 : n_v vs 2 = n_v vs 0 := f8.symm
  simp only [q2] at f0
  rw [q2] at s1
  rw [q2] at s2
  rw [q2] at s3
  have g0 : v_iv (n_v vs 18) = w_fi ws (n_v vs 0) 6 := congrArg v_iv f0
  have fe_0_4_1 : w_fi ws (n_v vs 0) 4 = w_fi w1 (n_v vs 0) 4 := by show v_iv (w_fd _ _ _) = v_iv (w_fd _ _ _); rw [s1.2, if_neg (fun e => absurd e.2 (by decide))]
  have fe_0_5_1 : w_fi ws (n_v vs 0) 5 = w_fi w1 (n_v vs 0) 5 := by show v_iv (w_fd _ _ _) = v_iv (w_fd _ _ _); rw [s1.2, if_neg (fun e => absurd e.2 (by decide))]
  have fe_0_7_1 : w_fi ws (n_v vs 0) 7 = w_fi w1 (n_v vs 0) 7 := by show v_iv (w_fd _ _ _) = v_iv (w_fd _ _ _); rw [s1.2, if_neg (fun e => absurd e.2 (by decide))]
  have fe_0_8_1 : w_fi ws (n_v vs 0) 8 = w_fi w1 (n_v vs 0) 8 := by show v_iv (w_fd _ _ _) = v_iv (w_fd _ _ _); rw [s1.2, if_neg (fun e => absurd e.2 (by decide))]
  have fe_0_4_2 : w_fi w1 (n_v vs 0) 4 = w_fi w2 (n_v vs 0) 4 := by show v_iv (w_fd _ _ _) = v_iv (w_fd _ _ _); rw [s2.2, if_neg (fun e => absurd e.2 (by decide))]
  have fe_0_6_2 : w_fi w1 (n_v vs 0) 6 = w_fi w2 (n_v vs 0) 6 := by show v_iv (w_fd _ _ _) = v_iv (w_fd _ _ _); rw [s2.2, if_neg (fun e => absurd e.2 (by decide))]
  have fe_0_7_2 : w_fi w1 (n_v vs 0) 7 = w_fi w2 (n_v vs 0) 7 := by show v_iv (w_fd _ _ _) = v_iv (w_fd _ _ _); rw [s2.2, if_neg (fun e => absurd e.2 (by decide))]
  have fe_0_8_2 : w_fi w1 (n_v vs 0) 8 = w_fi w2 (n_v vs 0) 8 := by show v_iv (w_fd _ _ _) = v_iv (w_fd _ _ _); rw [s2.2, if_neg (fun e => absurd e.2 (by decide))]
  have hE_0_3_1 : ∀ j : Int, w_ei ws (w_ar ws (n_v vs 0) 3) j = w_ei w1 (w_ar ws (n_v vs 0) 3) j := fun j => s1.1 _ _
  have hE_0_3_2 : ∀ j : Int, w_ei w1 (w_ar ws (n_v vs 0) 3) j = w_ei w2 (w_ar ws (n_v vs 0) 3) j := fun j => s2.1 _ _
  have hE_0_3_3 : ∀ j : Int, w_ei w2 (w_ar ws (n_v vs 0) 3) j = w_ei w3 (w_ar ws (n_v vs 0) 3) j := fun j => s3.1 _ _
  have kz_0_4 := fdq_312 hD hth r0
  have kz_0_5 := fdq_28 hD hth r0
  have kz_0_6 := fdq_313 hD hth r0
  have kz_0_7 := fdq_29 hD hth r0
  have kz_0_8 := fdq_314 hD hth r0
  have nf0 : fc_1 PRD (20, [0], [50, 2, 0, 6, 8, 3, 7, 7, 3, 2, 0, 6, 0, 3, 0, 3, 2, 0, 8, 0, 9999]) ws (vs) := ⟨nf_in hl rfl, sgq_1840 (vc_Sy_advance_15_0 (v_iv (n_v vs 18)) (w_fi ws (n_v vs 0) 6) (w_fi ws (n_v vs 0) 5) (w_fi ws (n_v vs 0) 7) (w_fi ws (n_v vs 0) 4) (w_ei w2 (w_ar ws (n_v vs 0) 3)) (w_ei w3 (w_ar ws (n_v vs 0) 3)) (w_fi w1 (n_v vs 0) 4) (w_fi w1 (n_v vs 0) 5) (w_fi w1 (n_v vs 0) 7) (w_fi ws (n_v vs 0) 8) (w_fi w1 (n_v vs 0) 8) (w_fi w2 (n_v vs 0) 4) (w_fi w1 (n_v vs 0) 6) (w_fi w2 (n_v vs 0) 6) (w_fi w2 (n_v vs 0) 7) (w_fi w2 (n_v vs 0) 8) (w_ei ws (w_ar ws (n_v vs 0) 3)) (w_ei w1 (w_ar ws (n_v vs 0) 3)) k18 g0 fe_0_4_1 fe_0_5_1 fe_0_7_1 fe_0_8_1 fe_0_4_2 fe_0_6_2 fe_0_7_2 fe_0_8_2 hE_0_3_1 hE_0_3_2 hE_0_3_3 kz_0_4 kz_0_5 kz_0_6 kz_0_7 kz_0_8)⟩
  refine ⟨(fun _ h => (by cases h)), [], trivial, ?_, (fun _ h => (by cases h))⟩
  rw [List.append_nil]
  exact List.forall_mem_cons.mpr ⟨⟨show (20 : Nat) < 100 from by decide, nf0⟩, (fun _ h => (by cases h))⟩
set_option maxHeartbeats 4000000 in
theorem vc_Sy_advance_16_0 (x3 : Int) (x6 : Int) (x7 : Int) (x8 : Int) (x9 : Int) (x10 : Int) (x16 : Int) (x17 : Int) (kind_0 : Int) (next_0 : Int) (begin_0 : Int) (end_0 : Int) (bytes_2 : Int → Int) (bytes_3 : Int → Int) (end_1 : Int) (next_1 : Int) (begin_1 : Int) (number_0 : Int) (number_1 : Int) (end_2 : Int) (kind_1 : Int) (kind_2 : Int) (begin_2 : Int) (number_2 : Int) (bytes_0 : Int → Int) (bytes_1 : Int → Int) (k3 : 0 ≤ x3 ∧ x3 ≤ 1999) (k6 : (-128) ≤ x6 ∧ x6 ≤ 127) (k7 : 32 ≤ x7 ∧ x7 ≤ 32) (k8 : (-128) ≤ x8 ∧ x8 ≤ 127) (k9 : 10 ≤ x9 ∧ x9 ≤ 10) (k10 : 1 ≤ x10 ∧ x10 ≤ 47) (k16 : 0 ≤ x16 ∧ x16 ≤ 127) (k17 : 0 ≤ x17 ∧ x17 ≤ 13) (g0 : x10 = kind_0) (f6 : x16 = x10) (f11 : (x17 ≤ (-1)) ∨ (33 ≤ x16)) (h20 : x10 = bytes_2 (x3)) (f23 : x8 ≠ x9) (h24 : x8 = bytes_3 (x3)) (f25 : x6 ≠ x7) (h26 : x6 = bytes_3 (x3)) (fe_0_4_1 : end_0 = end_1) (fe_0_5_1 : next_0 = next_1) (fe_0_7_1 : begin_0 = begin_1) (fe_0_8_1 : number_0 = number_1) (fe_0_4_2 : end_1 = end_2) (fe_0_6_2 : kind_1 = kind_2) (fe_0_7_2 : begin_1 = begin_2) (fe_0_8_2 : number_1 = number_2) (hE_0_3_1 : ∀ j : Int, bytes_0 j = bytes_1 j) (hE_0_3_2 : ∀ j : Int, bytes_1 j = bytes_2 j) (hE_0_3_3 : ∀ j : Int, bytes_2 j = bytes_3 j) (kz_0_4 : 0 ≤ end_0 ∧ end_0 ≤ 2000) (kz_0_5 : 0 ≤ next_0 ∧ next_0 ≤ 2000) (kz_0_6 : 0 ≤ kind_0 ∧ kind_0 ≤ 127) (kz_0_7 : 0 ≤ begin_0 ∧ begin_0 ≤ 2000) (kz_0_8 : 0 ≤ number_0 ∧ number_0 ≤ 1000000) : (kind_0 ≠ 3) ∨ (number_0 ≤ 9999) := by
  subst fe_0_4_1
  subst fe_0_5_1
  subst fe_0_7_1
  subst fe_0_8_1
  subst fe_0_4_2
  subst fe_0_6_2
  subst fe_0_7_2
  subst fe_0_8_2
  have e_hE_0_3_1 := funext hE_0_3_1; subst e_hE_0_3_1
  have e_hE_0_3_2 := funext hE_0_3_2; subst e_hE_0_3_2
  have e_hE_0_3_3 := funext hE_0_3_3; subst e_hE_0_3_3
  first
    | omega
  
def o_Sy_advance_16 : or_T := (297, 18, [(0, (2, 0, 0, [11])), (2, (2, 0, 0, [11])), (3, (0, 0, 1999, [])), (4, (2, 0, 0, [109])), (5, (0, 1, 2000, [])), (6, (0, -128, 127, [])), (7, (0, 32, 32, [])), (8, (0, -128, 127, [])), (9, (0, 10, 10, [])), (10, (0, 1, 47, [])), (12, (0, 0, 0, [])), (13, (0, 1, 1, [])), (14, (0, 1, 2000, [])), (16, (0, 0, 127, [])), (17, (0, 0, 13, []))], [(9, [10, 2], [6]), (9, [14, 2], [5]), (9, [3, 2], [7]), (9, [5, 2], [4]), (9, [4, 2], [3]), (20, [17, 16], [50, 0, 0, 3, 6, 0, 2, 1, 0, 0, -1, 0, 2, 0, 33, 1, 1]), (22, [16, 10], []), (20, [10, 12], [61, 0, 1098]), (24, [0, 2], []), (101, [2, 10], [6]), (8, [17], [3]), (20, [17, 16], [50, 0, 0, 3, 6, 0, 2, 1, 0, 0, -1, 0, 2, 0, 33, 1, 1]), (22, [16, 10], []), (8, [10], [4]), (20, [10, 12], [61, 0, 1098]), (101, [2, 14], [5]), (1, [14, 3, 13], []), (9, [3, 2], [5]), (8, [12], [0]), (20, [10, 12], [61, 0, 1098]), (10, [10, 4, 3], []), (7, [3, 5], [2]), (101, [2, 3], [7]), (7, [8, 9], [1]), (10, [8, 4, 3], []), (7, [6, 7], [1]), (10, [6, 4, 3], []), (7, [3, 5], [2])], [], [], [(20, [0], [50, 2, 0, 6, 8, 3, 7, 7, 3, 2, 0, 6, 0, 3, 0, 3, 2, 0, 8, 0, 9999])], [], [(14, 3, 1, 1), (14, 5, -4294967296, 0), (3, 5, -4294967296, -1)])
theorem oo_Sy_advance_16 {kA : Nat → ClassId} : or_ok PRD kA GG o_Sy_advance_16 := by
  refine or_mk fun A ta ws vs hD hth hl => ?_
  intro t0 r0 t2 r2 t3 k3 t4 r4 t5 k5 t6 k6 t7 k7 t8 k8 t9 k9 t10 k10 t12 k12 t13 k13 t14 k14 t16 k16 t17 k17 d0 d1 d2 f0 f1 f2 f3 f4 f5 f6 f7 f8 ta1 w1 le1 s1 f10 f11 f12 f13 f14 ta2 w2 le2 s2 f16 f17 f18 f19 f20 f21 ta3 w3 le3 s3 f23 f24 f25 f26 f27
  replace f0 := shm_111 f0
  replace f4 := shm_137 f4
  replace f8 := shm_5 f8
  have s1 : (∀ b j, w_el ws b j = w_el w1 b j) ∧ ∀ b j, w_fd ws b j = if b = v_ad (n_v vs 2) ∧ j = 6 then n_v vs 10 else w_fd w1 b j := s1.2
  have s2 : (∀ b j, w_el w1 b j = w_el w2 b j) ∧ ∀ b j, w_fd w1 b j = if b = v_ad (n_v vs 2) ∧ j = 5 then n_v vs 14 else w_fd w2 b j := s2.2
  replace f20 := shm_107 f20
  have s3 : (∀ b j, w_el w2 b j = w_el w3 b j) ∧ ∀ b j, w_fd w2 b j = if b = v_ad (n_v vs 2) ∧ j = 7 then n_v vs 3 else w_fd w3 b j := s3.2
  replace f24 := shm_107 f24
  replace f26 := shm_107 f26
  have q2 : n_v vs 2 = n_v vs 0 := f8.symm
  simp only [q2] at f0 f4
  rw [q2] at s1
  rw [q2] at s2
  rw [q2] at s3
  have ad_4 : v_ad (n_v vs 4) = w_ar ws (n_v vs 0) 3 := congrArg v_ad f4
  have g0 : v_iv (n_v vs 10) = w_fi ws (n_v vs 0) 6 := congrArg v_iv f0
  simp only [ad_4] at f20
  have h20 : v_iv (n_v vs 10) = w_ei w2 (w_ar ws (n_v vs 0) 3) (v_iv (n_v vs 3)) := f20
  simp only [ad_4] at f24
  have h24 : v_iv (n_v vs 8) = w_ei w3 (w_ar ws (n_v vs 0) 3) (v_iv (n_v vs 3)) := f24
  simp only [ad_4] at f26
  have h26 : v_iv (n_v vs 6) = w_ei w3 (w_ar ws (n_v vs 0) 3) (v_iv (n_v vs 3)) := f26
  have fe_0_4_1 : w_fi ws (n_v vs 0) 4 = w_fi w1 (n_v vs 0) 4 := by show v_iv (w_fd _ _ _) = v_iv (w_fd _ _ _); rw [s1.2, if_neg (fun e => absurd e.2 (by decide))]
  have fe_0_5_1 : w_fi ws (n_v vs 0) 5 = w_fi w1 (n_v vs 0) 5 := by show v_iv (w_fd _ _ _) = v_iv (w_fd _ _ _); rw [s1.2, if_neg (fun e => absurd e.2 (by decide))]
  have fe_0_7_1 : w_fi ws (n_v vs 0) 7 = w_fi w1 (n_v vs 0) 7 := by show v_iv (w_fd _ _ _) = v_iv (w_fd _ _ _); rw [s1.2, if_neg (fun e => absurd e.2 (by decide))]
  have fe_0_8_1 : w_fi ws (n_v vs 0) 8 = w_fi w1 (n_v vs 0) 8 := by show v_iv (w_fd _ _ _) = v_iv (w_fd _ _ _); rw [s1.2, if_neg (fun e => absurd e.2 (by decide))]
  have fe_0_4_2 : w_fi w1 (n_v vs 0) 4 = w_fi w2 (n_v vs 0) 4 := by show v_iv (w_fd _ _ _) = v_iv (w_fd _ _ _); rw [s2.2, if_neg (fun e => absurd e.2 (by decide))]
  have fe_0_6_2 : w_fi w1 (n_v vs 0) 6 = w_fi w2 (n_v vs 0) 6 := by show v_iv (w_fd _ _ _) = v_iv (w_fd _ _ _); rw [s2.2, if_neg (fun e => absurd e.2 (by decide))]
  have fe_0_7_2 : w_fi w1 (n_v vs 0) 7 = w_fi w2 (n_v vs 0) 7 := by show v_iv (w_fd _ _ _) = v_iv (w_fd _ _ _); rw [s2.2, if_neg (fun e => absurd e.2 (by decide))]
  have fe_0_8_2 : w_fi w1 (n_v vs 0) 8 = w_fi w2 (n_v vs 0) 8 := by show v_iv (w_fd _ _ _) = v_iv (w_fd _ _ _); rw [s2.2, if_neg (fun e => absurd e.2 (by decide))]
  have hE_0_3_1 : ∀ j : Int, w_ei ws (w_ar ws (n_v vs 0) 3) j = w_ei w1 (w_ar ws (n_v vs 0) 3) j := fun j => s1.1 _ _
  have hE_0_3_2 : ∀ j : Int, w_ei w1 (w_ar ws (n_v vs 0) 3) j = w_ei w2 (w_ar ws (n_v vs 0) 3) j := fun j => s2.1 _ _
  have hE_0_3_3 : ∀ j : Int, w_ei w2 (w_ar ws (n_v vs 0) 3) j = w_ei w3 (w_ar ws (n_v vs 0) 3) j := fun j => s3.1 _ _
  have kz_0_4 := fdq_312 hD hth r0
  have kz_0_5 := fdq_28 hD hth r0
  have kz_0_6 := fdq_313 hD hth r0
  have kz_0_7 := fdq_29 hD hth r0
  have kz_0_8 := fdq_314 hD hth r0
  have nf0 : fc_1 PRD (20, [0], [50, 2, 0, 6, 8, 3, 7, 7, 3, 2, 0, 6, 0, 3, 0, 3, 2, 0, 8, 0, 9999]) ws (vs) := ⟨nf_in hl rfl, sgq_1840 (vc_Sy_advance_16_0 (v_iv (n_v vs 3)) (v_iv (n_v vs 6)) (v_iv (n_v vs 7)) (v_iv (n_v vs 8)) (v_iv (n_v vs 9)) (v_iv (n_v vs 10)) (v_iv (n_v vs 16)) (v_iv (n_v vs 17)) (w_fi ws (n_v vs 0) 6) (w_fi ws (n_v vs 0) 5) (w_fi ws (n_v vs 0) 7) (w_fi ws (n_v vs 0) 4) (w_ei w2 (w_ar ws (n_v vs 0) 3)) (w_ei w3 (w_ar ws (n_v vs 0) 3)) (w_fi w1 (n_v vs 0) 4) (w_fi w1 (n_v vs 0) 5) (w_fi w1 (n_v vs 0) 7) (w_fi ws (n_v vs 0) 8) (w_fi w1 (n_v vs 0) 8) (w_fi w2 (n_v vs 0) 4) (w_fi w1 (n_v vs 0) 6) (w_fi w2 (n_v vs 0) 6) (w_fi w2 (n_v vs 0) 7) (w_fi w2 (n_v vs 0) 8) (w_ei ws (w_ar ws (n_v vs 0) 3)) (w_ei w1 (w_ar ws (n_v vs 0) 3)) k3 k6 k7 k8 k9 k10 k16 k17 g0 (shm_47 f6) (shm_49 f11) h20 (shm_40 f23) h24 (shm_40 f25) h26 fe_0_4_1 fe_0_5_1 fe_0_7_1 fe_0_8_1 fe_0_4_2 fe_0_6_2 fe_0_7_2 fe_0_8_2 hE_0_3_1 hE_0_3_2 hE_0_3_3 kz_0_4 kz_0_5 kz_0_6 kz_0_7 kz_0_8)⟩
  refine ⟨(fun _ h => (by cases h)), [], trivial, ?_, (fun _ h => (by cases h))⟩
  rw [List.append_nil]
  exact List.forall_mem_cons.mpr ⟨⟨show (20 : Nat) < 100 from by decide, nf0⟩, (fun _ h => (by cases h))⟩
set_option maxHeartbeats 4000000 in
theorem vc_Sy_advance_17_r0 (x3 : Int) (x10 : Int) (x16 : Int) (begin_0 : Int) (end_0 : Int) (bytes_1 : Int → Int) (bytes_2 : Int → Int) (end_1 : Int) (begin_1 : Int) (bytes_0 : Int → Int) (k3 : 0 ≤ x3 ∧ x3 ≤ 1999) (k10 : 58 ≤ x10 ∧ x10 ≤ 96) (k16 : 0 ≤ x16 ∧ x16 ≤ 65535) (f4 : x16 = x10) (h13 : x10 = bytes_1 (x3)) (fe_0_4_1 : end_0 = end_1) (fe_0_7_1 : begin_0 = begin_1) (hE_0_3_1 : ∀ j : Int, bytes_0 j = bytes_1 j) (hE_0_3_2 : ∀ j : Int, bytes_1 j = bytes_2 j) (kz_0_4 : 0 ≤ end_0 ∧ end_0 ≤ 2000) (kz_0_7 : 0 ≤ begin_0 ∧ begin_0 ≤ 2000) : 0 ≤ x16 ∧ x16 ≤ 127 := by
  subst fe_0_4_1
  subst fe_0_7_1
  have e_hE_0_3_1 := funext hE_0_3_1; subst e_hE_0_3_1
  have e_hE_0_3_2 := funext hE_0_3_2; subst e_hE_0_3_2
  first
    | omega
  
def o_Sy_advance_17 : or_T := (283, 17, [(0, (2, 0, 0, [11])), (2, (2, 0, 0, [11])), (3, (0, 0, 1999, [])), (4, (2, 0, 0, [109])), (5, (0, 1, 2000, [])), (6, (0, -128, 127, [])), (7, (0, 32, 32, [])), (8, (0, -128, 127, [])), (9, (0, 10, 10, [])), (10, (0, 58, 96, [])), (12, (0, 0, 0, [])), (13, (0, 1, 1, [])), (14, (0, 1, 2000, [])), (16, (0, 0, 65535, []))], [(9, [14, 2], [5]), (9, [3, 2], [7]), (9, [5, 2], [4]), (9, [4, 2], [3]), (22, [16, 10], []), (8, [10], [4]), (20, [10, 12], [61, 0, 1098]), (24, [0, 2], []), (101, [2, 14], [5]), (1, [14, 3, 13], []), (9, [3, 2], [5]), (8, [12], [0]), (20, [10, 12], [61, 0, 1098]), (10, [10, 4, 3], []), (7, [3, 5], [2]), (101, [2, 3], [7]), (7, [8, 9], [1]), (10, [8, 4, 3], []), (7, [6, 7], [1]), (10, [6, 4, 3], []), (7, [3, 5], [2])], [(16, (0, 0, 127, []))], [], [], [], [(14, 3, 1, 1), (14, 5, -4294967296, 0), (3, 5, -4294967296, -1)])
theorem oo_Sy_advance_17 {kA : Nat → ClassId} : or_ok PRD kA GG o_Sy_advance_17 := by
  refine or_mk fun A ta ws vs hD hth hl => ?_
  intro t0 r0 t2 r2 t3 k3 t4 r4 t5 k5 t6 k6 t7 k7 t8 k8 t9 k9 t10 k10 t12 k12 t13 k13 t14 k14 t16 k16 d0 d1 d2 f0 f1 f2 f3 f4 f5 f6 f7 ta1 w1 le1 s1 f9 f10 f11 f12 f13 f14 ta2 w2 le2 s2 f16 f17 f18 f19 f20
  replace f3 := shm_137 f3
  replace f7 := shm_5 f7
  have s1 : (∀ b j, w_el ws b j = w_el w1 b j) ∧ ∀ b j, w_fd ws b j = if b = v_ad (n_v vs 2) ∧ j = 5 then n_v vs 14 else w_fd w1 b j := s1.2
  replace f13 := shm_107 f13
  have s2 : (∀ b j, w_el w1 b j = w_el w2 b j) ∧ ∀ b j, w_fd w1 b j = if b = v_ad (n_v vs 2) ∧ j = 7 then n_v vs 3 else w_fd w2 b j := s2.2
  have q2 : n_v vs 2 = n_v vs 0 := f7.symm
  simp only [q2] at f3
  rw [q2] at s1
  rw [q2] at s2
  have ad_4 : v_ad (n_v vs 4) = w_ar ws (n_v vs 0) 3 := congrArg v_ad f3
  simp only [ad_4] at f13
  have h13 : v_iv (n_v vs 10) = w_ei w1 (w_ar ws (n_v vs 0) 3) (v_iv (n_v vs 3)) := f13
  have fe_0_4_1 : w_fi ws (n_v vs 0) 4 = w_fi w1 (n_v vs 0) 4 := by show v_iv (w_fd _ _ _) = v_iv (w_fd _ _ _); rw [s1.2, if_neg (fun e => absurd e.2 (by decide))]
  have fe_0_7_1 : w_fi ws (n_v vs 0) 7 = w_fi w1 (n_v vs 0) 7 := by show v_iv (w_fd _ _ _) = v_iv (w_fd _ _ _); rw [s1.2, if_neg (fun e => absurd e.2 (by decide))]
  have hE_0_3_1 : ∀ j : Int, w_ei ws (w_ar ws (n_v vs 0) 3) j = w_ei w1 (w_ar ws (n_v vs 0) 3) j := fun j => s1.1 _ _
  have hE_0_3_2 : ∀ j : Int, w_ei w1 (w_ar ws (n_v vs 0) 3) j = w_ei w2 (w_ar ws (n_v vs 0) 3) j := fun j => s2.1 _ _
  have kz_0_4 := fdq_312 hD hth r0
  have kz_0_7 := fdq_29 hD hth r0
  have hrf0 : 0 ≤ v_iv (n_v vs 16) ∧ v_iv (n_v vs 16) ≤ 127 := vc_Sy_advance_17_r0 (v_iv (n_v vs 3)) (v_iv (n_v vs 10)) (v_iv (n_v vs 16)) (w_fi ws (n_v vs 0) 7) (w_fi ws (n_v vs 0) 4) (w_ei w1 (w_ar ws (n_v vs 0) 3)) (w_ei w2 (w_ar ws (n_v vs 0) 3)) (w_fi w1 (n_v vs 0) 4) (w_fi w1 (n_v vs 0) 7) (w_ei ws (w_ar ws (n_v vs 0) 3)) k3 k10 k16 (shm_47 f4) h13 fe_0_4_1 fe_0_7_1 hE_0_3_1 hE_0_3_2 kz_0_4 kz_0_7
  have rf16 : tv_ok ta (0, 0, 127, []) (n_v vs 16) := tv_in t16 (by first | omega | grind) (by first | omega | grind)
  refine ⟨List.forall_mem_cons.mpr ⟨rf16, (fun _ h => (by cases h))⟩, [], trivial, ?_, (fun _ h => (by cases h))⟩
  rw [List.append_nil]
  exact (fun _ h => (by cases h))
set_option maxHeartbeats 4000000 in
theorem vc_Sy_advance_18_0 (x18 : Int) (kind_0 : Int) (next_0 : Int) (begin_0 : Int) (end_0 : Int) (bytes_2 : Int → Int) (bytes_3 : Int → Int) (end_1 : Int) (next_1 : Int) (begin_1 : Int) (number_0 : Int) (number_1 : Int) (end_2 : Int) (kind_1 : Int) (kind_2 : Int) (begin_2 : Int) (number_2 : Int) (bytes_0 : Int → Int) (bytes_1 : Int → Int) (k18 : 1 ≤ x18 ∧ x18 ≤ 1) (g0 : x18 = kind_0) (fe_0_4_1 : end_0 = end_1) (fe_0_5_1 : next_0 = next_1) (fe_0_7_1 : begin_0 = begin_1) (fe_0_8_1 : number_0 = number_1) (fe_0_4_2 : end_1 = end_2) (fe_0_6_2 : kind_1 = kind_2) (fe_0_7_2 : begin_1 = begin_2) (fe_0_8_2 : number_1 = number_2) (hE_0_3_1 : ∀ j : Int, bytes_0 j = bytes_1 j) (hE_0_3_2 : ∀ j : Int, bytes_1 j = bytes_2 j) (hE_0_3_3 : ∀ j : Int, bytes_2 j = bytes_3 j) (kz_0_4 : 0 ≤ end_0 ∧ end_0 ≤ 2000) (kz_0_5 : 0 ≤ next_0 ∧ next_0 ≤ 2000) (kz_0_6 : 0 ≤ kind_0 ∧ kind_0 ≤ 127) (kz_0_7 : 0 ≤ begin_0 ∧ begin_0 ≤ 2000) (kz_0_8 : 0 ≤ number_0 ∧ number_0 ≤ 1000000) : (kind_0 ≠ 3) ∨ (number_0 ≤ 9999) := by
  subst fe_0_4_1
  subst fe_0_5_1
  subst fe_0_7_1
  subst fe_0_8_1
  subst fe_0_4_2
  subst fe_0_6_2
  subst fe_0_7_2
  subst fe_0_8_2
  have e_hE_0_3_1 := funext hE_0_3_1; subst e_hE_0_3_1
  have e_hE_0_3_2 := funext hE_0_3_2; subst e_hE_0_3_2
  have e_hE_0_3_3 := funext hE_0_3_3; subst e_hE_0_3_3
  first
    | omega
  
def o_Sy_advance_18 : or_T := (297, 19, [(0, (2, 0, 0, [11])), (2, (2, 0, 0, [11])), (3, (0, 0, 1999, [])), (4, (2, 0, 0, [109])), (5, (0, 1, 2000, [])), (6, (0, -128, 127, [])), (7, (0, 32, 32, [])), (8, (0, -128, 127, [])), (9, (0, 10, 10, [])), (10, (0, 58, 96, [])), (12, (0, 0, 0, [])), (13, (0, 1, 1, [])), (14, (0, 1, 2000, [])), (16, (0, 0, 127, [])), (17, (0, -1, -1, [])), (18, (0, 1, 1, []))], [(9, [18, 2], [6]), (9, [14, 2], [5]), (9, [3, 2], [7]), (9, [5, 2], [4]), (9, [4, 2], [3]), (20, [17, 16], [50, 0, 0, 3, 6, 0, 2, 1, 0, 0, -1, 0, 2, 0, 33, 1, 1]), (22, [16, 10], []), (20, [10, 12], [61, 0, 1098]), (24, [0, 2], []), (101, [2, 18], [6]), (8, [17], [2]), (20, [17, 16], [50, 0, 0, 3, 6, 0, 2, 1, 0, 0, -1, 0, 2, 0, 33, 1, 1]), (22, [16, 10], []), (8, [10], [4]), (20, [10, 12], [61, 0, 1098]), (101, [2, 14], [5]), (1, [14, 3, 13], []), (9, [3, 2], [5]), (8, [12], [0]), (20, [10, 12], [61, 0, 1098]), (10, [10, 4, 3], []), (7, [3, 5], [2]), (101, [2, 3], [7]), (7, [8, 9], [1]), (10, [8, 4, 3], []), (7, [6, 7], [1]), (10, [6, 4, 3], []), (7, [3, 5], [2])], [], [], [(20, [0], [50, 2, 0, 6, 8, 3, 7, 7, 3, 2, 0, 6, 0, 3, 0, 3, 2, 0, 8, 0, 9999])], [], [(14, 3, 1, 1), (14, 5, -4294967296, 0), (3, 5, -4294967296, -1)])
theorem oo_Sy_advance_18 {kA : Nat → ClassId} : or_ok PRD kA GG o_Sy_advance_18 := by
  refine or_mk fun A ta ws vs hD hth hl => ?_
  intro t0 r0 t2 r2 t3 k3 t4 r4 t5 k5 t6 k6 t7 k7 t8 k8 t9 k9 t10 k10 t12 k12 t13 k13 t14 k14 t16 k16 t17 k17 t18 k18 d0 d1 d2 f0 f1 f2 f3 f4 f5 f6 f7 f8 ta1 w1 le1 s1 f10 f11 f12 f13 f14 ta2 w2 le2 s2 f16 f17 f18 f19 f20 f21 ta3 w3 le3 s3 f23 f24 f25 f26 f27
  replace f0 := shm_111 f0
  replace f8 := shm_5 f8
  have s1 : (∀ b j, w_el ws b j = w_el w1 b j) ∧ ∀ b j, w_fd ws b j = if b = v_ad (n_v vs 2) ∧ j = 6 then n_v vs 18 else w_fd w1 b j := s1.2
  have s2 : (∀ b j, w_el w1 b j = w_el w2 b j) ∧ ∀ b j, w_fd w1 b j = if b = v_ad (n_v vs 2) ∧ j = 5 then n_v vs 14 else w_fd w2 b j := s2.2
  have s3 : (∀ b j, w_el w2 b j = w_el w3 b j) ∧ ∀ b j, w_fd w2 b j = if b = v_ad (n_v vs 2) ∧ j = 7 then n_v vs 3 else w_fd w3 b j := s3.2
  have q2 : n_v vs 2 = n_v vs 0 := f8.symm
  simp only [q2] at f0
  rw [q2] at s1
  rw [q2] at s2
  rw [q2] at s3
  have g0 : v_iv (n_v vs 18) = w_fi ws (n_v vs 0) 6 := congrArg v_iv f0
  have fe_0_4_1 : w_fi ws (n_v vs 0) 4 = w_fi w1 (n_v vs 0) 4 := by show v_iv (w_fd _ _ _) = v_iv (w_fd _ _ _); rw [s1.2, if_neg (fun e => absurd e.2 (by decide))]
  have fe_0_5_1 : w_fi ws (n_v vs 0) 5 = w_fi w1 (n_v vs 0) 5 := by show v_iv (w_fd _ _ _) = v_iv (w_fd _ _ _); rw [s1.2, if_neg (fun e => absurd e.2 (by decide))]
  have fe_0_7_1 : w_fi ws (n_v vs 0) 7 = w_fi w1 (n_v vs 0) 7 := by show v_iv (w_fd _ _ _) = v_iv (w_fd _ _ _); rw [s1.2, if_neg (fun e => absurd e.2 (by decide))]
  have fe_0_8_1 : w_fi ws (n_v vs 0) 8 = w_fi w1 (n_v vs 0) 8 := by show v_iv (w_fd _ _ _) = v_iv (w_fd _ _ _); rw [s1.2, if_neg (fun e => absurd e.2 (by decide))]
  have fe_0_4_2 : w_fi w1 (n_v vs 0) 4 = w_fi w2 (n_v vs 0) 4 := by show v_iv (w_fd _ _ _) = v_iv (w_fd _ _ _); rw [s2.2, if_neg (fun e => absurd e.2 (by decide))]
  have fe_0_6_2 : w_fi w1 (n_v vs 0) 6 = w_fi w2 (n_v vs 0) 6 := by show v_iv (w_fd _ _ _) = v_iv (w_fd _ _ _); rw [s2.2, if_neg (fun e => absurd e.2 (by decide))]
  have fe_0_7_2 : w_fi w1 (n_v vs 0) 7 = w_fi w2 (n_v vs 0) 7 := by show v_iv (w_fd _ _ _) = v_iv (w_fd _ _ _); rw [s2.2, if_neg (fun e => absurd e.2 (by decide))]
  have fe_0_8_2 : w_fi w1 (n_v vs 0) 8 = w_fi w2 (n_v vs 0) 8 := by show v_iv (w_fd _ _ _) = v_iv (w_fd _ _ _); rw [s2.2, if_neg (fun e => absurd e.2 (by decide))]
  have hE_0_3_1 : ∀ j : Int, w_ei ws (w_ar ws (n_v vs 0) 3) j = w_ei w1 (w_ar ws (n_v vs 0) 3) j := fun j => s1.1 _ _
  have hE_0_3_2 : ∀ j : Int, w_ei w1 (w_ar ws (n_v vs 0) 3) j = w_ei w2 (w_ar ws (n_v vs 0) 3) j := fun j => s2.1 _ _
  have hE_0_3_3 : ∀ j : Int, w_ei w2 (w_ar ws (n_v vs 0) 3) j = w_ei w3 (w_ar ws (n_v vs 0) 3) j := fun j => s3.1 _ _
  have kz_0_4 := fdq_312 hD hth r0
  have kz_0_5 := fdq_28 hD hth r0
  have kz_0_6 := fdq_313 hD hth r0
  have kz_0_7 := fdq_29 hD hth r0
  have kz_0_8 := fdq_314 hD hth r0
  have nf0 : fc_1 PRD (20, [0], [50, 2, 0, 6, 8, 3, 7, 7, 3, 2, 0, 6, 0, 3, 0, 3, 2, 0, 8, 0, 9999]) ws (vs) := ⟨nf_in hl rfl, sgq_1840 (vc_Sy_advance_18_0 (v_iv (n_v vs 18)) (w_fi ws (n_v vs 0) 6) (w_fi ws (n_v vs 0) 5) (w_fi ws (n_v vs 0) 7) (w_fi ws (n_v vs 0) 4) (w_ei w2 (w_ar ws (n_v vs 0) 3)) (w_ei w3 (w_ar ws (n_v vs 0) 3)) (w_fi w1 (n_v vs 0) 4) (w_fi w1 (n_v vs 0) 5) (w_fi w1 (n_v vs 0) 7) (w_fi ws (n_v vs 0) 8) (w_fi w1 (n_v vs 0) 8) (w_fi w2 (n_v vs 0) 4) (w_fi w1 (n_v vs 0) 6) (w_fi w2 (n_v vs 0) 6) (w_fi w2 (n_v vs 0) 7) (w_fi w2 (n_v vs 0) 8) (w_ei ws (w_ar ws (n_v vs 0) 3)) (w_ei w1 (w_ar ws (n_v vs 0) 3)) k18 g0 fe_0_4_1 fe_0_5_1 fe_0_7_1 fe_0_8_1 fe_0_4_2 fe_0_6_2 fe_0_7_2 fe_0_8_2 hE_0_3_1 hE_0_3_2 hE_0_3_3 kz_0_4 kz_0_5 kz_0_6 kz_0_7 kz_0_8)⟩
  refine ⟨(fun _ h => (by cases h)), [], trivial, ?_, (fun _ h => (by cases h))⟩
  rw [List.append_nil]
  exact List.forall_mem_cons.mpr ⟨⟨show (20 : Nat) < 100 from by decide, nf0⟩, (fun _ h => (by cases h))⟩
set_option maxHeartbeats 4000000 in
theorem vc_Sy_advance_19_0 (x3 : Int) (x10 : Int) (kind_0 : Int) (next_0 : Int) (begin_0 : Int) (end_0 : Int) (bytes_2 : Int → Int) (bytes_3 : Int → Int) (end_1 : Int) (next_1 : Int) (begin_1 : Int) (number_0 : Int) (number_1 : Int) (end_2 : Int) (kind_1 : Int) (kind_2 : Int) (begin_2 : Int) (number_2 : Int) (bytes_0 : Int → Int) (bytes_1 : Int → Int) (k3 : 0 ≤ x3 ∧ x3 ≤ 1999) (k10 : 58 ≤ x10 ∧ x10 ≤ 96) (g0 : x10 = kind_0) (h20 : x10 = bytes_2 (x3)) (fe_0_4_1 : end_0 = end_1) (fe_0_5_1 : next_0 = next_1) (fe_0_7_1 : begin_0 = begin_1) (fe_0_8_1 : number_0 = number_1) (fe_0_4_2 : end_1 = end_2) (fe_0_6_2 : kind_1 = kind_2) (fe_0_7_2 : begin_1 = begin_2) (fe_0_8_2 : number_1 = number_2) (hE_0_3_1 : ∀ j : Int, bytes_0 j = bytes_1 j) (hE_0_3_2 : ∀ j : Int, bytes_1 j = bytes_2 j) (hE_0_3_3 : ∀ j : Int, bytes_2 j = bytes_3 j) (kz_0_4 : 0 ≤ end_0 ∧ end_0 ≤ 2000) (kz_0_5 : 0 ≤ next_0 ∧ next_0 ≤ 2000) (kz_0_6 : 0 ≤ kind_0 ∧ kind_0 ≤ 127) (kz_0_7 : 0 ≤ begin_0 ∧ begin_0 ≤ 2000) (kz_0_8 : 0 ≤ number_0 ∧ number_0 ≤ 1000000) : (kind_0 ≠ 3) ∨ (number_0 ≤ 9999) := by
  subst fe_0_4_1
  subst fe_0_5_1
  subst fe_0_7_1
  subst fe_0_8_1
  subst fe_0_4_2
  subst fe_0_6_2
  subst fe_0_7_2
  subst fe_0_8_2
  have e_hE_0_3_1 := funext hE_0_3_1; subst e_hE_0_3_1
  have e_hE_0_3_2 := funext hE_0_3_2; subst e_hE_0_3_2
  have e_hE_0_3_3 := funext hE_0_3_3; subst e_hE_0_3_3
  first
    | omega
  
def o_Sy_advance_19 : or_T := (297, 18, [(0, (2, 0, 0, [11])), (2, (2, 0, 0, [11])), (3, (0, 0, 1999, [])), (4, (2, 0, 0, [109])), (5, (0, 1, 2000, [])), (6, (0, -128, 127, [])), (7, (0, 32, 32, [])), (8, (0, -128, 127, [])), (9, (0, 10, 10, [])), (10, (0, 58, 96, [])), (12, (0, 0, 0, [])), (13, (0, 1, 1, [])), (14, (0, 1, 2000, [])), (16, (0, 0, 127, [])), (17, (0, 0, 13, []))], [(9, [10, 2], [6]), (9, [14, 2], [5]), (9, [3, 2], [7]), (9, [5, 2], [4]), (9, [4, 2], [3]), (20, [17, 16], [50, 0, 0, 3, 6, 0, 2, 1, 0, 0, -1, 0, 2, 0, 33, 1, 1]), (22, [16, 10], []), (20, [10, 12], [61, 0, 1098]), (24, [0, 2], []), (101, [2, 10], [6]), (8, [17], [3]), (20, [17, 16], [50, 0, 0, 3, 6, 0, 2, 1, 0, 0, -1, 0, 2, 0, 33, 1, 1]), (22, [16, 10], []), (8, [10], [4]), (20, [10, 12], [61, 0, 1098]), (101, [2, 14], [5]), (1, [14, 3, 13], []), (9, [3, 2], [5]), (8, [12], [0]), (20, [10, 12], [61, 0, 1098]), (10, [10, 4, 3], []), (7, [3, 5], [2]), (101, [2, 3], [7]), (7, [8, 9], [1]), (10, [8, 4, 3], []), (7, [6, 7], [1]), (10, [6, 4, 3], []), (7, [3, 5], [2])], [], [], [(20, [0], [50, 2, 0, 6, 8, 3, 7, 7, 3, 2, 0, 6, 0, 3, 0, 3, 2, 0, 8, 0, 9999])], [], [(14, 3, 1, 1), (14, 5, -4294967296, 0), (3, 5, -4294967296, -1)])
theorem oo_Sy_advance_19 {kA : Nat → ClassId} : or_ok PRD kA GG o_Sy_advance_19 := by
  refine or_mk fun A ta ws vs hD hth hl => ?_
  intro t0 r0 t2 r2 t3 k3 t4 r4 t5 k5 t6 k6 t7 k7 t8 k8 t9 k9 t10 k10 t12 k12 t13 k13 t14 k14 t16 k16 t17 k17 d0 d1 d2 f0 f1 f2 f3 f4 f5 f6 f7 f8 ta1 w1 le1 s1 f10 f11 f12 f13 f14 ta2 w2 le2 s2 f16 f17 f18 f19 f20 f21 ta3 w3 le3 s3 f23 f24 f25 f26 f27
  replace f0 := shm_111 f0
  replace f4 := shm_137 f4
  replace f8 := shm_5 f8
  have s1 : (∀ b j, w_el ws b j = w_el w1 b j) ∧ ∀ b j, w_fd ws b j = if b = v_ad (n_v vs 2) ∧ j = 6 then n_v vs 10 else w_fd w1 b j := s1.2
  have s2 : (∀ b j, w_el w1 b j = w_el w2 b j) ∧ ∀ b j, w_fd w1 b j = if b = v_ad (n_v vs 2) ∧ j = 5 then n_v vs 14 else w_fd w2 b j := s2.2
  replace f20 := shm_107 f20
  have s3 : (∀ b j, w_el w2 b j = w_el w3 b j) ∧ ∀ b j, w_fd w2 b j = if b = v_ad (n_v vs 2) ∧ j = 7 then n_v vs 3 else w_fd w3 b j := s3.2
  have q2 : n_v vs 2 = n_v vs 0 := f8.symm
  simp only [q2] at f0 f4
  rw [q2] at s1
  rw [q2] at s2
  rw [q2] at s3
  have ad_4 : v_ad (n_v vs 4) = w_ar ws (n_v vs 0) 3 := congrArg v_ad f4
  have g0 : v_iv (n_v vs 10) = w_fi ws (n_v vs 0) 6 := congrArg v_iv f0
  simp only [ad_4] at f20
  have h20 : v_iv (n_v vs 10) = w_ei w2 (w_ar ws (n_v vs 0) 3) (v_iv (n_v vs 3)) := f20
  have fe_0_4_1 : w_fi ws (n_v vs 0) 4 = w_fi w1 (n_v vs 0) 4 := by show v_iv (w_fd _ _ _) = v_iv (w_fd _ _ _); rw [s1.2, if_neg (fun e => absurd e.2 (by decide))]
  have fe_0_5_1 : w_fi ws (n_v vs 0) 5 = w_fi w1 (n_v vs 0) 5 := by show v_iv (w_fd _ _ _) = v_iv (w_fd _ _ _); rw [s1.2, if_neg (fun e => absurd e.2 (by decide))]
  have fe_0_7_1 : w_fi ws (n_v vs 0) 7 = w_fi w1 (n_v vs 0) 7 := by show v_iv (w_fd _ _ _) = v_iv (w_fd _ _ _); rw [s1.2, if_neg (fun e => absurd e.2 (by decide))]
  have fe_0_8_1 : w_fi ws (n_v vs 0) 8 = w_fi w1 (n_v vs 0) 8 := by show v_iv (w_fd _ _ _) = v_iv (w_fd _ _ _); rw [s1.2, if_neg (fun e => absurd e.2 (by decide))]
  have fe_0_4_2 : w_fi w1 (n_v vs 0) 4 = w_fi w2 (n_v vs 0) 4 := by show v_iv (w_fd _ _ _) = v_iv (w_fd _ _ _); rw [s2.2, if_neg (fun e => absurd e.2 (by decide))]
  have fe_0_6_2 : w_fi w1 (n_v vs 0) 6 = w_fi w2 (n_v vs 0) 6 := by show v_iv (w_fd _ _ _) = v_iv (w_fd _ _ _); rw [s2.2, if_neg (fun e => absurd e.2 (by decide))]
  have fe_0_7_2 : w_fi w1 (n_v vs 0) 7 = w_fi w2 (n_v vs 0) 7 := by show v_iv (w_fd _ _ _) = v_iv (w_fd _ _ _); rw [s2.2, if_neg (fun e => absurd e.2 (by decide))]
  have fe_0_8_2 : w_fi w1 (n_v vs 0) 8 = w_fi w2 (n_v vs 0) 8 := by show v_iv (w_fd _ _ _) = v_iv (w_fd _ _ _); rw [s2.2, if_neg (fun e => absurd e.2 (by decide))]
  have hE_0_3_1 : ∀ j : Int, w_ei ws (w_ar ws (n_v vs 0) 3) j = w_ei w1 (w_ar ws (n_v vs 0) 3) j := fun j => s1.1 _ _
  have hE_0_3_2 : ∀ j : Int, w_ei w1 (w_ar ws (n_v vs 0) 3) j = w_ei w2 (w_ar ws (n_v vs 0) 3) j := fun j => s2.1 _ _
  have hE_0_3_3 : ∀ j : Int, w_ei w2 (w_ar ws (n_v vs 0) 3) j = w_ei w3 (w_ar ws (n_v vs 0) 3) j := fun j => s3.1 _ _
  have kz_0_4 := fdq_312 hD hth r0
  have kz_0_5 := fdq_28 hD hth r0
  have kz_0_6 := fdq_313 hD hth r0
  have kz_0_7 := fdq_29 hD hth r0
  have kz_0_8 := fdq_314 hD hth r0
  have nf0 : fc_1 PRD (20, [0], [50, 2, 0, 6, 8, 3, 7, 7, 3, 2, 0, 6, 0, 3, 0, 3, 2, 0, 8, 0, 9999]) ws (vs) := ⟨nf_in hl rfl, sgq_1840 (vc_Sy_advance_19_0 (v_iv (n_v vs 3)) (v_iv (n_v vs 10)) (w_fi ws (n_v vs 0) 6) (w_fi ws (n_v vs 0) 5) (w_fi ws (n_v vs 0) 7) (w_fi ws (n_v vs 0) 4) (w_ei w2 (w_ar ws (n_v vs 0) 3)) (w_ei w3 (w_ar ws (n_v vs 0) 3)) (w_fi w1 (n_v vs 0) 4) (w_fi w1 (n_v vs 0) 5) (w_fi w1 (n_v vs 0) 7) (w_fi ws (n_v vs 0) 8) (w_fi w1 (n_v vs 0) 8) (w_fi w2 (n_v vs 0) 4) (w_fi w1 (n_v vs 0) 6) (w_fi w2 (n_v vs 0) 6) (w_fi w2 (n_v vs 0) 7) (w_fi w2 (n_v vs 0) 8) (w_ei ws (w_ar ws (n_v vs 0) 3)) (w_ei w1 (w_ar ws (n_v vs 0) 3)) k3 k10 g0 h20 fe_0_4_1 fe_0_5_1 fe_0_7_1 fe_0_8_1 fe_0_4_2 fe_0_6_2 fe_0_7_2 fe_0_8_2 hE_0_3_1 hE_0_3_2 hE_0_3_3 kz_0_4 kz_0_5 kz_0_6 kz_0_7 kz_0_8)⟩
  refine ⟨(fun _ h => (by cases h)), [], trivial, ?_, (fun _ h => (by cases h))⟩
  rw [List.append_nil]
  exact List.forall_mem_cons.mpr ⟨⟨show (20 : Nat) < 100 from by decide, nf0⟩, (fun _ h => (by cases h))⟩
set_option maxHeartbeats 4000000 in
theorem vc_Sy_advance_20_0 (x3 : Int) (x13 : Int) (number_0 : Int) (begin_0 : Int) (end_0 : Int) (next_0 : Int) (bytes_1 : Int → Int) (bytes_2 : Int → Int) (end_1 : Int) (next_1 : Int) (begin_1 : Int) (bytes_0 : Int → Int) (k3 : 0 ≤ x3 ∧ x3 ≤ 1999) (k13 : 0 ≤ x13 ∧ x13 ≤ 0) (g0 : x13 = number_0) (g1 : x3 = begin_0) (g3 : x3 = next_0) (fe_0_4_1 : end_0 = end_1) (fe_0_5_1 : next_0 = next_1) (fe_0_7_1 : begin_0 = begin_1) (hE_0_3_1 : ∀ j : Int, bytes_0 j = bytes_1 j) (hE_0_3_2 : ∀ j : Int, bytes_1 j = bytes_2 j) (kz_0_4 : 0 ≤ end_0 ∧ end_0 ≤ 2000) (kz_0_5 : 0 ≤ next_0 ∧ next_0 ≤ 2000) (kz_0_7 : 0 ≤ begin_0 ∧ begin_0 ≤ 2000) (kz_0_8 : 0 ≤ number_0 ∧ number_0 ≤ 1000000) : (0 ≤ number_0) ∧ ((begin_0 ≤ next_0) ∧ ((((next_0 - begin_0) ≤ 0) → (number_0 ≤ 0)) ∧ ((((next_0 - begin_0) ≤ 1) → (number_0 ≤ 9)) ∧ ((((next_0 - begin_0) ≤ 2) → (number_0 ≤ 99)) ∧ ((((next_0 - begin_0) ≤ 3) → (number_0 ≤ 999)) ∧ (((next_0 - begin_0) ≤ 4) → (number_0 ≤ 9999))))))) := by
  subst fe_0_4_1
  subst fe_0_5_1
  subst fe_0_7_1
  have e_hE_0_3_1 := funext hE_0_3_1; subst e_hE_0_3_1
  have e_hE_0_3_2 := funext hE_0_3_2; subst e_hE_0_3_2
  first
    | omega
  
def o_Sy_advance_20 : or_T := (171, 14, [(0, (2, 0, 0, [11])), (3, (0, 0, 1999, [])), (13, (0, 0, 0, []))], [(9, [13, 2], [8]), (9, [3, 2], [7]), (9, [3, 2], [5]), (24, [0, 2], []), (101, [2, 13], [8]), (101, [2, 3], [7])], [], [], [(20, [2], [50, 3, 0, 8, 7, 5, 2, 7, 0, 2, 0, 0, 2, 0, 8, 2, 8, 0, 3, 2, 0, 7, 2, 0, 5, 2, 21, 4, 12, 0, 8, 5, 3, 2, 0, 5, 2, 0, 7, 0, 0, 0, 3, 2, 0, 8, 0, 0, 2, 21, 4, 12, 0, 8, 5, 3, 2, 0, 5, 2, 0, 7, 0, 1, 0, 3, 2, 0, 8, 0, 9, 2, 21, 4, 12, 0, 8, 5, 3, 2, 0, 5, 2, 0, 7, 0, 2, 0, 3, 2, 0, 8, 0, 99, 2, 21, 4, 12, 0, 8, 5, 3, 2, 0, 5, 2, 0, 7, 0, 3, 0, 3, 2, 0, 8, 0, 999, 4, 12, 0, 8, 5, 3, 2, 0, 5, 2, 0, 7, 0, 4, 0, 3, 2, 0, 8, 0, 9999])], [], [])
theorem oo_Sy_advance_20 {kA : Nat → ClassId} : or_ok PRD kA GG o_Sy_advance_20 := by
  refine or_mk fun A ta ws vs hD hth hl => ?_
  intro t0 r0 t3 k3 t13 k13 f0 f1 f3 f6 ta1 w1 le1 s1 ta2 w2 le2 s2
  replace f0 := shm_293 f0
  replace f1 := shm_198 f1
  replace f3 := shm_110 f3
  replace f6 := shm_5 f6
  have s1 : (∀ b j, w_el ws b j = w_el w1 b j) ∧ ∀ b j, w_fd ws b j = if b = v_ad (n_v vs 2) ∧ j = 8 then n_v vs 13 else w_fd w1 b j := s1.2
  have s2 : (∀ b j, w_el w1 b j = w_el w2 b j) ∧ ∀ b j, w_fd w1 b j = if b = v_ad (n_v vs 2) ∧ j = 7 then n_v vs 3 else w_fd w2 b j := s2.2
  have q2 : n_v vs 2 = n_v vs 0 := f6.symm
  simp only [q2] at f0 f1 f3
  rw [q2] at s1
  rw [q2] at s2
  have g0 : v_iv (n_v vs 13) = w_fi ws (n_v vs 0) 8 := congrArg v_iv f0
  have g1 : v_iv (n_v vs 3) = w_fi ws (n_v vs 0) 7 := congrArg v_iv f1
  have g3 : v_iv (n_v vs 3) = w_fi ws (n_v vs 0) 5 := congrArg v_iv f3
  have fe_0_4_1 : w_fi ws (n_v vs 0) 4 = w_fi w1 (n_v vs 0) 4 := by show v_iv (w_fd _ _ _) = v_iv (w_fd _ _ _); rw [s1.2, if_neg (fun e => absurd e.2 (by decide))]
  have fe_0_5_1 : w_fi ws (n_v vs 0) 5 = w_fi w1 (n_v vs 0) 5 := by show v_iv (w_fd _ _ _) = v_iv (w_fd _ _ _); rw [s1.2, if_neg (fun e => absurd e.2 (by decide))]
  have fe_0_7_1 : w_fi ws (n_v vs 0) 7 = w_fi w1 (n_v vs 0) 7 := by show v_iv (w_fd _ _ _) = v_iv (w_fd _ _ _); rw [s1.2, if_neg (fun e => absurd e.2 (by decide))]
  have hE_0_3_1 : ∀ j : Int, w_ei ws (w_ar ws (n_v vs 0) 3) j = w_ei w1 (w_ar ws (n_v vs 0) 3) j := fun j => s1.1 _ _
  have hE_0_3_2 : ∀ j : Int, w_ei w1 (w_ar ws (n_v vs 0) 3) j = w_ei w2 (w_ar ws (n_v vs 0) 3) j := fun j => s2.1 _ _
  have kz_0_4 := fdq_312 hD hth r0
  have kz_0_5 := fdq_28 hD hth r0
  have kz_0_7 := fdq_29 hD hth r0
  have kz_0_8 := fdq_314 hD hth r0
  have nf0 : fc_1 PRD (20, [2], [50, 3, 0, 8, 7, 5, 2, 7, 0, 2, 0, 0, 2, 0, 8, 2, 8, 0, 3, 2, 0, 7, 2, 0, 5, 2, 21, 4, 12, 0, 8, 5, 3, 2, 0, 5, 2, 0, 7, 0, 0, 0, 3, 2, 0, 8, 0, 0, 2, 21, 4, 12, 0, 8, 5, 3, 2, 0, 5, 2, 0, 7, 0, 1, 0, 3, 2, 0, 8, 0, 9, 2, 21, 4, 12, 0, 8, 5, 3, 2, 0, 5, 2, 0, 7, 0, 2, 0, 3, 2, 0, 8, 0, 99, 2, 21, 4, 12, 0, 8, 5, 3, 2, 0, 5, 2, 0, 7, 0, 3, 0, 3, 2, 0, 8, 0, 999, 4, 12, 0, 8, 5, 3, 2, 0, 5, 2, 0, 7, 0, 4, 0, 3, 2, 0, 8, 0, 9999]) ws (vs) := by
    refine ⟨nf_in hl rfl, sgq_1841 ?_⟩
    · show (0 ≤ w_fi ws (n_v vs 2) 8) ∧ ((w_fi ws (n_v vs 2) 7 ≤ w_fi ws (n_v vs 2) 5) ∧ ((((w_fi ws (n_v vs 2) 5 - w_fi ws (n_v vs 2) 7) ≤ 0) → (w_fi ws (n_v vs 2) 8 ≤ 0)) ∧ ((((w_fi ws (n_v vs 2) 5 - w_fi ws (n_v vs 2) 7) ≤ 1) → (w_fi ws (n_v vs 2) 8 ≤ 9)) ∧ ((((w_fi ws (n_v vs 2) 5 - w_fi ws (n_v vs 2) 7) ≤ 2) → (w_fi ws (n_v vs 2) 8 ≤ 99)) ∧ ((((w_fi ws (n_v vs 2) 5 - w_fi ws (n_v vs 2) 7) ≤ 3) → (w_fi ws (n_v vs 2) 8 ≤ 999)) ∧ (((w_fi ws (n_v vs 2) 5 - w_fi ws (n_v vs 2) 7) ≤ 4) → (w_fi ws (n_v vs 2) 8 ≤ 9999)))))))
      rw [q2]
      exact vc_Sy_advance_20_0 (v_iv (n_v vs 3)) (v_iv (n_v vs 13)) (w_fi ws (n_v vs 0) 8) (w_fi ws (n_v vs 0) 7) (w_fi ws (n_v vs 0) 4) (w_fi ws (n_v vs 0) 5) (w_ei w1 (w_ar ws (n_v vs 0) 3)) (w_ei w2 (w_ar ws (n_v vs 0) 3)) (w_fi w1 (n_v vs 0) 4) (w_fi w1 (n_v vs 0) 5) (w_fi w1 (n_v vs 0) 7) (w_ei ws (w_ar ws (n_v vs 0) 3)) k3 k13 g0 g1 g3 fe_0_4_1 fe_0_5_1 fe_0_7_1 hE_0_3_1 hE_0_3_2 kz_0_4 kz_0_5 kz_0_7 kz_0_8
  refine ⟨(fun _ h => (by cases h)), [], trivial, ?_, (fun _ h => (by cases h))⟩
  rw [List.append_nil]
  exact List.forall_mem_cons.mpr ⟨⟨show (20 : Nat) < 100 from by decide, nf0⟩, (fun _ h => (by cases h))⟩
set_option maxHeartbeats 4000000 in
theorem vc_Sy_advance_21_r0 (x3 : Int) (x10 : Int) (x16 : Int) (begin_0 : Int) (end_0 : Int) (bytes_1 : Int → Int) (bytes_2 : Int → Int) (end_1 : Int) (begin_1 : Int) (bytes_0 : Int → Int) (k3 : 0 ≤ x3 ∧ x3 ≤ 1999) (k10 : 123 ≤ x10 ∧ x10 ≤ 127) (k16 : 0 ≤ x16 ∧ x16 ≤ 65535) (f4 : x16 = x10) (h13 : x10 = bytes_1 (x3)) (fe_0_4_1 : end_0 = end_1) (fe_0_7_1 : begin_0 = begin_1) (hE_0_3_1 : ∀ j : Int, bytes_0 j = bytes_1 j) (hE_0_3_2 : ∀ j : Int, bytes_1 j = bytes_2 j) (kz_0_4 : 0 ≤ end_0 ∧ end_0 ≤ 2000) (kz_0_7 : 0 ≤ begin_0 ∧ begin_0 ≤ 2000) : 0 ≤ x16 ∧ x16 ≤ 127 := by
  subst fe_0_4_1
  subst fe_0_7_1
  have e_hE_0_3_1 := funext hE_0_3_1; subst e_hE_0_3_1
  have e_hE_0_3_2 := funext hE_0_3_2; subst e_hE_0_3_2
  first
    | omega
  
def o_Sy_advance_21 : or_T := (283, 17, [(0, (2, 0, 0, [11])), (2, (2, 0, 0, [11])), (3, (0, 0, 1999, [])), (4, (2, 0, 0, [109])), (5, (0, 1, 2000, [])), (6, (0, -128, 127, [])), (7, (0, 32, 32, [])), (8, (0, -128, 127, [])), (9, (0, 10, 10, [])), (10, (0, 123, 127, [])), (12, (0, 0, 0, [])), (13, (0, 1, 1, [])), (14, (0, 1, 2000, [])), (16, (0, 0, 65535, []))], [(9, [14, 2], [5]), (9, [3, 2], [7]), (9, [5, 2], [4]), (9, [4, 2], [3]), (22, [16, 10], []), (8, [10], [4]), (20, [10, 12], [61, 0, 1098]), (24, [0, 2], []), (101, [2, 14], [5]), (1, [14, 3, 13], []), (9, [3, 2], [5]), (8, [12], [0]), (20, [10, 12], [61, 0, 1098]), (10, [10, 4, 3], []), (7, [3, 5], [2]), (101, [2, 3], [7]), (7, [8, 9], [1]), (10, [8, 4, 3], []), (7, [6, 7], [1]), (10, [6, 4, 3], []), (7, [3, 5], [2])], [(16, (0, 0, 127, []))], [], [], [], [(14, 3, 1, 1), (14, 5, -4294967296, 0), (3, 5, -4294967296, -1)])
theorem oo_Sy_advance_21 {kA : Nat → ClassId} : or_ok PRD kA GG o_Sy_advance_21 := by
  refine or_mk fun A ta ws vs hD hth hl => ?_
  intro t0 r0 t2 r2 t3 k3 t4 r4 t5 k5 t6 k6 t7 k7 t8 k8 t9 k9 t10 k10 t12 k12 t13 k13 t14 k14 t16 k16 d0 d1 d2 f0 f1 f2 f3 f4 f5 f6 f7 ta1 w1 le1 s1 f9 f10 f11 f12 f13 f14 ta2 w2 le2 s2 f16 f17 f18 f19 f20
  replace f3 := shm_137 f3
  replace f7 := shm_5 f7
  have s1 : (∀ b j, w_el ws b j = w_el w1 b j) ∧ ∀ b j, w_fd ws b j = if b = v_ad (n_v vs 2) ∧ j = 5 then n_v vs 14 else w_fd w1 b j := s1.2
  replace f13 := shm_107 f13
  have s2 : (∀ b j, w_el w1 b j = w_el w2 b j) ∧ ∀ b j, w_fd w1 b j = if b = v_ad (n_v vs 2) ∧ j = 7 then n_v vs 3 else w_fd w2 b j := s2.2
  have q2 : n_v vs 2 = n_v vs 0 := f7.symm
  simp only [q2] at f3
  rw [q2] at s1
  rw [q2] at s2
  have ad_4 : v_ad (n_v vs 4) = w_ar ws (n_v vs 0) 3 := congrArg v_ad f3
  simp only [ad_4] at f13
  have h13 : v_iv (n_v vs 10) = w_ei w1 (w_ar ws (n_v vs 0) 3) (v_iv (n_v vs 3)) := f13
  have fe_0_4_1 : w_fi ws (n_v vs 0) 4 = w_fi w1 (n_v vs 0) 4 := by show v_iv (w_fd _ _ _) = v_iv (w_fd _ _ _); rw [s1.2, if_neg (fun e => absurd e.2 (by decide))]
  have fe_0_7_1 : w_fi ws (n_v vs 0) 7 = w_fi w1 (n_v vs 0) 7 := by show v_iv (w_fd _ _ _) = v_iv (w_fd _ _ _); rw [s1.2, if_neg (fun e => absurd e.2 (by decide))]
  have hE_0_3_1 : ∀ j : Int, w_ei ws (w_ar ws (n_v vs 0) 3) j = w_ei w1 (w_ar ws (n_v vs 0) 3) j := fun j => s1.1 _ _
  have hE_0_3_2 : ∀ j : Int, w_ei w1 (w_ar ws (n_v vs 0) 3) j = w_ei w2 (w_ar ws (n_v vs 0) 3) j := fun j => s2.1 _ _
  have kz_0_4 := fdq_312 hD hth r0
  have kz_0_7 := fdq_29 hD hth r0
  have hrf0 : 0 ≤ v_iv (n_v vs 16) ∧ v_iv (n_v vs 16) ≤ 127 := vc_Sy_advance_21_r0 (v_iv (n_v vs 3)) (v_iv (n_v vs 10)) (v_iv (n_v vs 16)) (w_fi ws (n_v vs 0) 7) (w_fi ws (n_v vs 0) 4) (w_ei w1 (w_ar ws (n_v vs 0) 3)) (w_ei w2 (w_ar ws (n_v vs 0) 3)) (w_fi w1 (n_v vs 0) 4) (w_fi w1 (n_v vs 0) 7) (w_ei ws (w_ar ws (n_v vs 0) 3)) k3 k10 k16 (shm_47 f4) h13 fe_0_4_1 fe_0_7_1 hE_0_3_1 hE_0_3_2 kz_0_4 kz_0_7
  have rf16 : tv_ok ta (0, 0, 127, []) (n_v vs 16) := tv_in t16 (by first | omega | grind) (by first | omega | grind)
  refine ⟨List.forall_mem_cons.mpr ⟨rf16, (fun _ h => (by cases h))⟩, [], trivial, ?_, (fun _ h => (by cases h))⟩
  rw [List.append_nil]
  exact (fun _ h => (by cases h))
set_option maxHeartbeats 4000000 in
theorem vc_Sy_advance_22_0 (x18 : Int) (kind_0 : Int) (next_0 : Int) (begin_0 : Int) (end_0 : Int) (bytes_2 : Int → Int) (bytes_3 : Int → Int) (end_1 : Int) (next_1 : Int) (begin_1 : Int) (number_0 : Int) (number_1 : Int) (end_2 : Int) (kind_1 : Int) (kind_2 : Int) (begin_2 : Int) (number_2 : Int) (bytes_0 : Int → Int) (bytes_1 : Int → Int) (k18 : 1 ≤ x18 ∧ x18 ≤ 1) (g0 : x18 = kind_0) (fe_0_4_1 : end_0 = end_1) (fe_0_5_1 : next_0 = next_1) (fe_0_7_1 : begin_0 = begin_1) (fe_0_8_1 : number_0 = number_1) (fe_0_4_2 : end_1 = end_2) (fe_0_6_2 : kind_1 = kind_2) (fe_0_7_2 : begin_1 = begin_2) (fe_0_8_2 : number_1 = number_2) (hE_0_3_1 : ∀ j : Int, bytes_0 j = bytes_1 j) (hE_0_3_2 : ∀ j : Int, bytes_1 j = bytes_2 j) (hE_0_3_3 : ∀ j : Int, bytes_2 j = bytes_3 j) (kz_0_4 : 0 ≤ end_0 ∧ end_0 ≤ 2000) (kz_0_5 : 0 ≤ next_0 ∧ next_0 ≤ 2000) (kz_0_6 : 0 ≤ kind_0 ∧ kind_0 ≤ 127) (kz_0_7 : 0 ≤ begin_0 ∧ begin_0 ≤ 2000) (kz_0_8 : 0 ≤ number_0 ∧ number_0 ≤ 1000000) : (kind_0 ≠ 3) ∨ (number_0 ≤ 9999) := by
  subst fe_0_4_1
  subst fe_0_5_1
  subst fe_0_7_1
  subst fe_0_8_1
  subst fe_0_4_2
  subst fe_0_6_2
  subst fe_0_7_2
  subst fe_0_8_2
  have e_hE_0_3_1 := funext hE_0_3_1; subst e_hE_0_3_1
  have e_hE_0_3_2 := funext hE_0_3_2; subst e_hE_0_3_2
  have e_hE_0_3_3 := funext hE_0_3_3; subst e_hE_0_3_3
  first
    | omega
  
def o_Sy_advance_22 : or_T := (297, 19, [(0, (2, 0, 0, [11])), (2, (2, 0, 0, [11])), (3, (0, 0, 1999, [])), (4, (2, 0, 0, [109])), (5, (0, 1, 2000, [])), (6, (0, -128, 127, [])), (7, (0, 32, 32, [])), (8, (0, -128, 127, [])), (9, (0, 10, 10, [])), (10, (0, 123, 127, [])), (12, (0, 0, 0, [])), (13, (0, 1, 1, [])), (14, (0, 1, 2000, [])), (16, (0, 0, 127, [])), (17, (0, -1, -1, [])), (18, (0, 1, 1, []))], [(9, [18, 2], [6]), (9, [14, 2], [5]), (9, [3, 2], [7]), (9, [5, 2], [4]), (9, [4, 2], [3]), (20, [17, 16], [50, 0, 0, 3, 6, 0, 2, 1, 0, 0, -1, 0, 2, 0, 33, 1, 1]), (22, [16, 10], []), (20, [10, 12], [61, 0, 1098]), (24, [0, 2], []), (101, [2, 18], [6]), (8, [17], [2]), (20, [17, 16], [50, 0, 0, 3, 6, 0, 2, 1, 0, 0, -1, 0, 2, 0, 33, 1, 1]), (22, [16, 10], []), (8, [10], [4]), (20, [10, 12], [61, 0, 1098]), (101, [2, 14], [5]), (1, [14, 3, 13], []), (9, [3, 2], [5]), (8, [12], [0]), (20, [10, 12], [61, 0, 1098]), (10, [10, 4, 3], []), (7, [3, 5], [2]), (101, [2, 3], [7]), (7, [8, 9], [1]), (10, [8, 4, 3], []), (7, [6, 7], [1]), (10, [6, 4, 3], []), (7, [3, 5], [2])], [], [], [(20, [0], [50, 2, 0, 6, 8, 3, 7, 7, 3, 2, 0, 6, 0, 3, 0, 3, 2, 0, 8, 0, 9999])], [], [(14, 3, 1, 1), (14, 5, -4294967296, 0), (3, 5, -4294967296, -1)])
theorem oo_Sy_advance_22 {kA : Nat → ClassId} : or_ok PRD kA GG o_Sy_advance_22 := by
  refine or_mk fun A ta ws vs hD hth hl => ?_
  intro t0 r0 t2 r2 t3 k3 t4 r4 t5 k5 t6 k6 t7 k7 t8 k8 t9 k9 t10 k10 t12 k12 t13 k13 t14 k14 t16 k16 t17 k17 t18 k18 d0 d1 d2 f0 f1 f2 f3 f4 f5 f6 f7 f8 ta1 w1 le1 s1 f10 f11 f12 f13 f14 ta2 w2 le2 s2 f16 f17 f18 f19 f20 f21 ta3 w3 le3 s3 f23 f24 f25 f26 f27
  replace f0 := shm_111 f0
  replace f8 := shm_5 f8
  have s1 : (∀ b j, w_el ws b j = w_el w1 b j) ∧ ∀ b j, w_fd ws b j = if b = v_ad (n_v vs 2) ∧ j = 6 then n_v vs 18 else w_fd w1 b j := s1.2
  have s2 : (∀ b j, w_el w1 b j = w_el w2 b j) ∧ ∀ b j, w_fd w1 b j = if b = v_ad (n_v vs 2) ∧ j = 5 then n_v vs 14 else w_fd w2 b j := s2.2
  have s3 : (∀ b j, w_el w2 b j = w_el w3 b j) ∧ ∀ b j, w_fd w2 b j = if b = v_ad (n_v vs 2) ∧ j = 7 then n_v vs 3 else w_fd w3 b j := s3.2
  have q2 : n_v vs 2 = n_v vs 0 := f8.symm
  simp only [q2] at f0
  rw [q2] at s1
  rw [q2] at s2
  rw [q2] at s3
  have g0 : v_iv (n_v vs 18) = w_fi ws (n_v vs 0) 6 := congrArg v_iv f0
  have fe_0_4_1 : w_fi ws (n_v vs 0) 4 = w_fi w1 (n_v vs 0) 4 := by show v_iv (w_fd _ _ _) = v_iv (w_fd _ _ _); rw [s1.2, if_neg (fun e => absurd e.2 (by decide))]
  have fe_0_5_1 : w_fi ws (n_v vs 0) 5 = w_fi w1 (n_v vs 0) 5 := by show v_iv (w_fd _ _ _) = v_iv (w_fd _ _ _); rw [s1.2, if_neg (fun e => absurd e.2 (by decide))]
  have fe_0_7_1 : w_fi ws (n_v vs 0) 7 = w_fi w1 (n_v vs 0) 7 := by show v_iv (w_fd _ _ _) = v_iv (w_fd _ _ _); rw [s1.2, if_neg (fun e => absurd e.2 (by decide))]
  have fe_0_8_1 : w_fi ws (n_v vs 0) 8 = w_fi w1 (n_v vs 0) 8 := by show v_iv (w_fd _ _ _) = v_iv (w_fd _ _ _); rw [s1.2, if_neg (fun e => absurd e.2 (by decide))]
  have fe_0_4_2 : w_fi w1 (n_v vs 0) 4 = w_fi w2 (n_v vs 0) 4 := by show v_iv (w_fd _ _ _) = v_iv (w_fd _ _ _); rw [s2.2, if_neg (fun e => absurd e.2 (by decide))]
  have fe_0_6_2 : w_fi w1 (n_v vs 0) 6 = w_fi w2 (n_v vs 0) 6 := by show v_iv (w_fd _ _ _) = v_iv (w_fd _ _ _); rw [s2.2, if_neg (fun e => absurd e.2 (by decide))]
  have fe_0_7_2 : w_fi w1 (n_v vs 0) 7 = w_fi w2 (n_v vs 0) 7 := by show v_iv (w_fd _ _ _) = v_iv (w_fd _ _ _); rw [s2.2, if_neg (fun e => absurd e.2 (by decide))]
  have fe_0_8_2 : w_fi w1 (n_v vs 0) 8 = w_fi w2 (n_v vs 0) 8 := by show v_iv (w_fd _ _ _) = v_iv (w_fd _ _ _); rw [s2.2, if_neg (fun e => absurd e.2 (by decide))]
  have hE_0_3_1 : ∀ j : Int, w_ei ws (w_ar ws (n_v vs 0) 3) j = w_ei w1 (w_ar ws (n_v vs 0) 3) j := fun j => s1.1 _ _
  have hE_0_3_2 : ∀ j : Int, w_ei w1 (w_ar ws (n_v vs 0) 3) j = w_ei w2 (w_ar ws (n_v vs 0) 3) j := fun j => s2.1 _ _
  have hE_0_3_3 : ∀ j : Int, w_ei w2 (w_ar ws (n_v vs 0) 3) j = w_ei w3 (w_ar ws (n_v vs 0) 3) j := fun j => s3.1 _ _
  have kz_0_4 := fdq_312 hD hth r0
  have kz_0_5 := fdq_28 hD hth r0
  have kz_0_6 := fdq_313 hD hth r0
  have kz_0_7 := fdq_29 hD hth r0
  have kz_0_8 := fdq_314 hD hth r0
  have nf0 : fc_1 PRD (20, [0], [50, 2, 0, 6, 8, 3, 7, 7, 3, 2, 0, 6, 0, 3, 0, 3, 2, 0, 8, 0, 9999]) ws (vs) := ⟨nf_in hl rfl, sgq_1840 (vc_Sy_advance_22_0 (v_iv (n_v vs 18)) (w_fi ws (n_v vs 0) 6) (w_fi ws (n_v vs 0) 5) (w_fi ws (n_v vs 0) 7) (w_fi ws (n_v vs 0) 4) (w_ei w2 (w_ar ws (n_v vs 0) 3)) (w_ei w3 (w_ar ws (n_v vs 0) 3)) (w_fi w1 (n_v vs 0) 4) (w_fi w1 (n_v vs 0) 5) (w_fi w1 (n_v vs 0) 7) (w_fi ws (n_v vs 0) 8) (w_fi w1 (n_v vs 0) 8) (w_fi w2 (n_v vs 0) 4) (w_fi w1 (n_v vs 0) 6) (w_fi w2 (n_v vs 0) 6) (w_fi w2 (n_v vs 0) 7) (w_fi w2 (n_v vs 0) 8) (w_ei ws (w_ar ws (n_v vs 0) 3)) (w_ei w1 (w_ar ws (n_v vs 0) 3)) k18 g0 fe_0_4_1 fe_0_5_1 fe_0_7_1 fe_0_8_1 fe_0_4_2 fe_0_6_2 fe_0_7_2 fe_0_8_2 hE_0_3_1 hE_0_3_2 hE_0_3_3 kz_0_4 kz_0_5 kz_0_6 kz_0_7 kz_0_8)⟩
  refine ⟨(fun _ h => (by cases h)), [], trivial, ?_, (fun _ h => (by cases h))⟩
  rw [List.append_nil]
  exact List.forall_mem_cons.mpr ⟨⟨show (20 : Nat) < 100 from by decide, nf0⟩, (fun _ h => (by cases h))⟩
set_option maxHeartbeats 4000000 in
theorem vc_Sy_advance_23_0 (x3 : Int) (x10 : Int) (kind_0 : Int) (next_0 : Int) (begin_0 : Int) (end_0 : Int) (bytes_2 : Int → Int) (bytes_3 : Int → Int) (end_1 : Int) (next_1 : Int) (begin_1 : Int) (number_0 : Int) (number_1 : Int) (end_2 : Int) (kind_1 : Int) (kind_2 : Int) (begin_2 : Int) (number_2 : Int) (bytes_0 : Int → Int) (bytes_1 : Int → Int) (k3 : 0 ≤ x3 ∧ x3 ≤ 1999) (k10 : 123 ≤ x10 ∧ x10 ≤ 127) (g0 : x10 = kind_0) (h20 : x10 = bytes_2 (x3)) (fe_0_4_1 : end_0 = end_1) (fe_0_5_1 : next_0 = next_1) (fe_0_7_1 : begin_0 = begin_1) (fe_0_8_1 : number_0 = number_1) (fe_0_4_2 : end_1 = end_2) (fe_0_6_2 : kind_1 = kind_2) (fe_0_7_2 : begin_1 = begin_2) (fe_0_8_2 : number_1 = number_2) (hE_0_3_1 : ∀ j : Int, bytes_0 j = bytes_1 j) (hE_0_3_2 : ∀ j : Int, bytes_1 j = bytes_2 j) (hE_0_3_3 : ∀ j : Int, bytes_2 j = bytes_3 j) (kz_0_4 : 0 ≤ end_0 ∧ end_0 ≤ 2000) (kz_0_5 : 0 ≤ next_0 ∧ next_0 ≤ 2000) (kz_0_6 : 0 ≤ kind_0 ∧ kind_0 ≤ 127) (kz_0_7 : 0 ≤ begin_0 ∧ begin_0 ≤ 2000) (kz_0_8 : 0 ≤ number_0 ∧ number_0 ≤ 1000000) : (kind_0 ≠ 3) ∨ (number_0 ≤ 9999) := by
  subst fe_0_4_1
  subst fe_0_5_1
  subst fe_0_7_1
  subst fe_0_8_1
  subst fe_0_4_2
  subst fe_0_6_2
  subst fe_0_7_2
  subst fe_0_8_2
  have e_hE_0_3_1 := funext hE_0_3_1; subst e_hE_0_3_1
  have e_hE_0_3_2 := funext hE_0_3_2; subst e_hE_0_3_2
  have e_hE_0_3_3 := funext hE_0_3_3; subst e_hE_0_3_3
  first
    | omega
  
def o_Sy_advance_23 : or_T := (297, 18, [(0, (2, 0, 0, [11])), (2, (2, 0, 0, [11])), (3, (0, 0, 1999, [])), (4, (2, 0, 0, [109])), (5, (0, 1, 2000, [])), (6, (0, -128, 127, [])), (7, (0, 32, 32, [])), (8, (0, -128, 127, [])), (9, (0, 10, 10, [])), (10, (0, 123, 127, [])), (12, (0, 0, 0, [])), (13, (0, 1, 1, [])), (14, (0, 1, 2000, [])), (16, (0, 0, 127, [])), (17, (0, 0, 13, []))], [(9, [10, 2], [6]), (9, [14, 2], [5]), (9, [3, 2], [7]), (9, [5, 2], [4]), (9, [4, 2], [3]), (20, [17, 16], [50, 0, 0, 3, 6, 0, 2, 1, 0, 0, -1, 0, 2, 0, 33, 1, 1]), (22, [16, 10], []), (20, [10, 12], [61, 0, 1098]), (24, [0, 2], []), (101, [2, 10], [6]), (8, [17], [3]), (20, [17, 16], [50, 0, 0, 3, 6, 0, 2, 1, 0, 0, -1, 0, 2, 0, 33, 1, 1]), (22, [16, 10], []), (8, [10], [4]), (20, [10, 12], [61, 0, 1098]), (101, [2, 14], [5]), (1, [14, 3, 13], []), (9, [3, 2], [5]), (8, [12], [0]), (20, [10, 12], [61, 0, 1098]), (10, [10, 4, 3], []), (7, [3, 5], [2]), (101, [2, 3], [7]), (7, [8, 9], [1]), (10, [8, 4, 3], []), (7, [6, 7], [1]), (10, [6, 4, 3], []), (7, [3, 5], [2])], [], [], [(20, [0], [50, 2, 0, 6, 8, 3, 7, 7, 3, 2, 0, 6, 0, 3, 0, 3, 2, 0, 8, 0, 9999])], [], [(14, 3, 1, 1), (14, 5, -4294967296, 0), (3, 5, -4294967296, -1)])
theorem oo_Sy_advance_23 {kA : Nat → ClassId} : or_ok PRD kA GG o_Sy_advance_23 := by
  refine or_mk fun A ta ws vs hD hth hl => ?_
  intro t0 r0 t2 r2 t3 k3 t4 r4 t5 k5 t6 k6 t7 k7 t8 k8 t9 k9 t10 k10 t12 k12 t13 k13 t14 k14 t16 k16 t17 k17 d0 d1 d2 f0 f1 f2 f3 f4 f5 f6 f7 f8 ta1 w1 le1 s1 f10 f11 f12 f13 f14 ta2 w2 le2 s2 f16 f17 f18 f19 f20 f21 ta3 w3 le3 s3 f23 f24 f25 f26 f27
  replace f0 := shm_111 f0
  replace f4 := shm_137 f4
  replace f8 := shm_5 f8
  have s1 : (∀ b j, w_el ws b j = w_el w1 b j) ∧ ∀ b j, w_fd ws b j = if b = v_ad (n_v vs 2) ∧ j = 6 then n_v vs 10 else w_fd w1 b j := s1.2
  have s2 : (∀ b j, w_el w1 b j = w_el w2 b j) ∧ ∀ b j, w_fd w1 b j = if b = v_ad (n_v vs 2) ∧ j = 5 then n_v vs 14 else w_fd w2 b j := s2.2
  replace f20 := shm_107 f20
  have s3 : (∀ b j, w_el w2 b j = w_el w3 b j) ∧ ∀ b j, w_fd w2 b j = if b = v_ad (n_v vs 2) ∧ j = 7 then n_v vs 3 else w_fd w3 b j := s3.2
  have q2 : n_v vs 2 = n_v vs 0 := f8.symm
  simp only [q2] at f0 f4
  rw [q2] at s1
  rw [q2] at s2
  rw [q2] at s3
  have ad_4 : v_ad (n_v vs 4) = w_ar ws (n_v vs 0) 3 := congrArg v_ad f4
  have g0 : v_iv (n_v vs 10) = w_fi ws (n_v vs 0) 6 := congrArg v_iv f0
  simp only [ad_4] at f20
  have h20 : v_iv (n_v vs 10) = w_ei w2 (w_ar ws (n_v vs 0) 3) (v_iv (n_v vs 3)) := f20
  have fe_0_4_1 : w_fi ws (n_v vs 0) 4 = w_fi w1 (n_v vs 0) 4 := by show v_iv (w_fd _ _ _) = v_iv (w_fd _ _ _); rw [s1.2, if_neg (fun e => absurd e.2 (by decide))]
  have fe_0_5_1 : w_fi ws (n_v vs 0) 5 = w_fi w1 (n_v vs 0) 5 := by show v_iv (w_fd _ _ _) = v_iv (w_fd _ _ _); rw [s1.2, if_neg (fun e => absurd e.2 (by decide))]
  have fe_0_7_1 : w_fi ws (n_v vs 0) 7 = w_fi w1 (n_v vs 0) 7 := by show v_iv (w_fd _ _ _) = v_iv (w_fd _ _ _); rw [s1.2, if_neg (fun e => absurd e.2 (by decide))]
  have fe_0_8_1 : w_fi ws (n_v vs 0) 8 = w_fi w1 (n_v vs 0) 8 := by show v_iv (w_fd _ _ _) = v_iv (w_fd _ _ _); rw [s1.2, if_neg (fun e => absurd e.2 (by decide))]
  have fe_0_4_2 : w_fi w1 (n_v vs 0) 4 = w_fi w2 (n_v vs 0) 4 := by show v_iv (w_fd _ _ _) = v_iv (w_fd _ _ _); rw [s2.2, if_neg (fun e => absurd e.2 (by decide))]
  have fe_0_6_2 : w_fi w1 (n_v vs 0) 6 = w_fi w2 (n_v vs 0) 6 := by show v_iv (w_fd _ _ _) = v_iv (w_fd _ _ _); rw [s2.2, if_neg (fun e => absurd e.2 (by decide))]
  have fe_0_7_2 : w_fi w1 (n_v vs 0) 7 = w_fi w2 (n_v vs 0) 7 := by show v_iv (w_fd _ _ _) = v_iv (w_fd _ _ _); rw [s2.2, if_neg (fun e => absurd e.2 (by decide))]
  have fe_0_8_2 : w_fi w1 (n_v vs 0) 8 = w_fi w2 (n_v vs 0) 8 := by show v_iv (w_fd _ _ _) = v_iv (w_fd _ _ _); rw [s2.2, if_neg (fun e => absurd e.2 (by decide))]
  have hE_0_3_1 : ∀ j : Int, w_ei ws (w_ar ws (n_v vs 0) 3) j = w_ei w1 (w_ar ws (n_v vs 0) 3) j := fun j => s1.1 _ _
  have hE_0_3_2 : ∀ j : Int, w_ei w1 (w_ar ws (n_v vs 0) 3) j = w_ei w2 (w_ar ws (n_v vs 0) 3) j := fun j => s2.1 _ _
  have hE_0_3_3 : ∀ j : Int, w_ei w2 (w_ar ws (n_v vs 0) 3) j = w_ei w3 (w_ar ws (n_v vs 0) 3) j := fun j => s3.1 _ _
  have kz_0_4 := fdq_312 hD hth r0
  have kz_0_5 := fdq_28 hD hth r0
  have kz_0_6 := fdq_313 hD hth r0
  have kz_0_7 := fdq_29 hD hth r0
  have kz_0_8 := fdq_314 hD hth r0
  have nf0 : fc_1 PRD (20, [0], [50, 2, 0, 6, 8, 3, 7, 7, 3, 2, 0, 6, 0, 3, 0, 3, 2, 0, 8, 0, 9999]) ws (vs) := ⟨nf_in hl rfl, sgq_1840 (vc_Sy_advance_23_0 (v_iv (n_v vs 3)) (v_iv (n_v vs 10)) (w_fi ws (n_v vs 0) 6) (w_fi ws (n_v vs 0) 5) (w_fi ws (n_v vs 0) 7) (w_fi ws (n_v vs 0) 4) (w_ei w2 (w_ar ws (n_v vs 0) 3)) (w_ei w3 (w_ar ws (n_v vs 0) 3)) (w_fi w1 (n_v vs 0) 4) (w_fi w1 (n_v vs 0) 5) (w_fi w1 (n_v vs 0) 7) (w_fi ws (n_v vs 0) 8) (w_fi w1 (n_v vs 0) 8) (w_fi w2 (n_v vs 0) 4) (w_fi w1 (n_v vs 0) 6) (w_fi w2 (n_v vs 0) 6) (w_fi w2 (n_v vs 0) 7) (w_fi w2 (n_v vs 0) 8) (w_ei ws (w_ar ws (n_v vs 0) 3)) (w_ei w1 (w_ar ws (n_v vs 0) 3)) k3 k10 g0 h20 fe_0_4_1 fe_0_5_1 fe_0_7_1 fe_0_8_1 fe_0_4_2 fe_0_6_2 fe_0_7_2 fe_0_8_2 hE_0_3_1 hE_0_3_2 hE_0_3_3 kz_0_4 kz_0_5 kz_0_6 kz_0_7 kz_0_8)⟩
  refine ⟨(fun _ h => (by cases h)), [], trivial, ?_, (fun _ h => (by cases h))⟩
  rw [List.append_nil]
  exact List.forall_mem_cons.mpr ⟨⟨show (20 : Nat) < 100 from by decide, nf0⟩, (fun _ h => (by cases h))⟩
set_option maxHeartbeats 4000000 in
theorem vc_Sy_advance_24_0 (x10 : Int) (kind_0 : Int) (number_0 : Int) (k10 : 0 ≤ x10 ∧ x10 ≤ 0) (g0 : x10 = kind_0) (kz_0_6 : 0 ≤ kind_0 ∧ kind_0 ≤ 127) (kz_0_8 : 0 ≤ number_0 ∧ number_0 ≤ 1000000) : (kind_0 ≠ 3) ∨ (number_0 ≤ 9999) := by
  first
    | omega
  
def o_Sy_advance_24 : or_T := (76, 11, [(0, (2, 0, 0, [11])), (10, (0, 0, 0, []))], [(9, [10, 2], [6]), (24, [0, 2], [])], [], [], [(20, [0], [50, 2, 0, 6, 8, 3, 7, 7, 3, 2, 0, 6, 0, 3, 0, 3, 2, 0, 8, 0, 9999])], [], [])
theorem oo_Sy_advance_24 {kA : Nat → ClassId} : or_ok PRD kA GG o_Sy_advance_24 := by
  refine or_mk fun A ta ws vs hD hth hl => ?_
  intro t0 r0 t10 k10 f0 f1
  replace f0 := shm_111 f0
  replace f1 := shm_5 f1
  have q2 : n_v vs 2 = n_v vs 0 := f1.symm
  simp only [q2] at f0
  have g0 : v_iv (n_v vs 10) = w_fi ws (n_v vs 0) 6 := congrArg v_iv f0
  have kz_0_6 := fdq_313 hD hth r0
  have kz_0_8 := fdq_314 hD hth r0
  have nf0 : fc_1 PRD (20, [0], [50, 2, 0, 6, 8, 3, 7, 7, 3, 2, 0, 6, 0, 3, 0, 3, 2, 0, 8, 0, 9999]) ws (vs) := ⟨nf_in hl rfl, sgq_1840 (vc_Sy_advance_24_0 (v_iv (n_v vs 10)) (w_fi ws (n_v vs 0) 6) (w_fi ws (n_v vs 0) 8) k10 g0 kz_0_6 kz_0_8)⟩
  refine ⟨(fun _ h => (by cases h)), [], trivial, ?_, (fun _ h => (by cases h))⟩
  rw [List.append_nil]
  exact List.forall_mem_cons.mpr ⟨⟨show (20 : Nat) < 100 from by decide, nf0⟩, (fun _ h => (by cases h))⟩
set_option maxHeartbeats 4000000 in
theorem vc_Sy_advance_25_0 (x10 : Int) (kind_0 : Int) (number_0 : Int) (k10 : 1 ≤ x10 ∧ x10 ≤ 1) (g0 : x10 = kind_0) (kz_0_6 : 0 ≤ kind_0 ∧ kind_0 ≤ 127) (kz_0_8 : 0 ≤ number_0 ∧ number_0 ≤ 1000000) : (kind_0 ≠ 3) ∨ (number_0 ≤ 9999) := by
  first
    | omega
  
def o_Sy_advance_25 : or_T := (297, 11, [(0, (2, 0, 0, [11])), (2, (2, 0, 0, [11])), (10, (0, 1, 1, []))], [(9, [10, 2], [6]), (24, [0, 2], []), (101, [2, 10], [6])], [], [], [(20, [0], [50, 2, 0, 6, 8, 3, 7, 7, 3, 2, 0, 6, 0, 3, 0, 3, 2, 0, 8, 0, 9999])], [], [])
theorem oo_Sy_advance_25 {kA : Nat → ClassId} : or_ok PRD kA GG o_Sy_advance_25 := by
  refine or_mk fun A ta ws vs hD hth hl => ?_
  intro t0 r0 t2 r2 t10 k10 f0 f1 ta1 w1 le1 s1
  replace f0 := shm_111 f0
  replace f1 := shm_5 f1
  have q2 : n_v vs 2 = n_v vs 0 := f1.symm
  simp only [q2] at f0
  have g0 : v_iv (n_v vs 10) = w_fi ws (n_v vs 0) 6 := congrArg v_iv f0
  have kz_0_6 := fdq_313 hD hth r0
  have kz_0_8 := fdq_314 hD hth r0
  have nf0 : fc_1 PRD (20, [0], [50, 2, 0, 6, 8, 3, 7, 7, 3, 2, 0, 6, 0, 3, 0, 3, 2, 0, 8, 0, 9999]) ws (vs) := ⟨nf_in hl rfl, sgq_1840 (vc_Sy_advance_25_0 (v_iv (n_v vs 10)) (w_fi ws (n_v vs 0) 6) (w_fi ws (n_v vs 0) 8) k10 g0 kz_0_6 kz_0_8)⟩
  refine ⟨(fun _ h => (by cases h)), [], trivial, ?_, (fun _ h => (by cases h))⟩
  rw [List.append_nil]
  exact List.forall_mem_cons.mpr ⟨⟨show (20 : Nat) < 100 from by decide, nf0⟩, (fun _ h => (by cases h))⟩
set_option maxHeartbeats 4000000 in
theorem vc_Sy_advance_26_0 (x10 : Int) (kind_0 : Int) (number_0 : Int) (k10 : 2 ≤ x10 ∧ x10 ≤ 2) (g0 : x10 = kind_0) (kz_0_6 : 0 ≤ kind_0 ∧ kind_0 ≤ 127) (kz_0_8 : 0 ≤ number_0 ∧ number_0 ≤ 1000000) : (kind_0 ≠ 3) ∨ (number_0 ≤ 9999) := by
  first
    | omega
  
def o_Sy_advance_26 : or_T := (297, 11, [(0, (2, 0, 0, [11])), (2, (2, 0, 0, [11])), (10, (0, 2, 2, []))], [(9, [10, 2], [6]), (24, [0, 2], []), (101, [2, 10], [6])], [], [], [(20, [0], [50, 2, 0, 6, 8, 3, 7, 7, 3, 2, 0, 6, 0, 3, 0, 3, 2, 0, 8, 0, 9999])], [], [])
theorem oo_Sy_advance_26 {kA : Nat → ClassId} : or_ok PRD kA GG o_Sy_advance_26 := by
  refine or_mk fun A ta ws vs hD hth hl => ?_
  intro t0 r0 t2 r2 t10 k10 f0 f1 ta1 w1 le1 s1
  replace f0 := shm_111 f0
  replace f1 := shm_5 f1
  have q2 : n_v vs 2 = n_v vs 0 := f1.symm
  simp only [q2] at f0
  have g0 : v_iv (n_v vs 10) = w_fi ws (n_v vs 0) 6 := congrArg v_iv f0
  have kz_0_6 := fdq_313 hD hth r0
  have kz_0_8 := fdq_314 hD hth r0
  have nf0 : fc_1 PRD (20, [0], [50, 2, 0, 6, 8, 3, 7, 7, 3, 2, 0, 6, 0, 3, 0, 3, 2, 0, 8, 0, 9999]) ws (vs) := ⟨nf_in hl rfl, sgq_1840 (vc_Sy_advance_26_0 (v_iv (n_v vs 10)) (w_fi ws (n_v vs 0) 6) (w_fi ws (n_v vs 0) 8) k10 g0 kz_0_6 kz_0_8)⟩
  refine ⟨(fun _ h => (by cases h)), [], trivial, ?_, (fun _ h => (by cases h))⟩
  rw [List.append_nil]
  exact List.forall_mem_cons.mpr ⟨⟨show (20 : Nat) < 100 from by decide, nf0⟩, (fun _ h => (by cases h))⟩
set_option maxHeartbeats 4000000 in
theorem vc_Sy_advance_27_0 (x12 : Int) (kind_0 : Int) (number_0 : Int) (k12 : 1 ≤ x12 ∧ x12 ≤ 1) (g0 : x12 = kind_0) (kz_0_6 : 0 ≤ kind_0 ∧ kind_0 ≤ 127) (kz_0_8 : 0 ≤ number_0 ∧ number_0 ≤ 1000000) : (kind_0 ≠ 3) ∨ (number_0 ≤ 9999) := by
  first
    | omega
  
def o_Sy_advance_27 : or_T := (297, 13, [(0, (2, 0, 0, [11])), (2, (2, 0, 0, [11])), (12, (0, 1, 1, []))], [(9, [12, 2], [6]), (24, [0, 2], []), (101, [2, 12], [6])], [], [], [(20, [0], [50, 2, 0, 6, 8, 3, 7, 7, 3, 2, 0, 6, 0, 3, 0, 3, 2, 0, 8, 0, 9999])], [], [])
theorem oo_Sy_advance_27 {kA : Nat → ClassId} : or_ok PRD kA GG o_Sy_advance_27 := by
  refine or_mk fun A ta ws vs hD hth hl => ?_
  intro t0 r0 t2 r2 t12 k12 f0 f1 ta1 w1 le1 s1
  replace f0 := shm_111 f0
  replace f1 := shm_5 f1
  have q2 : n_v vs 2 = n_v vs 0 := f1.symm
  simp only [q2] at f0
  have g0 : v_iv (n_v vs 12) = w_fi ws (n_v vs 0) 6 := congrArg v_iv f0
  have kz_0_6 := fdq_313 hD hth r0
  have kz_0_8 := fdq_314 hD hth r0
  have nf0 : fc_1 PRD (20, [0], [50, 2, 0, 6, 8, 3, 7, 7, 3, 2, 0, 6, 0, 3, 0, 3, 2, 0, 8, 0, 9999]) ws (vs) := ⟨nf_in hl rfl, sgq_1840 (vc_Sy_advance_27_0 (v_iv (n_v vs 12)) (w_fi ws (n_v vs 0) 6) (w_fi ws (n_v vs 0) 8) k12 g0 kz_0_6 kz_0_8)⟩
  refine ⟨(fun _ h => (by cases h)), [], trivial, ?_, (fun _ h => (by cases h))⟩
  rw [List.append_nil]
  exact List.forall_mem_cons.mpr ⟨⟨show (20 : Nat) < 100 from by decide, nf0⟩, (fun _ h => (by cases h))⟩
set_option maxHeartbeats 4000000 in
theorem vc_Sy_advance_28_0 (x12 : Int) (kind_0 : Int) (number_0 : Int) (k12 : 2 ≤ x12 ∧ x12 ≤ 2) (g0 : x12 = kind_0) (kz_0_6 : 0 ≤ kind_0 ∧ kind_0 ≤ 127) (kz_0_8 : 0 ≤ number_0 ∧ number_0 ≤ 1000000) : (kind_0 ≠ 3) ∨ (number_0 ≤ 9999) := by
  first
    | omega
  
def o_Sy_advance_28 : or_T := (297, 13, [(0, (2, 0, 0, [11])), (2, (2, 0, 0, [11])), (12, (0, 2, 2, []))], [(9, [12, 2], [6]), (24, [0, 2], []), (101, [2, 12], [6])], [], [], [(20, [0], [50, 2, 0, 6, 8, 3, 7, 7, 3, 2, 0, 6, 0, 3, 0, 3, 2, 0, 8, 0, 9999])], [], [])
theorem oo_Sy_advance_28 {kA : Nat → ClassId} : or_ok PRD kA GG o_Sy_advance_28 := by
  refine or_mk fun A ta ws vs hD hth hl => ?_
  intro t0 r0 t2 r2 t12 k12 f0 f1 ta1 w1 le1 s1
  replace f0 := shm_111 f0
  replace f1 := shm_5 f1
  have q2 : n_v vs 2 = n_v vs 0 := f1.symm
  simp only [q2] at f0
  have g0 : v_iv (n_v vs 12) = w_fi ws (n_v vs 0) 6 := congrArg v_iv f0
  have kz_0_6 := fdq_313 hD hth r0
  have kz_0_8 := fdq_314 hD hth r0
  have nf0 : fc_1 PRD (20, [0], [50, 2, 0, 6, 8, 3, 7, 7, 3, 2, 0, 6, 0, 3, 0, 3, 2, 0, 8, 0, 9999]) ws (vs) := ⟨nf_in hl rfl, sgq_1840 (vc_Sy_advance_28_0 (v_iv (n_v vs 12)) (w_fi ws (n_v vs 0) 6) (w_fi ws (n_v vs 0) 8) k12 g0 kz_0_6 kz_0_8)⟩
  refine ⟨(fun _ h => (by cases h)), [], trivial, ?_, (fun _ h => (by cases h))⟩
  rw [List.append_nil]
  exact List.forall_mem_cons.mpr ⟨⟨show (20 : Nat) < 100 from by decide, nf0⟩, (fun _ h => (by cases h))⟩
set_option maxHeartbeats 4000000 in
theorem vc_Sy_advance_29_0 (x11 : Int) (kind_0 : Int) (begin_0 : Int) (number_0 : Int) (next_0 : Int) (number_1 : Int) (begin_1 : Int) (next_1 : Int) (k11 : 1 ≤ x11 ∧ x11 ≤ 1) (g0 : x11 = kind_0) (fe_0_5_1 : next_0 = next_1) (fe_0_7_1 : begin_0 = begin_1) (fe_0_8_1 : number_0 = number_1) (kz_0_5 : 0 ≤ next_0 ∧ next_0 ≤ 2000) (kz_0_6 : 0 ≤ kind_0 ∧ kind_0 ≤ 127) (kz_0_7 : 0 ≤ begin_0 ∧ begin_0 ≤ 2000) (kz_0_8 : 0 ≤ number_0 ∧ number_0 ≤ 1000000) : (kind_0 ≠ 3) ∨ (number_0 ≤ 9999) := by
  subst fe_0_5_1
  subst fe_0_7_1
  subst fe_0_8_1
  first
    | omega
  
def o_Sy_advance_29 : or_T := (297, 12, [(0, (2, 0, 0, [11])), (2, (2, 0, 0, [11])), (4, (0, 0, 1000000, [])), (5, (0, 5, 2000, [])), (7, (0, 0, 2000, [])), (8, (0, 0, 2000, [])), (9, (0, 5, 2000, [])), (10, (0, 4, 4, [])), (11, (0, 1, 1, []))], [(9, [11, 2], [6]), (9, [8, 2], [7]), (9, [7, 2], [4]), (9, [4, 2], [8]), (9, [5, 2], [5]), (20, [2], [50, 3, 0, 8, 7, 5, 2, 7, 0, 2, 0, 0, 2, 0, 8, 2, 8, 0, 3, 2, 0, 7, 2, 0, 5, 2, 21, 4, 12, 0, 8, 5, 3, 2, 0, 5, 2, 0, 7, 0, 0, 0, 3, 2, 0, 8, 0, 0, 2, 21, 4, 12, 0, 8, 5, 3, 2, 0, 5, 2, 0, 7, 0, 1, 0, 3, 2, 0, 8, 0, 9, 2, 21, 4, 12, 0, 8, 5, 3, 2, 0, 5, 2, 0, 7, 0, 2, 0, 3, 2, 0, 8, 0, 99, 2, 21, 4, 12, 0, 8, 5, 3, 2, 0, 5, 2, 0, 7, 0, 3, 0, 3, 2, 0, 8, 0, 999, 4, 12, 0, 8, 5, 3, 2, 0, 5, 2, 0, 7, 0, 4, 0, 3, 2, 0, 8, 0, 9999]), (24, [0, 2], []), (101, [2, 11], [6]), (7, [9, 10], [4]), (2, [9, 5, 8], []), (7, [5, 7], [3]), (20, [2], [50, 3, 0, 8, 7, 5, 2, 7, 0, 2, 0, 0, 2, 0, 8, 2, 8, 0, 3, 2, 0, 7, 2, 0, 5, 2, 21, 4, 12, 0, 8, 5, 3, 2, 0, 5, 2, 0, 7, 0, 0, 0, 3, 2, 0, 8, 0, 0, 2, 21, 4, 12, 0, 8, 5, 3, 2, 0, 5, 2, 0, 7, 0, 1, 0, 3, 2, 0, 8, 0, 9, 2, 21, 4, 12, 0, 8, 5, 3, 2, 0, 5, 2, 0, 7, 0, 2, 0, 3, 2, 0, 8, 0, 99, 2, 21, 4, 12, 0, 8, 5, 3, 2, 0, 5, 2, 0, 7, 0, 3, 0, 3, 2, 0, 8, 0, 999, 4, 12, 0, 8, 5, 3, 2, 0, 5, 2, 0, 7, 0, 4, 0, 3, 2, 0, 8, 0, 9999])], [], [], [(20, [0], [50, 2, 0, 6, 8, 3, 7, 7, 3, 2, 0, 6, 0, 3, 0, 3, 2, 0, 8, 0, 9999])], [], [(9, 5, -2000, 0), (5, 7, 0, 4294967296)])
theorem oo_Sy_advance_29 {kA : Nat → ClassId} : or_ok PRD kA GG o_Sy_advance_29 := by
  refine or_mk fun A ta ws vs hD hth hl => ?_
  intro t0 r0 t2 r2 t4 k4 t5 k5 t7 k7 t8 k8 t9 k9 t10 k10 t11 k11 d0 d1 f0 f1 f2 f3 f4 f5 f6 ta1 w1 le1 s1 f8 f9 f10 f11
  replace f0 := shm_111 f0
  replace f6 := shm_5 f6
  have s1 : (∀ b j, w_el ws b j = w_el w1 b j) ∧ ∀ b j, w_fd ws b j = if b = v_ad (n_v vs 2) ∧ j = 6 then n_v vs 11 else w_fd w1 b j := s1.2
  have q2 : n_v vs 2 = n_v vs 0 := f6.symm
  simp only [q2] at f0
  rw [q2] at s1
  have g0 : v_iv (n_v vs 11) = w_fi ws (n_v vs 0) 6 := congrArg v_iv f0
  have fe_0_5_1 : w_fi ws (n_v vs 0) 5 = w_fi w1 (n_v vs 0) 5 := by show v_iv (w_fd _ _ _) = v_iv (w_fd _ _ _); rw [s1.2, if_neg (fun e => absurd e.2 (by decide))]
  have fe_0_7_1 : w_fi ws (n_v vs 0) 7 = w_fi w1 (n_v vs 0) 7 := by show v_iv (w_fd _ _ _) = v_iv (w_fd _ _ _); rw [s1.2, if_neg (fun e => absurd e.2 (by decide))]
  have fe_0_8_1 : w_fi ws (n_v vs 0) 8 = w_fi w1 (n_v vs 0) 8 := by show v_iv (w_fd _ _ _) = v_iv (w_fd _ _ _); rw [s1.2, if_neg (fun e => absurd e.2 (by decide))]
  have kz_0_5 := fdq_28 hD hth r0
  have kz_0_6 := fdq_313 hD hth r0
  have kz_0_7 := fdq_29 hD hth r0
  have kz_0_8 := fdq_314 hD hth r0
  have nf0 : fc_1 PRD (20, [0], [50, 2, 0, 6, 8, 3, 7, 7, 3, 2, 0, 6, 0, 3, 0, 3, 2, 0, 8, 0, 9999]) ws (vs) := ⟨nf_in hl rfl, sgq_1840 (vc_Sy_advance_29_0 (v_iv (n_v vs 11)) (w_fi ws (n_v vs 0) 6) (w_fi ws (n_v vs 0) 7) (w_fi ws (n_v vs 0) 8) (w_fi ws (n_v vs 0) 5) (w_fi w1 (n_v vs 0) 8) (w_fi w1 (n_v vs 0) 7) (w_fi w1 (n_v vs 0) 5) k11 g0 fe_0_5_1 fe_0_7_1 fe_0_8_1 kz_0_5 kz_0_6 kz_0_7 kz_0_8)⟩
  refine ⟨(fun _ h => (by cases h)), [], trivial, ?_, (fun _ h => (by cases h))⟩
  rw [List.append_nil]
  exact List.forall_mem_cons.mpr ⟨⟨show (20 : Nat) < 100 from by decide, nf0⟩, (fun _ h => (by cases h))⟩

set_option maxHeartbeats 4000000 in
theorem vc_Sy_advance_30_0 (x4 : Int) (x5 : Int) (x8 : Int) (x9 : Int) (kind_0 : Int) (begin_0 : Int) (number_0 : Int) (next_0 : Int) (number_1 : Int) (begin_1 : Int) (next_1 : Int) (k4 : 0 ≤ x4 ∧ x4 ≤ 1000000) (k5 : 0 ≤ x5 ∧ x5 ≤ 2000) (k8 : 0 ≤ x8 ∧ x8 ≤ 2000) (k9 : (-2000) ≤ x9 ∧ x9 ≤ 4) (g1 : x8 = begin_0) (g3 : x4 = number_0) (g4 : x5 = next_0) (f5 : (0 ≤ number_0) ∧ ((begin_0 ≤ next_0) ∧ ((((next_0 - begin_0) ≤ 0) → (number_0 ≤ 0)) ∧ ((((next_0 - begin_0) ≤ 1) → (number_0 ≤ 9)) ∧ ((((next_0 - begin_0) ≤ 2) → (number_0 ≤ 99)) ∧ ((((next_0 - begin_0) ≤ 3) → (number_0 ≤ 999)) ∧ (((next_0 - begin_0) ≤ 4) → (number_0 ≤ 9999)))))))) (f9 : x9 = x5 - x8) (f11 : (0 ≤ number_1) ∧ ((begin_1 ≤ next_1) ∧ ((((next_1 - begin_1) ≤ 0) → (number_1 ≤ 0)) ∧ ((((next_1 - begin_1) ≤ 1) → (number_1 ≤ 9)) ∧ ((((next_1 - begin_1) ≤ 2) → (number_1 ≤ 99)) ∧ ((((next_1 - begin_1) ≤ 3) → (number_1 ≤ 999)) ∧ (((next_1 - begin_1) ≤ 4) → (number_1 ≤ 9999)))))))) (fe_0_5_1 : next_0 = next_1) (fe_0_7_1 : begin_0 = begin_1) (fe_0_8_1 : number_0 = number_1) (kz_0_5 : 0 ≤ next_0 ∧ next_0 ≤ 2000) (kz_0_6 : 0 ≤ kind_0 ∧ kind_0 ≤ 127) (kz_0_7 : 0 ≤ begin_0 ∧ begin_0 ≤ 2000) (kz_0_8 : 0 ≤ number_0 ∧ number_0 ≤ 1000000) : (kind_0 ≠ 3) ∨ (number_0 ≤ 9999) := by
  subst fe_0_5_1
  subst fe_0_7_1
  subst fe_0_8_1
  first
    | omega
  
def o_Sy_advance_30 : or_T := (297, 12, [(0, (2, 0, 0, [11])), (2, (2, 0, 0, [11])), (4, (0, 0, 1000000, [])), (5, (0, 0, 2000, [])), (7, (0, 0, 2000, [])), (8, (0, 0, 2000, [])), (9, (0, -2000, 4, [])), (10, (0, 4, 4, [])), (11, (0, 3, 3, []))], [(9, [11, 2], [6]), (9, [8, 2], [7]), (9, [7, 2], [4]), (9, [4, 2], [8]), (9, [5, 2], [5]), (20, [2], [50, 3, 0, 8, 7, 5, 2, 7, 0, 2, 0, 0, 2, 0, 8, 2, 8, 0, 3, 2, 0, 7, 2, 0, 5, 2, 21, 4, 12, 0, 8, 5, 3, 2, 0, 5, 2, 0, 7, 0, 0, 0, 3, 2, 0, 8, 0, 0, 2, 21, 4, 12, 0, 8, 5, 3, 2, 0, 5, 2, 0, 7, 0, 1, 0, 3, 2, 0, 8, 0, 9, 2, 21, 4, 12, 0, 8, 5, 3, 2, 0, 5, 2, 0, 7, 0, 2, 0, 3, 2, 0, 8, 0, 99, 2, 21, 4, 12, 0, 8, 5, 3, 2, 0, 5, 2, 0, 7, 0, 3, 0, 3, 2, 0, 8, 0, 999, 4, 12, 0, 8, 5, 3, 2, 0, 5, 2, 0, 7, 0, 4, 0, 3, 2, 0, 8, 0, 9999]), (24, [0, 2], []), (101, [2, 11], [6]), (7, [9, 10], [5]), (2, [9, 5, 8], []), (7, [5, 7], [3]), (20, [2], [50, 3, 0, 8, 7, 5, 2, 7, 0, 2, 0, 0, 2, 0, 8, 2, 8, 0, 3, 2, 0, 7, 2, 0, 5, 2, 21, 4, 12, 0, 8, 5, 3, 2, 0, 5, 2, 0, 7, 0, 0, 0, 3, 2, 0, 8, 0, 0, 2, 21, 4, 12, 0, 8, 5, 3, 2, 0, 5, 2, 0, 7, 0, 1, 0, 3, 2, 0, 8, 0, 9, 2, 21, 4, 12, 0, 8, 5, 3, 2, 0, 5, 2, 0, 7, 0, 2, 0, 3, 2, 0, 8, 0, 99, 2, 21, 4, 12, 0, 8, 5, 3, 2, 0, 5, 2, 0, 7, 0, 3, 0, 3, 2, 0, 8, 0, 999, 4, 12, 0, 8, 5, 3, 2, 0, 5, 2, 0, 7, 0, 4, 0, 3, 2, 0, 8, 0, 9999])], [], [], [(20, [0], [50, 2, 0, 6, 8, 3, 7, 7, 3, 2, 0, 6, 0, 3, 0, 3, 2, 0, 8, 0, 9999])], [], [(9, 5, -2000, 0), (9, 7, -2000, 4294967296), (5, 7, 0, 4294967296)])
theorem oo_Sy_advance_30 {kA : Nat → ClassId} : or_ok PRD kA GG o_Sy_advance_30 := by
  refine or_mk fun A ta ws vs hD hth hl => ?_
  intro t0 r0 t2 r2 t4 k4 t5 k5 t7 k7 t8 k8 t9 k9 t10 k10 t11 k11 d0 d1 d2 f0 f1 f2 f3 f4 f5 f6 ta1 w1 le1 s1 f8 f9 f10 f11
  replace f1 := shm_198 f1
  replace f3 := shm_293 f3
  replace f4 := shm_110 f4
  replace f5 := shm_1841 f5
  replace f6 := shm_5 f6
  have s1 : (∀ b j, w_el ws b j = w_el w1 b j) ∧ ∀ b j, w_fd ws b j = if b = v_ad (n_v vs 2) ∧ j = 6 then n_v vs 11 else w_fd w1 b j := s1.2
  replace f11 := shm_1841 f11
  have q2 : n_v vs 2 = n_v vs 0 := f6.symm
  simp only [q2] at f1 f3 f4 f5
  rw [q2] at s1
  simp only [q2] at f11
  have g1 : v_iv (n_v vs 8) = w_fi ws (n_v vs 0) 7 := congrArg v_iv f1
  have g3 : v_iv (n_v vs 4) = w_fi ws (n_v vs 0) 8 := congrArg v_iv f3
  have g4 : v_iv (n_v vs 5) = w_fi ws (n_v vs 0) 5 := congrArg v_iv f4
  have fe_0_5_1 : w_fi ws (n_v vs 0) 5 = w_fi w1 (n_v vs 0) 5 := by show v_iv (w_fd _ _ _) = v_iv (w_fd _ _ _); rw [s1.2, if_neg (fun e => absurd e.2 (by decide))]
  have fe_0_7_1 : w_fi ws (n_v vs 0) 7 = w_fi w1 (n_v vs 0) 7 := by show v_iv (w_fd _ _ _) = v_iv (w_fd _ _ _); rw [s1.2, if_neg (fun e => absurd e.2 (by decide))]
  have fe_0_8_1 : w_fi ws (n_v vs 0) 8 = w_fi w1 (n_v vs 0) 8 := by show v_iv (w_fd _ _ _) = v_iv (w_fd _ _ _); rw [s1.2, if_neg (fun e => absurd e.2 (by decide))]
  have kz_0_5 := fdq_28 hD hth r0
  have kz_0_6 := fdq_313 hD hth r0
  have kz_0_7 := fdq_29 hD hth r0
  have kz_0_8 := fdq_314 hD hth r0
  have nf0 : fc_1 PRD (20, [0], [50, 2, 0, 6, 8, 3, 7, 7, 3, 2, 0, 6, 0, 3, 0, 3, 2, 0, 8, 0, 9999]) ws (vs) := ⟨nf_in hl rfl, sgq_1840 (vc_Sy_advance_30_0 (v_iv (n_v vs 4)) (v_iv (n_v vs 5)) (v_iv (n_v vs 8)) (v_iv (n_v vs 9)) (w_fi ws (n_v vs 0) 6) (w_fi ws (n_v vs 0) 7) (w_fi ws (n_v vs 0) 8) (w_fi ws (n_v vs 0) 5) (w_fi w1 (n_v vs 0) 8) (w_fi w1 (n_v vs 0) 7) (w_fi w1 (n_v vs 0) 5) k4 k5 k8 k9 g1 g3 g4 f5 (shm_14 f9) f11 fe_0_5_1 fe_0_7_1 fe_0_8_1 kz_0_5 kz_0_6 kz_0_7 kz_0_8)⟩
  refine ⟨(fun _ h => (by cases h)), [], trivial, ?_, (fun _ h => (by cases h))⟩
  rw [List.append_nil]
  exact List.forall_mem_cons.mpr ⟨⟨show (20 : Nat) < 100 from by decide, nf0⟩, (fun _ h => (by cases h))⟩
set_option maxHeartbeats 4000000 in
theorem vc_Sy_advance_31_0 (x13 : Int) (kind_0 : Int) (begin_0 : Int) (number_0 : Int) (next_0 : Int) (bytes_1 : Int → Int) (number_1 : Int) (begin_1 : Int) (next_1 : Int) (bytes_0 : Int → Int) (k13 : 1 ≤ x13 ∧ x13 ≤ 1) (g0 : x13 = kind_0) (fe_0_5_1 : next_0 = next_1) (fe_0_7_1 : begin_0 = begin_1) (fe_0_8_1 : number_0 = number_1) (hE_0_3_1 : ∀ j : Int, bytes_0 j = bytes_1 j) (kz_0_5 : 0 ≤ next_0 ∧ next_0 ≤ 2000) (kz_0_6 : 0 ≤ kind_0 ∧ kind_0 ≤ 127) (kz_0_7 : 0 ≤ begin_0 ∧ begin_0 ≤ 2000) (kz_0_8 : 0 ≤ number_0 ∧ number_0 ≤ 1000000) : (kind_0 ≠ 3) ∨ (number_0 ≤ 9999) := by
  subst fe_0_5_1
  subst fe_0_7_1
  subst fe_0_8_1
  have e_hE_0_3_1 := funext hE_0_3_1; subst e_hE_0_3_1
  first
    | omega
  
def o_Sy_advance_31 : or_T := (297, 14, [(0, (2, 0, 0, [11])), (2, (2, 0, 0, [11])), (4, (0, 0, 1000000, [])), (5, (0, 5, 1999, [])), (6, (2, 0, 0, [109])), (7, (0, 6, 2000, [])), (8, (0, -128, 47, [])), (9, (0, 0, 0, [])), (10, (0, 0, 2000, [])), (11, (0, 5, 1999, [])), (12, (0, 4, 4, [])), (13, (0, 1, 1, []))], [(9, [13, 2], [6]), (9, [10, 2], [7]), (9, [7, 2], [4]), (9, [4, 2], [8]), (9, [5, 2], [5]), (9, [6, 2], [3]), (20, [8, 9], [61, 0, 1098]), (20, [2], [50, 3, 0, 8, 7, 5, 2, 7, 0, 2, 0, 0, 2, 0, 8, 2, 8, 0, 3, 2, 0, 7, 2, 0, 5, 2, 21, 4, 12, 0, 8, 5, 3, 2, 0, 5, 2, 0, 7, 0, 0, 0, 3, 2, 0, 8, 0, 0, 2, 21, 4, 12, 0, 8, 5, 3, 2, 0, 5, 2, 0, 7, 0, 1, 0, 3, 2, 0, 8, 0, 9, 2, 21, 4, 12, 0, 8, 5, 3, 2, 0, 5, 2, 0, 7, 0, 2, 0, 3, 2, 0, 8, 0, 99, 2, 21, 4, 12, 0, 8, 5, 3, 2, 0, 5, 2, 0, 7, 0, 3, 0, 3, 2, 0, 8, 0, 999, 4, 12, 0, 8, 5, 3, 2, 0, 5, 2, 0, 7, 0, 4, 0, 3, 2, 0, 8, 0, 9999]), (24, [0, 2], []), (101, [2, 13], [6]), (7, [11, 12], [4]), (2, [11, 5, 10], []), (8, [9], [0]), (20, [8, 9], [61, 0, 1098]), (10, [8, 6, 5], []), (7, [5, 7], [2]), (20, [2], [50, 3, 0, 8, 7, 5, 2, 7, 0, 2, 0, 0, 2, 0, 8, 2, 8, 0, 3, 2, 0, 7, 2, 0, 5, 2, 21, 4, 12, 0, 8, 5, 3, 2, 0, 5, 2, 0, 7, 0, 0, 0, 3, 2, 0, 8, 0, 0, 2, 21, 4, 12, 0, 8, 5, 3, 2, 0, 5, 2, 0, 7, 0, 1, 0, 3, 2, 0, 8, 0, 9, 2, 21, 4, 12, 0, 8, 5, 3, 2, 0, 5, 2, 0, 7, 0, 2, 0, 3, 2, 0, 8, 0, 99, 2, 21, 4, 12, 0, 8, 5, 3, 2, 0, 5, 2, 0, 7, 0, 3, 0, 3, 2, 0, 8, 0, 999, 4, 12, 0, 8, 5, 3, 2, 0, 5, 2, 0, 7, 0, 4, 0, 3, 2, 0, 8, 0, 9999])], [], [], [(20, [0], [50, 2, 0, 6, 8, 3, 7, 7, 3, 2, 0, 6, 0, 3, 0, 3, 2, 0, 8, 0, 9999])], [], [(11, 5, -2000, 0), (11, 7, -4294967296, -1), (5, 7, -4294967296, -1)])
theorem oo_Sy_advance_31 {kA : Nat → ClassId} : or_ok PRD kA GG o_Sy_advance_31 := by
  refine or_mk fun A ta ws vs hD hth hl => ?_
  intro t0 r0 t2 r2 t4 k4 t5 k5 t6 r6 t7 k7 t8 k8 t9 k9 t10 k10 t11 k11 t12 k12 t13 k13 d0 d1 d2 f0 f1 f2 f3 f4 f5 f6 f7 f8 ta1 w1 le1 s1 f10 f11 f12 f13 f14 f15 f16
  replace f0 := shm_111 f0
  replace f8 := shm_5 f8
  have s1 : (∀ b j, w_el ws b j = w_el w1 b j) ∧ ∀ b j, w_fd ws b j = if b = v_ad (n_v vs 2) ∧ j = 6 then n_v vs 13 else w_fd w1 b j := s1.2
  have q2 : n_v vs 2 = n_v vs 0 := f8.symm
  simp only [q2] at f0
  rw [q2] at s1
  have g0 : v_iv (n_v vs 13) = w_fi ws (n_v vs 0) 6 := congrArg v_iv f0
  have fe_0_5_1 : w_fi ws (n_v vs 0) 5 = w_fi w1 (n_v vs 0) 5 := by show v_iv (w_fd _ _ _) = v_iv (w_fd _ _ _); rw [s1.2, if_neg (fun e => absurd e.2 (by decide))]
  have fe_0_7_1 : w_fi ws (n_v vs 0) 7 = w_fi w1 (n_v vs 0) 7 := by show v_iv (w_fd _ _ _) = v_iv (w_fd _ _ _); rw [s1.2, if_neg (fun e => absurd e.2 (by decide))]
  have fe_0_8_1 : w_fi ws (n_v vs 0) 8 = w_fi w1 (n_v vs 0) 8 := by show v_iv (w_fd _ _ _) = v_iv (w_fd _ _ _); rw [s1.2, if_neg (fun e => absurd e.2 (by decide))]
  have hE_0_3_1 : ∀ j : Int, w_ei ws (w_ar ws (n_v vs 0) 3) j = w_ei w1 (w_ar ws (n_v vs 0) 3) j := fun j => s1.1 _ _
  have kz_0_5 := fdq_28 hD hth r0
  have kz_0_6 := fdq_313 hD hth r0
  have kz_0_7 := fdq_29 hD hth r0
  have kz_0_8 := fdq_314 hD hth r0
  have nf0 : fc_1 PRD (20, [0], [50, 2, 0, 6, 8, 3, 7, 7, 3, 2, 0, 6, 0, 3, 0, 3, 2, 0, 8, 0, 9999]) ws (vs) := ⟨nf_in hl rfl, sgq_1840 (vc_Sy_advance_31_0 (v_iv (n_v vs 13)) (w_fi ws (n_v vs 0) 6) (w_fi ws (n_v vs 0) 7) (w_fi ws (n_v vs 0) 8) (w_fi ws (n_v vs 0) 5) (w_ei w1 (w_ar ws (n_v vs 0) 3)) (w_fi w1 (n_v vs 0) 8) (w_fi w1 (n_v vs 0) 7) (w_fi w1 (n_v vs 0) 5) (w_ei ws (w_ar ws (n_v vs 0) 3)) k13 g0 fe_0_5_1 fe_0_7_1 fe_0_8_1 hE_0_3_1 kz_0_5 kz_0_6 kz_0_7 kz_0_8)⟩
  refine ⟨(fun _ h => (by cases h)), [], trivial, ?_, (fun _ h => (by cases h))⟩
  rw [List.append_nil]
  exact List.forall_mem_cons.mpr ⟨⟨show (20 : Nat) < 100 from by decide, nf0⟩, (fun _ h => (by cases h))⟩
set_option maxHeartbeats 4000000 in
theorem vc_Sy_advance_32_0 (x4 : Int) (x5 : Int) (x10 : Int) (x11 : Int) (kind_0 : Int) (begin_0 : Int) (number_0 : Int) (next_0 : Int) (bytes_1 : Int → Int) (number_1 : Int) (begin_1 : Int) (next_1 : Int) (bytes_0 : Int → Int) (k4 : 0 ≤ x4 ∧ x4 ≤ 1000000) (k5 : 0 ≤ x5 ∧ x5 ≤ 1999) (k10 : 0 ≤ x10 ∧ x10 ≤ 2000) (k11 : (-2000) ≤ x11 ∧ x11 ≤ 4) (g1 : x10 = begin_0) (g3 : x4 = number_0) (g4 : x5 = next_0) (f7 : (0 ≤ number_0) ∧ ((begin_0 ≤ next_0) ∧ ((((next_0 - begin_0) ≤ 0) → (number_0 ≤ 0)) ∧ ((((next_0 - begin_0) ≤ 1) → (number_0 ≤ 9)) ∧ ((((next_0 - begin_0) ≤ 2) → (number_0 ≤ 99)) ∧ ((((next_0 - begin_0) ≤ 3) → (number_0 ≤ 999)) ∧ (((next_0 - begin_0) ≤ 4) → (number_0 ≤ 9999)))))))) (f11 : x11 = x5 - x10) (f16 : (0 ≤ number_1) ∧ ((begin_1 ≤ next_1) ∧ ((((next_1 - begin_1) ≤ 0) → (number_1 ≤ 0)) ∧ ((((next_1 - begin_1) ≤ 1) → (number_1 ≤ 9)) ∧ ((((next_1 - begin_1) ≤ 2) → (number_1 ≤ 99)) ∧ ((((next_1 - begin_1) ≤ 3) → (number_1 ≤ 999)) ∧ (((next_1 - begin_1) ≤ 4) → (number_1 ≤ 9999)))))))) (fe_0_5_1 : next_0 = next_1) (fe_0_7_1 : begin_0 = begin_1) (fe_0_8_1 : number_0 = number_1) (hE_0_3_1 : ∀ j : Int, bytes_0 j = bytes_1 j) (kz_0_5 : 0 ≤ next_0 ∧ next_0 ≤ 2000) (kz_0_6 : 0 ≤ kind_0 ∧ kind_0 ≤ 127) (kz_0_7 : 0 ≤ begin_0 ∧ begin_0 ≤ 2000) (kz_0_8 : 0 ≤ number_0 ∧ number_0 ≤ 1000000) : (kind_0 ≠ 3) ∨ (number_0 ≤ 9999) := by
  subst fe_0_5_1
  subst fe_0_7_1
  subst fe_0_8_1
  have e_hE_0_3_1 := funext hE_0_3_1; subst e_hE_0_3_1
  first
    | omega
  
def o_Sy_advance_32 : or_T := (297, 14, [(0, (2, 0, 0, [11])), (2, (2, 0, 0, [11])), (4, (0, 0, 1000000, [])), (5, (0, 0, 1999, [])), (6, (2, 0, 0, [109])), (7, (0, 1, 2000, [])), (8, (0, -128, 47, [])), (9, (0, 0, 0, [])), (10, (0, 0, 2000, [])), (11, (0, -2000, 4, [])), (12, (0, 4, 4, [])), (13, (0, 3, 3, []))], [(9, [13, 2], [6]), (9, [10, 2], [7]), (9, [7, 2], [4]), (9, [4, 2], [8]), (9, [5, 2], [5]), (9, [6, 2], [3]), (20, [8, 9], [61, 0, 1098]), (20, [2], [50, 3, 0, 8, 7, 5, 2, 7, 0, 2, 0, 0, 2, 0, 8, 2, 8, 0, 3, 2, 0, 7, 2, 0, 5, 2, 21, 4, 12, 0, 8, 5, 3, 2, 0, 5, 2, 0, 7, 0, 0, 0, 3, 2, 0, 8, 0, 0, 2, 21, 4, 12, 0, 8, 5, 3, 2, 0, 5, 2, 0, 7, 0, 1, 0, 3, 2, 0, 8, 0, 9, 2, 21, 4, 12, 0, 8, 5, 3, 2, 0, 5, 2, 0, 7, 0, 2, 0, 3, 2, 0, 8, 0, 99, 2, 21, 4, 12, 0, 8, 5, 3, 2, 0, 5, 2, 0, 7, 0, 3, 0, 3, 2, 0, 8, 0, 999, 4, 12, 0, 8, 5, 3, 2, 0, 5, 2, 0, 7, 0, 4, 0, 3, 2, 0, 8, 0, 9999]), (24, [0, 2], []), (101, [2, 13], [6]), (7, [11, 12], [5]), (2, [11, 5, 10], []), (8, [9], [0]), (20, [8, 9], [61, 0, 1098]), (10, [8, 6, 5], []), (7, [5, 7], [2]), (20, [2], [50, 3, 0, 8, 7, 5, 2, 7, 0, 2, 0, 0, 2, 0, 8, 2, 8, 0, 3, 2, 0, 7, 2, 0, 5, 2, 21, 4, 12, 0, 8, 5, 3, 2, 0, 5, 2, 0, 7, 0, 0, 0, 3, 2, 0, 8, 0, 0, 2, 21, 4, 12, 0, 8, 5, 3, 2, 0, 5, 2, 0, 7, 0, 1, 0, 3, 2, 0, 8, 0, 9, 2, 21, 4, 12, 0, 8, 5, 3, 2, 0, 5, 2, 0, 7, 0, 2, 0, 3, 2, 0, 8, 0, 99, 2, 21, 4, 12, 0, 8, 5, 3, 2, 0, 5, 2, 0, 7, 0, 3, 0, 3, 2, 0, 8, 0, 999, 4, 12, 0, 8, 5, 3, 2, 0, 5, 2, 0, 7, 0, 4, 0, 3, 2, 0, 8, 0, 9999])], [], [], [(20, [0], [50, 2, 0, 6, 8, 3, 7, 7, 3, 2, 0, 6, 0, 3, 0, 3, 2, 0, 8, 0, 9999])], [], [(11, 5, -2000, 0), (11, 7, -4294967296, -1), (5, 7, -4294967296, -1)])
theorem oo_Sy_advance_32 {kA : Nat → ClassId} : or_ok PRD kA GG o_Sy_advance_32 := by
  refine or_mk fun A ta ws vs hD hth hl => ?_
  intro t0 r0 t2 r2 t4 k4 t5 k5 t6 r6 t7 k7 t8 k8 t9 k9 t10 k10 t11 k11 t12 k12 t13 k13 d0 d1 d2 f0 f1 f2 f3 f4 f5 f6 f7 f8 ta1 w1 le1 s1 f10 f11 f12 f13 f14 f15 f16
  replace f1 := shm_198 f1
  replace f3 := shm_293 f3
  replace f4 := shm_110 f4
  replace f7 := shm_1841 f7
  replace f8 := shm_5 f8
  have s1 : (∀ b j, w_el ws b j = w_el w1 b j) ∧ ∀ b j, w_fd ws b j = if b = v_ad (n_v vs 2) ∧ j = 6 then n_v vs 13 else w_fd w1 b j := s1.2
  replace f16 := shm_1841 f16
  have q2 : n_v vs 2 = n_v vs 0 := f8.symm
  simp only [q2] at f1 f3 f4 f7
  rw [q2] at s1
  simp only [q2] at f16
  have g1 : v_iv (n_v vs 10) = w_fi ws (n_v vs 0) 7 := congrArg v_iv f1
  have g3 : v_iv (n_v vs 4) = w_fi ws (n_v vs 0) 8 := congrArg v_iv f3
  have g4 : v_iv (n_v vs 5) = w_fi ws (n_v vs 0) 5 := congrArg v_iv f4
  have fe_0_5_1 : w_fi ws (n_v vs 0) 5 = w_fi w1 (n_v vs 0) 5 := by show v_iv (w_fd _ _ _) = v_iv (w_fd _ _ _); rw [s1.2, if_neg (fun e => absurd e.2 (by decide))]
  have fe_0_7_1 : w_fi ws (n_v vs 0) 7 = w_fi w1 (n_v vs 0) 7 := by show v_iv (w_fd _ _ _) = v_iv (w_fd _ _ _); rw [s1.2, if_neg (fun e => absurd e.2 (by decide))]
  have fe_0_8_1 : w_fi ws (n_v vs 0) 8 = w_fi w1 (n_v vs 0) 8 := by show v_iv (w_fd _ _ _) = v_iv (w_fd _ _ _); rw [s1.2, if_neg (fun e => absurd e.2 (by decide))]
  have hE_0_3_1 : ∀ j : Int, w_ei ws (w_ar ws (n_v vs 0) 3) j = w_ei w1 (w_ar ws (n_v vs 0) 3) j := fun j => s1.1 _ _
  have kz_0_5 := fdq_28 hD hth r0
  have kz_0_6 := fdq_313 hD hth r0
  have kz_0_7 := fdq_29 hD hth r0
  have kz_0_8 := fdq_314 hD hth r0
  have nf0 : fc_1 PRD (20, [0], [50, 2, 0, 6, 8, 3, 7, 7, 3, 2, 0, 6, 0, 3, 0, 3, 2, 0, 8, 0, 9999]) ws (vs) := ⟨nf_in hl rfl, sgq_1840 (vc_Sy_advance_32_0 (v_iv (n_v vs 4)) (v_iv (n_v vs 5)) (v_iv (n_v vs 10)) (v_iv (n_v vs 11)) (w_fi ws (n_v vs 0) 6) (w_fi ws (n_v vs 0) 7) (w_fi ws (n_v vs 0) 8) (w_fi ws (n_v vs 0) 5) (w_ei w1 (w_ar ws (n_v vs 0) 3)) (w_fi w1 (n_v vs 0) 8) (w_fi w1 (n_v vs 0) 7) (w_fi w1 (n_v vs 0) 5) (w_ei ws (w_ar ws (n_v vs 0) 3)) k4 k5 k10 k11 g1 g3 g4 f7 (shm_14 f11) f16 fe_0_5_1 fe_0_7_1 fe_0_8_1 hE_0_3_1 kz_0_5 kz_0_6 kz_0_7 kz_0_8)⟩
  refine ⟨(fun _ h => (by cases h)), [], trivial, ?_, (fun _ h => (by cases h))⟩
  rw [List.append_nil]
  exact List.forall_mem_cons.mpr ⟨⟨show (20 : Nat) < 100 from by decide, nf0⟩, (fun _ h => (by cases h))⟩
set_option maxHeartbeats 4000000 in
theorem vc_Sy_advance_33_0 (x13 : Int) (kind_0 : Int) (begin_0 : Int) (number_0 : Int) (next_0 : Int) (bytes_1 : Int → Int) (number_1 : Int) (begin_1 : Int) (next_1 : Int) (bytes_0 : Int → Int) (k13 : 1 ≤ x13 ∧ x13 ≤ 1) (g0 : x13 = kind_0) (fe_0_5_1 : next_0 = next_1) (fe_0_7_1 : begin_0 = begin_1) (fe_0_8_1 : number_0 = number_1) (hE_0_3_1 : ∀ j : Int, bytes_0 j = bytes_1 j) (kz_0_5 : 0 ≤ next_0 ∧ next_0 ≤ 2000) (kz_0_6 : 0 ≤ kind_0 ∧ kind_0 ≤ 127) (kz_0_7 : 0 ≤ begin_0 ∧ begin_0 ≤ 2000) (kz_0_8 : 0 ≤ number_0 ∧ number_0 ≤ 1000000) : (kind_0 ≠ 3) ∨ (number_0 ≤ 9999) := by
  subst fe_0_5_1
  subst fe_0_7_1
  subst fe_0_8_1
  have e_hE_0_3_1 := funext hE_0_3_1; subst e_hE_0_3_1
  first
    | omega
  
def o_Sy_advance_33 : or_T := (297, 14, [(0, (2, 0, 0, [11])), (2, (2, 0, 0, [11])), (4, (0, 0, 1000000, [])), (5, (0, 5, 1999, [])), (6, (2, 0, 0, [109])), (7, (0, 6, 2000, [])), (8, (0, 58, 127, [])), (9, (0, 0, 0, [])), (10, (0, 0, 2000, [])), (11, (0, 5, 1999, [])), (12, (0, 4, 4, [])), (13, (0, 1, 1, []))], [(9, [13, 2], [6]), (9, [10, 2], [7]), (9, [7, 2], [4]), (9, [4, 2], [8]), (9, [5, 2], [5]), (9, [6, 2], [3]), (20, [8, 9], [61, 0, 1098]), (20, [2], [50, 3, 0, 8, 7, 5, 2, 7, 0, 2, 0, 0, 2, 0, 8, 2, 8, 0, 3, 2, 0, 7, 2, 0, 5, 2, 21, 4, 12, 0, 8, 5, 3, 2, 0, 5, 2, 0, 7, 0, 0, 0, 3, 2, 0, 8, 0, 0, 2, 21, 4, 12, 0, 8, 5, 3, 2, 0, 5, 2, 0, 7, 0, 1, 0, 3, 2, 0, 8, 0, 9, 2, 21, 4, 12, 0, 8, 5, 3, 2, 0, 5, 2, 0, 7, 0, 2, 0, 3, 2, 0, 8, 0, 99, 2, 21, 4, 12, 0, 8, 5, 3, 2, 0, 5, 2, 0, 7, 0, 3, 0, 3, 2, 0, 8, 0, 999, 4, 12, 0, 8, 5, 3, 2, 0, 5, 2, 0, 7, 0, 4, 0, 3, 2, 0, 8, 0, 9999]), (24, [0, 2], []), (101, [2, 13], [6]), (7, [11, 12], [4]), (2, [11, 5, 10], []), (8, [9], [0]), (20, [8, 9], [61, 0, 1098]), (10, [8, 6, 5], []), (7, [5, 7], [2]), (20, [2], [50, 3, 0, 8, 7, 5, 2, 7, 0, 2, 0, 0, 2, 0, 8, 2, 8, 0, 3, 2, 0, 7, 2, 0, 5, 2, 21, 4, 12, 0, 8, 5, 3, 2, 0, 5, 2, 0, 7, 0, 0, 0, 3, 2, 0, 8, 0, 0, 2, 21, 4, 12, 0, 8, 5, 3, 2, 0, 5, 2, 0, 7, 0, 1, 0, 3, 2, 0, 8, 0, 9, 2, 21, 4, 12, 0, 8, 5, 3, 2, 0, 5, 2, 0, 7, 0, 2, 0, 3, 2, 0, 8, 0, 99, 2, 21, 4, 12, 0, 8, 5, 3, 2, 0, 5, 2, 0, 7, 0, 3, 0, 3, 2, 0, 8, 0, 999, 4, 12, 0, 8, 5, 3, 2, 0, 5, 2, 0, 7, 0, 4, 0, 3, 2, 0, 8, 0, 9999])], [], [], [(20, [0], [50, 2, 0, 6, 8, 3, 7, 7, 3, 2, 0, 6, 0, 3, 0, 3, 2, 0, 8, 0, 9999])], [], [(11, 5, -2000, 0), (11, 7, -4294967296, -1), (5, 7, -4294967296, -1)])
theorem oo_Sy_advance_33 {kA : Nat → ClassId} : or_ok PRD kA GG o_Sy_advance_33 := by
  refine or_mk fun A ta ws vs hD hth hl => ?_
  intro t0 r0 t2 r2 t4 k4 t5 k5 t6 r6 t7 k7 t8 k8 t9 k9 t10 k10 t11 k11 t12 k12 t13 k13 d0 d1 d2 f0 f1 f2 f3 f4 f5 f6 f7 f8 ta1 w1 le1 s1 f10 f11 f12 f13 f14 f15 f16
  replace f0 := shm_111 f0
  replace f8 := shm_5 f8
  have s1 : (∀ b j, w_el ws b j = w_el w1 b j) ∧ ∀ b j, w_fd ws b j = if b = v_ad (n_v vs 2) ∧ j = 6 then n_v vs 13 else w_fd w1 b j := s1.2
  have q2 : n_v vs 2 = n_v vs 0 := f8.symm
  simp only [q2] at f0
  rw [q2] at s1
  have g0 : v_iv (n_v vs 13) = w_fi ws (n_v vs 0) 6 := congrArg v_iv f0
  have fe_0_5_1 : w_fi ws (n_v vs 0) 5 = w_fi w1 (n_v vs 0) 5 := by show v_iv (w_fd _ _ _) = v_iv (w_fd _ _ _); rw [s1.2, if_neg (fun e => absurd e.2 (by decide))]
  have fe_0_7_1 : w_fi ws (n_v vs 0) 7 = w_fi w1 (n_v vs 0) 7 := by show v_iv (w_fd _ _ _) = v_iv (w_fd _ _ _); rw [s1.2, if_neg (fun e => absurd e.2 (by decide))]
  have fe_0_8_1 : w_fi ws (n_v vs 0) 8 = w_fi w1 (n_v vs 0) 8 := by show v_iv (w_fd _ _ _) = v_iv (w_fd _ _ _); rw [s1.2, if_neg (fun e => absurd e.2 (by decide))]
  have hE_0_3_1 : ∀ j : Int, w_ei ws (w_ar ws (n_v vs 0) 3) j = w_ei w1 (w_ar ws (n_v vs 0) 3) j := fun j => s1.1 _ _
  have kz_0_5 := fdq_28 hD hth r0
  have kz_0_6 := fdq_313 hD hth r0
  have kz_0_7 := fdq_29 hD hth r0
  have kz_0_8 := fdq_314 hD hth r0
  have nf0 : fc_1 PRD (20, [0], [50, 2, 0, 6, 8, 3, 7, 7, 3, 2, 0, 6, 0, 3, 0, 3, 2, 0, 8, 0, 9999]) ws (vs) := ⟨nf_in hl rfl, sgq_1840 (vc_Sy_advance_33_0 (v_iv (n_v vs 13)) (w_fi ws (n_v vs 0) 6) (w_fi ws (n_v vs 0) 7) (w_fi ws (n_v vs 0) 8) (w_fi ws (n_v vs 0) 5) (w_ei w1 (w_ar ws (n_v vs 0) 3)) (w_fi w1 (n_v vs 0) 8) (w_fi w1 (n_v vs 0) 7) (w_fi w1 (n_v vs 0) 5) (w_ei ws (w_ar ws (n_v vs 0) 3)) k13 g0 fe_0_5_1 fe_0_7_1 fe_0_8_1 hE_0_3_1 kz_0_5 kz_0_6 kz_0_7 kz_0_8)⟩
  refine ⟨(fun _ h => (by cases h)), [], trivial, ?_, (fun _ h => (by cases h))⟩
  rw [List.append_nil]
  exact List.forall_mem_cons.mpr ⟨⟨show (20 : Nat) < 100 from by decide, nf0⟩, (fun _ h => (by cases h))⟩
set_option maxHeartbeats 4000000 in
theorem vc_Sy_advance_34_0 (x4 : Int) (x5 : Int) (x10 : Int) (x11 : Int) (kind_0 : Int) (begin_0 : Int) (number_0 : Int) (next_0 : Int) (bytes_1 : Int → Int) (number_1 : Int) (begin_1 : Int) (next_1 : Int) (bytes_0 : Int → Int) (k4 : 0 ≤ x4 ∧ x4 ≤ 1000000) (k5 : 0 ≤ x5 ∧ x5 ≤ 1999) (k10 : 0 ≤ x10 ∧ x10 ≤ 2000) (k11 : (-2000) ≤ x11 ∧ x11 ≤ 4) (g1 : x10 = begin_0) (g3 : x4 = number_0) (g4 : x5 = next_0) (f7 : (0 ≤ number_0) ∧ ((begin_0 ≤ next_0) ∧ ((((next_0 - begin_0) ≤ 0) → (number_0 ≤ 0)) ∧ ((((next_0 - begin_0) ≤ 1) → (number_0 ≤ 9)) ∧ ((((next_0 - begin_0) ≤ 2) → (number_0 ≤ 99)) ∧ ((((next_0 - begin_0) ≤ 3) → (number_0 ≤ 999)) ∧ (((next_0 - begin_0) ≤ 4) → (number_0 ≤ 9999)))))))) (f11 : x11 = x5 - x10) (f16 : (0 ≤ number_1) ∧ ((begin_1 ≤ next_1) ∧ ((((next_1 - begin_1) ≤ 0) → (number_1 ≤ 0)) ∧ ((((next_1 - begin_1) ≤ 1) → (number_1 ≤ 9)) ∧ ((((next_1 - begin_1) ≤ 2) → (number_1 ≤ 99)) ∧ ((((next_1 - begin_1) ≤ 3) → (number_1 ≤ 999)) ∧ (((next_1 - begin_1) ≤ 4) → (number_1 ≤ 9999)))))))) (fe_0_5_1 : next_0 = next_1) (fe_0_7_1 : begin_0 = begin_1) (fe_0_8_1 : number_0 = number_1) (hE_0_3_1 : ∀ j : Int, bytes_0 j = bytes_1 j) (kz_0_5 : 0 ≤ next_0 ∧ next_0 ≤ 2000) (kz_0_6 : 0 ≤ kind_0 ∧ kind_0 ≤ 127) (kz_0_7 : 0 ≤ begin_0 ∧ begin_0 ≤ 2000) (kz_0_8 : 0 ≤ number_0 ∧ number_0 ≤ 1000000) : (kind_0 ≠ 3) ∨ (number_0 ≤ 9999) := by
  subst fe_0_5_1
  subst fe_0_7_1
  subst fe_0_8_1
  have e_hE_0_3_1 := funext hE_0_3_1; subst e_hE_0_3_1
  first
    | omega
  
def o_Sy_advance_34 : or_T := (297, 14, [(0, (2, 0, 0, [11])), (2, (2, 0, 0, [11])), (4, (0, 0, 1000000, [])), (5, (0, 0, 1999, [])), (6, (2, 0, 0, [109])), (7, (0, 1, 2000, [])), (8, (0, 58, 127, [])), (9, (0, 0, 0, [])), (10, (0, 0, 2000, [])), (11, (0, -2000, 4, [])), (12, (0, 4, 4, [])), (13, (0, 3, 3, []))], [(9, [13, 2], [6]), (9, [10, 2], [7]), (9, [7, 2], [4]), (9, [4, 2], [8]), (9, [5, 2], [5]), (9, [6, 2], [3]), (20, [8, 9], [61, 0, 1098]), (20, [2], [50, 3, 0, 8, 7, 5, 2, 7, 0, 2, 0, 0, 2, 0, 8, 2, 8, 0, 3, 2, 0, 7, 2, 0, 5, 2, 21, 4, 12, 0, 8, 5, 3, 2, 0, 5, 2, 0, 7, 0, 0, 0, 3, 2, 0, 8, 0, 0, 2, 21, 4, 12, 0, 8, 5, 3, 2, 0, 5, 2, 0, 7, 0, 1, 0, 3, 2, 0, 8, 0, 9, 2, 21, 4, 12, 0, 8, 5, 3, 2, 0, 5, 2, 0, 7, 0, 2, 0, 3, 2, 0, 8, 0, 99, 2, 21, 4, 12, 0, 8, 5, 3, 2, 0, 5, 2, 0, 7, 0, 3, 0, 3, 2, 0, 8, 0, 999, 4, 12, 0, 8, 5, 3, 2, 0, 5, 2, 0, 7, 0, 4, 0, 3, 2, 0, 8, 0, 9999]), (24, [0, 2], []), (101, [2, 13], [6]), (7, [11, 12], [5]), (2, [11, 5, 10], []), (8, [9], [0]), (20, [8, 9], [61, 0, 1098]), (10, [8, 6, 5], []), (7, [5, 7], [2]), (20, [2], [50, 3, 0, 8, 7, 5, 2, 7, 0, 2, 0, 0, 2, 0, 8, 2, 8, 0, 3, 2, 0, 7, 2, 0, 5, 2, 21, 4, 12, 0, 8, 5, 3, 2, 0, 5, 2, 0, 7, 0, 0, 0, 3, 2, 0, 8, 0, 0, 2, 21, 4, 12, 0, 8, 5, 3, 2, 0, 5, 2, 0, 7, 0, 1, 0, 3, 2, 0, 8, 0, 9, 2, 21, 4, 12, 0, 8, 5, 3, 2, 0, 5, 2, 0, 7, 0, 2, 0, 3, 2, 0, 8, 0, 99, 2, 21, 4, 12, 0, 8, 5, 3, 2, 0, 5, 2, 0, 7, 0, 3, 0, 3, 2, 0, 8, 0, 999, 4, 12, 0, 8, 5, 3, 2, 0, 5, 2, 0, 7, 0, 4, 0, 3, 2, 0, 8, 0, 9999])], [], [], [(20, [0], [50, 2, 0, 6, 8, 3, 7, 7, 3, 2, 0, 6, 0, 3, 0, 3, 2, 0, 8, 0, 9999])], [], [(11, 5, -2000, 0), (11, 7, -4294967296, -1), (5, 7, -4294967296, -1)])
theorem oo_Sy_advance_34 {kA : Nat → ClassId} : or_ok PRD kA GG o_Sy_advance_34 := by
  refine or_mk fun A ta ws vs hD hth hl => ?_
  intro t0 r0 t2 r2 t4 k4 t5 k5 t6 r6 t7 k7 t8 k8 t9 k9 t10 k10 t11 k11 t12 k12 t13 k13 d0 d1 d2 f0 f1 f2 f3 f4 f5 f6 f7 f8 ta1 w1 le1 s1 f10 f11 f12 f13 f14 f15 f16
  replace f1 := shm_198 f1
  replace f3 := shm_293 f3
  replace f4 := shm_110 f4
  replace f7 := shm_1841 f7
  replace f8 := shm_5 f8
  have s1 : (∀ b j, w_el ws b j = w_el w1 b j) ∧ ∀ b j, w_fd ws b j = if b = v_ad (n_v vs 2) ∧ j = 6 then n_v vs 13 else w_fd w1 b j := s1.2
  replace f16 := shm_1841 f16
  have q2 : n_v vs 2 = n_v vs 0 := f8.symm
  simp only [q2] at f1 f3 f4 f7
  rw [q2] at s1
  simp only [q2] at f16
  have g1 : v_iv (n_v vs 10) = w_fi ws (n_v vs 0) 7 := congrArg v_iv f1
  have g3 : v_iv (n_v vs 4) = w_fi ws (n_v vs 0) 8 := congrArg v_iv f3
  have g4 : v_iv (n_v vs 5) = w_fi ws (n_v vs 0) 5 := congrArg v_iv f4
  have fe_0_5_1 : w_fi ws (n_v vs 0) 5 = w_fi w1 (n_v vs 0) 5 := by show v_iv (w_fd _ _ _) = v_iv (w_fd _ _ _); rw [s1.2, if_neg (fun e => absurd e.2 (by decide))]
  have fe_0_7_1 : w_fi ws (n_v vs 0) 7 = w_fi w1 (n_v vs 0) 7 := by show v_iv (w_fd _ _ _) = v_iv (w_fd _ _ _); rw [s1.2, if_neg (fun e => absurd e.2 (by decide))]
  have fe_0_8_1 : w_fi ws (n_v vs 0) 8 = w_fi w1 (n_v vs 0) 8 := by show v_iv (w_fd _ _ _) = v_iv (w_fd _ _ _); rw [s1.2, if_neg (fun e => absurd e.2 (by decide))]
  have hE_0_3_1 : ∀ j : Int, w_ei ws (w_ar ws (n_v vs 0) 3) j = w_ei w1 (w_ar ws (n_v vs 0) 3) j := fun j => s1.1 _ _
  have kz_0_5 := fdq_28 hD hth r0
  have kz_0_6 := fdq_313 hD hth r0
  have kz_0_7 := fdq_29 hD hth r0
  have kz_0_8 := fdq_314 hD hth r0
  have nf0 : fc_1 PRD (20, [0], [50, 2, 0, 6, 8, 3, 7, 7, 3, 2, 0, 6, 0, 3, 0, 3, 2, 0, 8, 0, 9999]) ws (vs) := ⟨nf_in hl rfl, sgq_1840 (vc_Sy_advance_34_0 (v_iv (n_v vs 4)) (v_iv (n_v vs 5)) (v_iv (n_v vs 10)) (v_iv (n_v vs 11)) (w_fi ws (n_v vs 0) 6) (w_fi ws (n_v vs 0) 7) (w_fi ws (n_v vs 0) 8) (w_fi ws (n_v vs 0) 5) (w_ei w1 (w_ar ws (n_v vs 0) 3)) (w_fi w1 (n_v vs 0) 8) (w_fi w1 (n_v vs 0) 7) (w_fi w1 (n_v vs 0) 5) (w_ei ws (w_ar ws (n_v vs 0) 3)) k4 k5 k10 k11 g1 g3 g4 f7 (shm_14 f11) f16 fe_0_5_1 fe_0_7_1 fe_0_8_1 hE_0_3_1 kz_0_5 kz_0_6 kz_0_7 kz_0_8)⟩
  refine ⟨(fun _ h => (by cases h)), [], trivial, ?_, (fun _ h => (by cases h))⟩
  rw [List.append_nil]
  exact List.forall_mem_cons.mpr ⟨⟨show (20 : Nat) < 100 from by decide, nf0⟩, (fun _ h => (by cases h))⟩
set_option maxHeartbeats 4000000 in
theorem vc_Sy_advance_35_r0 (x4 : Int) (x5 : Int) (x8 : Int) (x11 : Int) (x12 : Int) (x13 : Int) (x15 : Int) (bytes_0 : Int → Int) (number_0 : Int) (k4 : 0 ≤ x4 ∧ x4 ≤ 1000000) (k5 : 0 ≤ x5 ∧ x5 ≤ 1999) (k8 : 48 ≤ x8 ∧ x8 ≤ 57) (k11 : 0 ≤ x11 ∧ x11 ≤ 10000000) (k12 : (-128) ≤ x12 ∧ x12 ≤ 127) (k13 : (-128) ≤ x13 ∧ x13 ≤ 10000127) (k15 : (-176) ≤ x15 ∧ x15 ≤ 10000079) (d0 : x13 + (-48) ≤ x15 ∧ x15 ≤ x13 + (-48)) (f1 : x13 = x11 + x12) (h2 : x12 = bytes_0 (x5)) (f5 : x11 = x4 * 10) (g6 : x4 = number_0) (h9 : x8 = bytes_0 (x5)) (kz_0_8 : 0 ≤ number_0 ∧ number_0 ≤ 1000000) : 0 ≤ x15 ∧ x15 ≤ 10000009 := by
  first
    | omega
  
def o_Sy_advance_35 : or_T := (220, 17, [(0, (2, 0, 0, [11])), (2, (2, 0, 0, [11])), (4, (0, 0, 1000000, [])), (5, (0, 0, 1999, [])), (6, (2, 0, 0, [109])), (7, (0, 1, 2000, [])), (8, (0, 48, 57, [])), (9, (0, 1, 1, [])), (10, (0, 10, 10, [])), (11, (0, 0, 10000000, [])), (12, (0, -128, 127, [])), (13, (0, -128, 10000127, [])), (14, (0, 48, 48, [])), (15, (0, -176, 10000079, []))], [(2, [15, 13, 14], []), (1, [13, 11, 12], []), (10, [12, 6, 5], []), (9, [5, 2], [5]), (9, [6, 2], [3]), (3, [11, 4, 10], []), (9, [4, 2], [8]), (8, [9], [1]), (20, [8, 9], [61, 0, 1098]), (10, [8, 6, 5], []), (7, [5, 7], [2]), (9, [7, 2], [4]), (20, [2], [50, 3, 0, 8, 7, 5, 2, 7, 0, 2, 0, 0, 2, 0, 8, 2, 8, 0, 3, 2, 0, 7, 2, 0, 5, 2, 21, 4, 12, 0, 8, 5, 3, 2, 0, 5, 2, 0, 7, 0, 0, 0, 3, 2, 0, 8, 0, 0, 2, 21, 4, 12, 0, 8, 5, 3, 2, 0, 5, 2, 0, 7, 0, 1, 0, 3, 2, 0, 8, 0, 9, 2, 21, 4, 12, 0, 8, 5, 3, 2, 0, 5, 2, 0, 7, 0, 2, 0, 3, 2, 0, 8, 0, 99, 2, 21, 4, 12, 0, 8, 5, 3, 2, 0, 5, 2, 0, 7, 0, 3, 0, 3, 2, 0, 8, 0, 999, 4, 12, 0, 8, 5, 3, 2, 0, 5, 2, 0, 7, 0, 4, 0, 3, 2, 0, 8, 0, 9999]), (24, [0, 2], [])], [(15, (0, 0, 10000009, []))], [], [], [], [(15, 13, -48, -48), (15, 12, -48, 9999952), (15, 11, -176, 79), (13, 12, 0, 10000000), (13, 11, -128, 127), (5, 7, -4294967296, -1)])
theorem oo_Sy_advance_35 {kA : Nat → ClassId} : or_ok PRD kA GG o_Sy_advance_35 := by
  refine or_mk fun A ta ws vs hD hth hl => ?_
  intro t0 r0 t2 r2 t4 k4 t5 k5 t6 r6 t7 k7 t8 k8 t9 k9 t10 k10 t11 k11 t12 k12 t13 k13 t14 k14 t15 k15 d0 d1 d2 d3 d4 d5 f0 f1 f2 f3 f4 f5 f6 f7 f8 f9 f10 f11 f12 f13
  replace f2 := shm_107 f2
  replace f4 := shm_137 f4
  replace f5 := shm_38 f5
  rw [show v_iv (n_v vs 10) = 10 from by omega] at f5
  replace f6 := shm_293 f6
  replace f9 := shm_107 f9
  replace f13 := shm_5 f13
  have q2 : n_v vs 2 = n_v vs 0 := f13.symm
  simp only [q2] at f4 f6
  have ad_6 : v_ad (n_v vs 6) = w_ar ws (n_v vs 0) 3 := congrArg v_ad f4
  simp only [ad_6] at f2
  have h2 : v_iv (n_v vs 12) = w_ei ws (w_ar ws (n_v vs 0) 3) (v_iv (n_v vs 5)) := f2
  have g6 : v_iv (n_v vs 4) = w_fi ws (n_v vs 0) 8 := congrArg v_iv f6
  simp only [ad_6] at f9
  have h9 : v_iv (n_v vs 8) = w_ei ws (w_ar ws (n_v vs 0) 3) (v_iv (n_v vs 5)) := f9
  have kz_0_8 := fdq_314 hD hth r0
  have hrf0 : 0 ≤ v_iv (n_v vs 15) ∧ v_iv (n_v vs 15) ≤ 10000009 := vc_Sy_advance_35_r0 (v_iv (n_v vs 4)) (v_iv (n_v vs 5)) (v_iv (n_v vs 8)) (v_iv (n_v vs 11)) (v_iv (n_v vs 12)) (v_iv (n_v vs 13)) (v_iv (n_v vs 15)) (w_ei ws (w_ar ws (n_v vs 0) 3)) (w_fi ws (n_v vs 0) 8) k4 k5 k8 k11 k12 k13 k15 d0 (shm_12 f1) h2 f5 g6 h9 kz_0_8
  have rf15 : tv_ok ta (0, 0, 10000009, []) (n_v vs 15) := tv_in t15 (by first | omega | grind) (by first | omega | grind)
  refine ⟨List.forall_mem_cons.mpr ⟨rf15, (fun _ h => (by cases h))⟩, [], trivial, ?_, (fun _ h => (by cases h))⟩
  rw [List.append_nil]
  exact (fun _ h => (by cases h))
set_option maxHeartbeats 4000000 in
theorem vc_Sy_advance_36_0 (x4 : Int) (x5 : Int) (x8 : Int) (x11 : Int) (x12 : Int) (x13 : Int) (x15 : Int) (x17 : Int) (x19 : Int) (next_0 : Int) (number_0 : Int) (end_0 : Int) (next_1 : Int) (bytes_2 : Int → Int) (number_2 : Int) (begin_2 : Int) (next_2 : Int) (end_1 : Int) (begin_0 : Int) (begin_1 : Int) (number_1 : Int) (bytes_0 : Int → Int) (bytes_1 : Int → Int) (k4 : 0 ≤ x4 ∧ x4 ≤ 1000000) (k5 : 0 ≤ x5 ∧ x5 ≤ 1999) (k8 : 48 ≤ x8 ∧ x8 ≤ 57) (k11 : 0 ≤ x11 ∧ x11 ≤ 10000000) (k12 : (-128) ≤ x12 ∧ x12 ≤ 127) (k13 : (-128) ≤ x13 ∧ x13 ≤ 10000127) (k15 : 0 ≤ x15 ∧ x15 ≤ 10000009) (k17 : 0 ≤ x17 ∧ x17 ≤ 1000000) (k19 : 1 ≤ x19 ∧ x19 ≤ 2000) (d0 : x5 + 1 ≤ x19 ∧ x19 ≤ x5 + 1) (d2 : x13 + (-48) ≤ x15 ∧ x15 ≤ x13 + (-48)) (g0 : x19 = next_0) (g1 : x17 = number_0) (f4 : (-1) * x15 + (1 * x17 + 0) ≤ 0) (g10 : x5 = next_1) (f18 : x13 = x11 + x12) (h19 : x12 = bytes_2 (x5)) (f20 : x11 = x4 * 10) (g21 : x4 = number_2) (h24 : x8 = bytes_2 (x5)) (f26 : (0 ≤ number_2) ∧ ((begin_2 ≤ next_2) ∧ ((((next_2 - begin_2) ≤ 0) → (number_2 ≤ 0)) ∧ ((((next_2 - begin_2) ≤ 1) → (number_2 ≤ 9)) ∧ ((((next_2 - begin_2) ≤ 2) → (number_2 ≤ 99)) ∧ ((((next_2 - begin_2) ≤ 3) → (number_2 ≤ 999)) ∧ (((next_2 - begin_2) ≤ 4) → (number_2 ≤ 9999)))))))) (fe_0_4_1 : end_0 = end_1) (fe_0_7_1 : begin_0 = begin_1) (fe_0_8_1 : number_0 = number_1) (fe_0_5_2 : next_1 = next_2) (fe_0_7_2 : begin_1 = begin_2) (hE_0_3_1 : ∀ j : Int, bytes_0 j = bytes_1 j) (hE_0_3_2 : ∀ j : Int, bytes_1 j = bytes_2 j) (kz_0_4 : 0 ≤ end_0 ∧ end_0 ≤ 2000) (kz_0_5 : 0 ≤ next_0 ∧ next_0 ≤ 2000) (kz_0_7 : 0 ≤ begin_0 ∧ begin_0 ≤ 2000) (kz_0_8 : 0 ≤ number_0 ∧ number_0 ≤ 1000000) : (0 ≤ number_0) ∧ ((begin_0 ≤ next_0) ∧ ((((next_0 - begin_0) ≤ 0) → (number_0 ≤ 0)) ∧ ((((next_0 - begin_0) ≤ 1) → (number_0 ≤ 9)) ∧ ((((next_0 - begin_0) ≤ 2) → (number_0 ≤ 99)) ∧ ((((next_0 - begin_0) ≤ 3) → (number_0 ≤ 999)) ∧ (((next_0 - begin_0) ≤ 4) → (number_0 ≤ 9999))))))) := by
  subst fe_0_4_1
  subst fe_0_7_1
  subst fe_0_8_1
  subst fe_0_5_2
  subst fe_0_7_2
  have e_hE_0_3_1 := funext hE_0_3_1; subst e_hE_0_3_1
  have e_hE_0_3_2 := funext hE_0_3_2; subst e_hE_0_3_2
  first
    | omega
  
def o_Sy_advance_36 : or_T := (171, 20, [(0, (2, 0, 0, [11])), (4, (0, 0, 1000000, [])), (5, (0, 0, 1999, [])), (8, (0, 48, 57, [])), (10, (0, 10, 10, [])), (11, (0, 0, 10000000, [])), (12, (0, -128, 127, [])), (13, (0, -128, 10000127, [])), (15, (0, 0, 10000009, [])), (17, (0, 0, 1000000, [])), (19, (0, 1, 2000, []))], [(9, [19, 2], [5]), (9, [17, 2], [8]), (9, [6, 2], [3]), (23, [15, 17], [0, -1, 1]), (24, [0, 2], []), (101, [2, 19], [5]), (9, [5, 2], [5]), (101, [2, 17], [8]), (1, [13, 11, 12], []), (10, [12, 6, 5], []), (3, [11, 4, 10], []), (9, [4, 2], [8]), (10, [8, 6, 5], []), (20, [2], [50, 3, 0, 8, 7, 5, 2, 7, 0, 2, 0, 0, 2, 0, 8, 2, 8, 0, 3, 2, 0, 7, 2, 0, 5, 2, 21, 4, 12, 0, 8, 5, 3, 2, 0, 5, 2, 0, 7, 0, 0, 0, 3, 2, 0, 8, 0, 0, 2, 21, 4, 12, 0, 8, 5, 3, 2, 0, 5, 2, 0, 7, 0, 1, 0, 3, 2, 0, 8, 0, 9, 2, 21, 4, 12, 0, 8, 5, 3, 2, 0, 5, 2, 0, 7, 0, 2, 0, 3, 2, 0, 8, 0, 99, 2, 21, 4, 12, 0, 8, 5, 3, 2, 0, 5, 2, 0, 7, 0, 3, 0, 3, 2, 0, 8, 0, 999, 4, 12, 0, 8, 5, 3, 2, 0, 5, 2, 0, 7, 0, 4, 0, 3, 2, 0, 8, 0, 9999])], [], [], [(20, [2], [50, 3, 0, 8, 7, 5, 2, 7, 0, 2, 0, 0, 2, 0, 8, 2, 8, 0, 3, 2, 0, 7, 2, 0, 5, 2, 21, 4, 12, 0, 8, 5, 3, 2, 0, 5, 2, 0, 7, 0, 0, 0, 3, 2, 0, 8, 0, 0, 2, 21, 4, 12, 0, 8, 5, 3, 2, 0, 5, 2, 0, 7, 0, 1, 0, 3, 2, 0, 8, 0, 9, 2, 21, 4, 12, 0, 8, 5, 3, 2, 0, 5, 2, 0, 7, 0, 2, 0, 3, 2, 0, 8, 0, 99, 2, 21, 4, 12, 0, 8, 5, 3, 2, 0, 5, 2, 0, 7, 0, 3, 0, 3, 2, 0, 8, 0, 999, 4, 12, 0, 8, 5, 3, 2, 0, 5, 2, 0, 7, 0, 4, 0, 3, 2, 0, 8, 0, 9999])], [], [(19, 5, 1, 1), (15, 13, -48, -48)])
theorem oo_Sy_advance_36 {kA : Nat → ClassId} : or_ok PRD kA GG o_Sy_advance_36 := by
  refine or_mk fun A ta ws vs hD hth hl => ?_
  intro t0 r0 t4 k4 t5 k5 t8 k8 t10 k10 t11 k11 t12 k12 t13 k13 t15 k15 t17 k17 t19 k19 d0 d2 f0 f1 f3 f4 f7 ta1 w1 le1 s1 f10 ta2 w2 le2 s2 f18 f19 f20 f21 f24 f26
  replace f0 := shm_110 f0
  replace f1 := shm_293 f1
  replace f3 := shm_137 f3
  replace f4 := shm_22 f4
  replace f7 := shm_5 f7
  have s1 : (∀ b j, w_el ws b j = w_el w1 b j) ∧ ∀ b j, w_fd ws b j = if b = v_ad (n_v vs 2) ∧ j = 5 then n_v vs 19 else w_fd w1 b j := s1.2
  replace f10 := shm_110 f10
  have s2 : (∀ b j, w_el w1 b j = w_el w2 b j) ∧ ∀ b j, w_fd w1 b j = if b = v_ad (n_v vs 2) ∧ j = 8 then n_v vs 17 else w_fd w2 b j := s2.2
  replace f18 := shm_12 f18
  replace f19 := shm_107 f19
  replace f20 := shm_38 f20
  rw [show v_iv (n_v vs 10) = 10 from by omega] at f20
  replace f21 := shm_293 f21
  replace f24 := shm_107 f24
  replace f26 := shm_1841 f26
  have q2 : n_v vs 2 = n_v vs 0 := f7.symm
  simp only [q2] at f0 f1 f3
  rw [q2] at s1
  simp only [q2] at f10
  rw [q2] at s2
  simp only [q2] at f21 f26
  have ad_6 : v_ad (n_v vs 6) = w_ar ws (n_v vs 0) 3 := congrArg v_ad f3
  have g0 : v_iv (n_v vs 19) = w_fi ws (n_v vs 0) 5 := congrArg v_iv f0
  have g1 : v_iv (n_v vs 17) = w_fi ws (n_v vs 0) 8 := congrArg v_iv f1
  have g10 : v_iv (n_v vs 5) = w_fi w1 (n_v vs 0) 5 := congrArg v_iv f10
  simp only [ad_6] at f19
  have h19 : v_iv (n_v vs 12) = w_ei w2 (w_ar ws (n_v vs 0) 3) (v_iv (n_v vs 5)) := f19
  have g21 : v_iv (n_v vs 4) = w_fi w2 (n_v vs 0) 8 := congrArg v_iv f21
  simp only [ad_6] at f24
  have h24 : v_iv (n_v vs 8) = w_ei w2 (w_ar ws (n_v vs 0) 3) (v_iv (n_v vs 5)) := f24
  have fe_0_4_1 : w_fi ws (n_v vs 0) 4 = w_fi w1 (n_v vs 0) 4 := by show v_iv (w_fd _ _ _) = v_iv (w_fd _ _ _); rw [s1.2, if_neg (fun e => absurd e.2 (by decide))]
  have fe_0_7_1 : w_fi ws (n_v vs 0) 7 = w_fi w1 (n_v vs 0) 7 := by show v_iv (w_fd _ _ _) = v_iv (w_fd _ _ _); rw [s1.2, if_neg (fun e => absurd e.2 (by decide))]
  have fe_0_8_1 : w_fi ws (n_v vs 0) 8 = w_fi w1 (n_v vs 0) 8 := by show v_iv (w_fd _ _ _) = v_iv (w_fd _ _ _); rw [s1.2, if_neg (fun e => absurd e.2 (by decide))]
  have fe_0_5_2 : w_fi w1 (n_v vs 0) 5 = w_fi w2 (n_v vs 0) 5 := by show v_iv (w_fd _ _ _) = v_iv (w_fd _ _ _); rw [s2.2, if_neg (fun e => absurd e.2 (by decide))]
  have fe_0_7_2 : w_fi w1 (n_v vs 0) 7 = w_fi w2 (n_v vs 0) 7 := by show v_iv (w_fd _ _ _) = v_iv (w_fd _ _ _); rw [s2.2, if_neg (fun e => absurd e.2 (by decide))]
  have hE_0_3_1 : ∀ j : Int, w_ei ws (w_ar ws (n_v vs 0) 3) j = w_ei w1 (w_ar ws (n_v vs 0) 3) j := fun j => s1.1 _ _
  have hE_0_3_2 : ∀ j : Int, w_ei w1 (w_ar ws (n_v vs 0) 3) j = w_ei w2 (w_ar ws (n_v vs 0) 3) j := fun j => s2.1 _ _
  have kz_0_4 := fdq_312 hD hth r0
  have kz_0_5 := fdq_28 hD hth r0
  have kz_0_7 := fdq_29 hD hth r0
  have kz_0_8 := fdq_314 hD hth r0
  have nf0 : fc_1 PRD (20, [2], [50, 3, 0, 8, 7, 5, 2, 7, 0, 2, 0, 0, 2, 0, 8, 2, 8, 0, 3, 2, 0, 7, 2, 0, 5, 2, 21, 4, 12, 0, 8, 5, 3, 2, 0, 5, 2, 0, 7, 0, 0, 0, 3, 2, 0, 8, 0, 0, 2, 21, 4, 12, 0, 8, 5, 3, 2, 0, 5, 2, 0, 7, 0, 1, 0, 3, 2, 0, 8, 0, 9, 2, 21, 4, 12, 0, 8, 5, 3, 2, 0, 5, 2, 0, 7, 0, 2, 0, 3, 2, 0, 8, 0, 99, 2, 21, 4, 12, 0, 8, 5, 3, 2, 0, 5, 2, 0, 7, 0, 3, 0, 3, 2, 0, 8, 0, 999, 4, 12, 0, 8, 5, 3, 2, 0, 5, 2, 0, 7, 0, 4, 0, 3, 2, 0, 8, 0, 9999]) ws (vs) := by
    refine ⟨nf_in hl rfl, sgq_1841 ?_⟩
    · show (0 ≤ w_fi ws (n_v vs 2) 8) ∧ ((w_fi ws (n_v vs 2) 7 ≤ w_fi ws (n_v vs 2) 5) ∧ ((((w_fi ws (n_v vs 2) 5 - w_fi ws (n_v vs 2) 7) ≤ 0) → (w_fi ws (n_v vs 2) 8 ≤ 0)) ∧ ((((w_fi ws (n_v vs 2) 5 - w_fi ws (n_v vs 2) 7) ≤ 1) → (w_fi ws (n_v vs 2) 8 ≤ 9)) ∧ ((((w_fi ws (n_v vs 2) 5 - w_fi ws (n_v vs 2) 7) ≤ 2) → (w_fi ws (n_v vs 2) 8 ≤ 99)) ∧ ((((w_fi ws (n_v vs 2) 5 - w_fi ws (n_v vs 2) 7) ≤ 3) → (w_fi ws (n_v vs 2) 8 ≤ 999)) ∧ (((w_fi ws (n_v vs 2) 5 - w_fi ws (n_v vs 2) 7) ≤ 4) → (w_fi ws (n_v vs 2) 8 ≤ 9999)))))))
      rw [q2]
      exact vc_Sy_advance_36_0 (v_iv (n_v vs 4)) (v_iv (n_v vs 5)) (v_iv (n_v vs 8)) (v_iv (n_v vs 11)) (v_iv (n_v vs 12)) (v_iv (n_v vs 13)) (v_iv (n_v vs 15)) (v_iv (n_v vs 17)) (v_iv (n_v vs 19)) (w_fi ws (n_v vs 0) 5) (w_fi ws (n_v vs 0) 8) (w_fi ws (n_v vs 0) 4) (w_fi w1 (n_v vs 0) 5) (w_ei w2 (w_ar ws (n_v vs 0) 3)) (w_fi w2 (n_v vs 0) 8) (w_fi w2 (n_v vs 0) 7) (w_fi w2 (n_v vs 0) 5) (w_fi w1 (n_v vs 0) 4) (w_fi ws (n_v vs 0) 7) (w_fi w1 (n_v vs 0) 7) (w_fi w1 (n_v vs 0) 8) (w_ei ws (w_ar ws (n_v vs 0) 3)) (w_ei w1 (w_ar ws (n_v vs 0) 3)) k4 k5 k8 k11 k12 k13 k15 k17 k19 d0 d2 g0 g1 f4 g10 f18 h19 f20 g21 h24 f26 fe_0_4_1 fe_0_7_1 fe_0_8_1 fe_0_5_2 fe_0_7_2 hE_0_3_1 hE_0_3_2 kz_0_4 kz_0_5 kz_0_7 kz_0_8
  refine ⟨(fun _ h => (by cases h)), [], trivial, ?_, (fun _ h => (by cases h))⟩
  rw [List.append_nil]
  exact List.forall_mem_cons.mpr ⟨⟨show (20 : Nat) < 100 from by decide, nf0⟩, (fun _ h => (by cases h))⟩
def n_Sy_advance_an : List an_T := [(0, [(0, (2, 0, 0, [11]))], [], (0, 0), [(0, 0, 100000), (1, 3, 2000), (0, 0, 100000)], [], [((0, 5), (0, 0, 2000, [])), ((0, 3), (2, 0, 0, [109]))], [(2, 0, 0, [11]), (2, 0, 0, [109])], 0, [], [(24, [0, 2], [])]), (94, [(0, (2, 0, 0, [11])), (1, (0, 97, 122, []))], [], (0, 0), [(0, 0, 99906), (1, 4, 2000), (0, 0, 100000)], [], [((0, 5), (0, 0, 2000, [])), ((0, 3), (2, 0, 0, [109]))], [(2, 0, 0, [11]), (2, 0, 0, [109])], 0, [], [(24, [0, 2], [])]), (171, [(0, (2, 0, 0, [11])), (1, (0, 48, 57, []))], [], (0, 0), [(0, 0, 99829), (1, 5, 2000), (0, 0, 100000)], [], [((0, 8), (0, 0, 1000000, [])), ((0, 5), (0, 0, 2000, [])), ((0, 3), (2, 0, 0, [109]))], [(2, 0, 0, [11]), (2, 0, 0, [109])], 0, [], [(20, [2], [50, 3, 0, 8, 7, 5, 2, 7, 0, 2, 0, 0, 2, 0, 8, 2, 8, 0, 3, 2, 0, 7, 2, 0, 5, 2, 21, 4, 12, 0, 8, 5, 3, 2, 0, 5, 2, 0, 7, 0, 0, 0, 3, 2, 0, 8, 0, 0, 2, 21, 4, 12, 0, 8, 5, 3, 2, 0, 5, 2, 0, 7, 0, 1, 0, 3, 2, 0, 8, 0, 9, 2, 21, 4, 12, 0, 8, 5, 3, 2, 0, 5, 2, 0, 7, 0, 2, 0, 3, 2, 0, 8, 0, 99, 2, 21, 4, 12, 0, 8, 5, 3, 2, 0, 5, 2, 0, 7, 0, 3, 0, 3, 2, 0, 8, 0, 999, 4, 12, 0, 8, 5, 3, 2, 0, 5, 2, 0, 7, 0, 4, 0, 3, 2, 0, 8, 0, 9999]), (24, [0, 2], [])])]
def t_Sy_advance_ct : ct_L := [(0, 76, e_Sy_isSmall), (0, 80, e_Re_isDigit), (663, 86, e_jMath_min1_v405), (663, 86, e_jMath_min1_v406), (663, 86, e_jMath_min1_v407), (663, 86, e_jMath_min1_v408), (663, 86, e_jMath_min1_v409), (663, 86, e_jMath_min1_v410), (853, 94, e_jStr_indexOf1_v398), (1000000, 92, en_ro [] (2, 0, 0, [5005]))]
end
