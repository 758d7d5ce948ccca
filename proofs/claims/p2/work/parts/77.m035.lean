set_option maxHeartbeats 4000000 in
theorem vc_Mo_ring_8_3 (x2 : Int) (order_0 : Int → Int) (k2 : 0 ≤ x2 ∧ x2 ≤ 8) (f3 : DIS (order_0) (x2)) : DIS (order_0) (x2) := by
  assumption
set_option maxHeartbeats 4000000 in
theorem vc_Mo_ring_8_4 (x2 : Int) (x4 : Int) (x5 : Int) (order_0 : Int → Int) (gx : Int) (k2 : 0 ≤ x2 ∧ x2 ≤ 8) (k4 : 1 ≤ x4 ∧ x4 ≤ 1) (k5 : (-2) ≤ x5 ∧ x5 ≤ 16777216) (f4 : OZ2 (order_0) (x2) (x5) (x4)) (f6 : x4 ≠ 0) (ex2 : gx = 0 + (1 * x5 + 0)) : ORM (order_0) (x2) (gx) := by
  first
    | assumption
    | exact ‹OZ2 _ _ _ _› (by omega)
    | (have h := ‹ORM _ _ _›; unfold ORM at h ⊢; omega)
    | (have h := ‹ORM _ _ _›; unfold ORM at h ⊢; rw [show x6 = x2 by omega]; omega)
    | (have h := ‹ORM _ _ _›; unfold ORM at h ⊢; rw [show x7 = x2 by omega]; omega)
    | (have h := ‹OZ2 _ _ _ _› (by omega); unfold ORM at h ⊢; omega)
set_option maxHeartbeats 4000000 in
theorem vc_Mo_ring_8_5 (x2 : Int) (x4 : Int) (x5 : Int) (order_0 : Int → Int) (gx : Int) (k2 : 0 ≤ x2 ∧ x2 ≤ 8) (k4 : 1 ≤ x4 ∧ x4 ≤ 1) (k5 : (-2) ≤ x5 ∧ x5 ≤ 16777216) (f1 : 0 ≤ x2) (f2 : x2 ≤ 8) (f4 : OZ2 (order_0) (x2) (x5) (x4)) (f6 : x4 ≠ 0) (ex2 : gx = 0 + (1 * x5 + 0)) : (-1) * gx + 0 ≤ (-1) := by
  first
    | omega
    | (have h := orm_pos (by omega) (by omega) (‹OZ2 _ _ _ _› (by omega)); omega)
    | (have h := orm_pos (by omega) (by omega) ‹ORM _ _ _›; omega)
def o_Mo_ring_8 : or_T := (62, 8, [(0, (2, 0, 0, [165])), (2, (0, 0, 8, [])), (4, (0, 1, 1, [])), (5, (0, -2, 16777216, []))], [(20, [2], [50, 0, 0, 0, 2, 1, 0, 0, 24]), (20, [2], [50, 0, 0, 0, 2, 0, 0, 1, 0]), (20, [2], [50, 0, 0, 0, 2, 1, 0, 0, 8]), (20, [0, 2], [60, 0, 1, 322, 96]), (20, [0, 2, 5, 4], [60, 0, 1, 333, 96]), (102, [5], [463168356949264781694283940034751631413079938662562256157830336031652518559744]), (8, [4], [1])], [], [(0, -2, 16777216, [])], [(20, [2], [50, 0, 0, 0, 2, 1, 0, 0, 24]), (20, [2], [50, 0, 0, 0, 2, 0, 0, 1, 0]), (20, [2], [50, 0, 0, 0, 2, 1, 0, 0, 8]), (20, [0, 2], [60, 0, 1, 322, 96]), (20, [0, 2, 8], [60, 0, 1, 323, 96]), (23, [8], [-1, -1])], [(8, 5, 0, 0)], [])
theorem oo_Mo_ring_8 {kA : Nat → ClassId} : or_ok PRD kA GG o_Mo_ring_8 := by
  refine or_mk fun A ta ws vs hD hth hl => ?_
  intro t0 r0 t2 k2 t4 k4 t5 k5 f0 f1 f2 f3 f4 ta1 w1 le1 s1 f6
  replace f0 := shm_1593 f0
  replace f1 := shm_709 f1
  replace f2 := shm_647 f2
  replace f3 := shm_648 f3
  replace f4 := shm_1732 f4
  replace f6 := shm_154 f6
  have cr_0_96 := fdq_165 hD hth r0
  have hK_0_96 := elq_93 hD hth cr_0_96
  obtain ⟨x, ex, hx⟩ := iv_ex (ta := ta) (lo := (-2)) (hi := 16777216) (z := 0 + (1 * v_iv (n_v vs 5) + 0)) (by omega) (by omega) (by omega) (by omega)
  have ex2 : v_iv (Value.int x) = 0 + (1 * v_iv (n_v vs 5) + 0) := ex
  have ex3 : (-2) ≤ v_iv (Value.int x) ∧ v_iv (Value.int x) ≤ 16777216 := tv_rng hx
  have e_0 : n_v (vs ++ [Value.int x]) 0 = n_v vs 0 := n_v_old (by rw [hl]; decide)
  have e_2 : n_v (vs ++ [Value.int x]) 2 = n_v vs 2 := n_v_old (by rw [hl]; decide)
  have e_8 : n_v (vs ++ [Value.int x]) 8 = Value.int x := n_v_new hl
  have nf0 : fc_1 PRD (20, [2], [50, 0, 0, 0, 2, 1, 0, 0, 24]) ws (vs ++ [Value.int x]) := by
    refine ⟨nf_inA hl rfl, sgq_1593 ?_⟩
    · show v_iv (n_v (vs ++ [Value.int x]) 2) ≤ 24
      rw [e_2]
      exact vc_Mo_ring_8_0 (v_iv (n_v vs 2)) k2 f0
  have nf1 : fc_1 PRD (20, [2], [50, 0, 0, 0, 2, 0, 0, 1, 0]) ws (vs ++ [Value.int x]) := by
    refine ⟨nf_inA hl rfl, sgq_709 ?_⟩
    · show 0 ≤ v_iv (n_v (vs ++ [Value.int x]) 2)
      rw [e_2]
      exact vc_Mo_ring_8_1 (v_iv (n_v vs 2)) k2 f1
  have nf2 : fc_1 PRD (20, [2], [50, 0, 0, 0, 2, 1, 0, 0, 8]) ws (vs ++ [Value.int x]) := by
    refine ⟨nf_inA hl rfl, sgq_647 ?_⟩
    · show v_iv (n_v (vs ++ [Value.int x]) 2) ≤ 8
      rw [e_2]
      exact vc_Mo_ring_8_2 (v_iv (n_v vs 2)) k2 f2
  have nf3 : fc_1 PRD (20, [0, 2], [60, 0, 1, 322, 96]) ws (vs ++ [Value.int x]) := by
    refine ⟨nf_inA hl rfl, sgq_648 ?_⟩
    · show DIS (w_ei ws (w_ar ws (n_v (vs ++ [Value.int x]) 0) 96)) (v_iv (n_v (vs ++ [Value.int x]) 2))
      simp only [e_0, e_2]
      exact vc_Mo_ring_8_3 (v_iv (n_v vs 2)) (w_ei ws (w_ar ws (n_v vs 0) 96)) k2 f3
  have nf4 : fc_1 PRD (20, [0, 2, 8], [60, 0, 1, 323, 96]) ws (vs ++ [Value.int x]) := by
    refine ⟨nf_inA hl rfl, sgq_649 ?_⟩
    · show ORM (w_ei ws (w_ar ws (n_v (vs ++ [Value.int x]) 0) 96)) (v_iv (n_v (vs ++ [Value.int x]) 2)) (v_iv (n_v (vs ++ [Value.int x]) 8))
      simp only [e_0, e_2, e_8]
      exact vc_Mo_ring_8_4 (v_iv (n_v vs 2)) (v_iv (n_v vs 4)) (v_iv (n_v vs 5)) (w_ei ws (w_ar ws (n_v vs 0) 96)) (v_iv (Value.int x)) k2 k4 k5 f4 f6 ex2
  have nf5 : fc_1 PRD (23, [8], [-1, -1]) ws (vs ++ [Value.int x]) := by
    refine ⟨nf_inA hl rfl, sgq_614 ?_⟩
    · show (-1) * v_iv (n_v (vs ++ [Value.int x]) 8) + 0 ≤ (-1)
      rw [e_8]
      exact vc_Mo_ring_8_5 (v_iv (n_v vs 2)) (v_iv (n_v vs 4)) (v_iv (n_v vs 5)) (w_ei ws (w_ar ws (n_v vs 0) 96)) (v_iv (Value.int x)) k2 k4 k5 f1 f2 f4 f6 ex2
  obtain ⟨x0, e0, _, _⟩ := tv_int t5 rfl
  have e1 : v_iv (n_v vs 5) = x0.toInt := by rw [e0]; rfl
  have ho : sy_ofs (vs ++ [Value.int x]) (8, 5, 0, 0) := by
    refine ⟨x, x0, by rw [List.getElem?_append_right (by rw [hl]; decide), hl]; rfl, ?_, ?_, ?_⟩
    · rw [List.getElem?_append_left (by rw [hl]; decide)]; exact n_v_some (by rw [hl]; decide) e0
    · show x0.toInt + 0 ≤ x.toInt; omega
    · show x.toInt ≤ x0.toInt + 0; omega
  exact ⟨(fun _ h => (by cases h)), [Value.int x], ag_one hx, List.forall_mem_cons.mpr ⟨⟨show (20 : Nat) < 100 from by decide, nf0⟩, List.forall_mem_cons.mpr ⟨⟨show (20 : Nat) < 100 from by decide, nf1⟩, List.forall_mem_cons.mpr ⟨⟨show (20 : Nat) < 100 from by decide, nf2⟩, List.forall_mem_cons.mpr ⟨⟨show (20 : Nat) < 100 from by decide, nf3⟩, List.forall_mem_cons.mpr ⟨⟨show (20 : Nat) < 100 from by decide, nf4⟩, List.forall_mem_cons.mpr ⟨⟨show (23 : Nat) < 100 from by decide, nf5⟩, (fun _ h => (by cases h))⟩⟩⟩⟩⟩⟩, List.forall_mem_cons.mpr ⟨ho, (fun _ h => (by cases h))⟩⟩
set_option maxHeartbeats 4000000 in
theorem vc_Mo_ring_9_0 (x2 : Int) (k2 : 0 ≤ x2 ∧ x2 ≤ 8) : x2 = x2 := by
  first
    | omega
    | (have h := orm_pos (by omega) (by omega) (‹OZ2 _ _ _ _› (by omega)); omega)
    | (have h := orm_pos (by omega) (by omega) ‹ORM _ _ _›; omega)
set_option maxHeartbeats 4000000 in
theorem vc_Mo_ring_9_1 (x7 : Int) (gx : Int) (k7 : (-2) ≤ x7 ∧ x7 ≤ 16777216) (ex2 : gx = x7) : 1 * gx + ((-1) * x7 + 0) ≤ 0 := by
  first
    | omega
    | (have h := orm_pos (by omega) (by omega) (‹OZ2 _ _ _ _› (by omega)); omega)
    | (have h := orm_pos (by omega) (by omega) ‹ORM _ _ _›; omega)
set_option maxHeartbeats 4000000 in
theorem vc_Mo_ring_9_2 (x7 : Int) (gx : Int) (k7 : (-2) ≤ x7 ∧ x7 ≤ 16777216) (ex2 : gx = x7) : (-1) * gx + (1 * x7 + 0) ≤ 0 := by
  first
    | omega
    | (have h := orm_pos (by omega) (by omega) (‹OZ2 _ _ _ _› (by omega)); omega)
    | (have h := orm_pos (by omega) (by omega) ‹ORM _ _ _›; omega)
set_option maxHeartbeats 4000000 in
theorem vc_Mo_ring_9_3 (x2 : Int) (k2 : 0 ≤ x2 ∧ x2 ≤ 8) (f3 : x2 ≤ 8) : x2 ≤ 8 := by
  first
    | omega
    | (have h := orm_pos (by omega) (by omega) (‹OZ2 _ _ _ _› (by omega)); omega)
    | (have h := orm_pos (by omega) (by omega) ‹ORM _ _ _›; omega)
set_option maxHeartbeats 4000000 in
theorem vc_Mo_ring_9_4 (x2 : Int) (order_0 : Int → Int) (k2 : 0 ≤ x2 ∧ x2 ≤ 8) (f4 : DIS (order_0) (x2)) : DIS (order_0) (x2) := by
  assumption
set_option maxHeartbeats 4000000 in
theorem vc_Mo_ring_9_5 (x2 : Int) (x6 : Int) (x7 : Int) (order_0 : Int → Int) (gx : Int) (k2 : 0 ≤ x2 ∧ x2 ≤ 8) (k7 : (-2) ≤ x7 ∧ x7 ≤ 16777216) (f5 : ORM (order_0) (x2) (x7)) (ex2 : gx = x7) : ORM (order_0) (x2) (gx) := by
  first
    | assumption
    | exact ‹OZ2 _ _ _ _› (by omega)
    | (have h := ‹ORM _ _ _›; unfold ORM at h ⊢; omega)
    | (have h := ‹ORM _ _ _›; unfold ORM at h ⊢; rw [show x6 = x2 by omega]; omega)
    | (have h := ‹ORM _ _ _›; unfold ORM at h ⊢; rw [show x7 = x2 by omega]; omega)
    | (have h := ‹OZ2 _ _ _ _› (by omega); unfold ORM at h ⊢; omega)
set_option maxHeartbeats 4000000 in
theorem vc_Mo_ring_9_6 (x7 : Int) (k7 : (-2) ≤ x7 ∧ x7 ≤ 16777216) (f6 : (-1) * x7 + 0 ≤ (-1)) : (-1) * x7 + 0 ≤ (-1) := by
  first
    | omega
    | (have h := orm_pos (by omega) (by omega) (‹OZ2 _ _ _ _› (by omega)); omega)
    | (have h := orm_pos (by omega) (by omega) ‹ORM _ _ _›; omega)
def o_Mo_ring_9 : or_T := (90, 8, [(2, (0, 0, 8, [])), (7, (0, -2, 16777216, []))], [(20, [2], [50, 0, 0, 0, 2, 1, 0, 0, 8]), (20, [0, 2], [60, 0, 1, 322, 96]), (20, [0, 2, 7], [60, 0, 1, 323, 96]), (23, [7], [-1, -1])], [], [(0, -2, 16777216, [])], [(20, [2, 2], [50, 0, 0, 1, 2, 1, 0, 1, 1]), (23, [8, 7], [0, 1, -1]), (23, [8, 7], [0, -1, 1]), (20, [2], [50, 0, 0, 0, 2, 1, 0, 0, 8]), (20, [0, 2], [60, 0, 1, 322, 96]), (20, [0, 2, 8], [60, 0, 1, 323, 96]), (23, [7], [-1, -1])], [], [])
theorem oo_Mo_ring_9 {kA : Nat → ClassId} : or_ok PRD kA GG o_Mo_ring_9 := by
  refine or_mk fun A ta ws vs hD hth hl => ?_
  intro t2 k2 t7 k7 f3 f4 f5 f6
  replace f3 := shm_647 f3
  replace f4 := shm_648 f4
  replace f5 := shm_649 f5
  replace f6 := shm_614 f6
  obtain ⟨x, ex, hx⟩ := iv_ex (ta := ta) (lo := (-2)) (hi := 16777216) (z := v_iv (n_v vs 7)) (by omega) (by omega) (by omega) (by omega)
  have ex2 : v_iv (Value.int x) = v_iv (n_v vs 7) := ex
  have ex3 : (-2) ≤ v_iv (Value.int x) ∧ v_iv (Value.int x) ≤ 16777216 := tv_rng hx
  have e_0 : n_v (vs ++ [Value.int x]) 0 = n_v vs 0 := n_v_old (by rw [hl]; decide)
  have e_2 : n_v (vs ++ [Value.int x]) 2 = n_v vs 2 := n_v_old (by rw [hl]; decide)
  have e_7 : n_v (vs ++ [Value.int x]) 7 = n_v vs 7 := n_v_old (by rw [hl]; decide)
  have e_8 : n_v (vs ++ [Value.int x]) 8 = Value.int x := n_v_new hl
  have nf0 : fc_1 PRD (20, [2, 2], [50, 0, 0, 1, 2, 1, 0, 1, 1]) ws (vs ++ [Value.int x]) := by
    refine ⟨nf_inA hl rfl, sgq_1733 ?_⟩
    · exact rfl
  have nf1 : fc_1 PRD (23, [8, 7], [0, 1, -1]) ws (vs ++ [Value.int x]) := by
    refine ⟨nf_inA hl rfl, sgq_7 ?_⟩
    · show 1 * v_iv (n_v (vs ++ [Value.int x]) 8) + ((-1) * v_iv (n_v (vs ++ [Value.int x]) 7) + 0) ≤ 0
      simp only [e_7, e_8]
      exact vc_Mo_ring_9_1 (v_iv (n_v vs 7)) (v_iv (Value.int x)) k7 ex2
  have nf2 : fc_1 PRD (23, [8, 7], [0, -1, 1]) ws (vs ++ [Value.int x]) := by
    refine ⟨nf_inA hl rfl, sgq_22 ?_⟩
    · show (-1) * v_iv (n_v (vs ++ [Value.int x]) 8) + (1 * v_iv (n_v (vs ++ [Value.int x]) 7) + 0) ≤ 0
      simp only [e_7, e_8]
      exact vc_Mo_ring_9_2 (v_iv (n_v vs 7)) (v_iv (Value.int x)) k7 ex2
  have nf3 : fc_1 PRD (20, [2], [50, 0, 0, 0, 2, 1, 0, 0, 8]) ws (vs ++ [Value.int x]) := by
    refine ⟨nf_inA hl rfl, sgq_647 ?_⟩
    · show v_iv (n_v (vs ++ [Value.int x]) 2) ≤ 8
      rw [e_2]
      exact vc_Mo_ring_9_3 (v_iv (n_v vs 2)) k2 f3
  have nf4 : fc_1 PRD (20, [0, 2], [60, 0, 1, 322, 96]) ws (vs ++ [Value.int x]) := by
    refine ⟨nf_inA hl rfl, sgq_648 ?_⟩
    · show DIS (w_ei ws (w_ar ws (n_v (vs ++ [Value.int x]) 0) 96)) (v_iv (n_v (vs ++ [Value.int x]) 2))
      simp only [e_0, e_2]
      exact vc_Mo_ring_9_4 (v_iv (n_v vs 2)) (w_ei ws (w_ar ws (n_v vs 0) 96)) k2 f4
  have nf5 : fc_1 PRD (20, [0, 2, 8], [60, 0, 1, 323, 96]) ws (vs ++ [Value.int x]) := by
    refine ⟨nf_inA hl rfl, sgq_649 ?_⟩
    · show ORM (w_ei ws (w_ar ws (n_v (vs ++ [Value.int x]) 0) 96)) (v_iv (n_v (vs ++ [Value.int x]) 2)) (v_iv (n_v (vs ++ [Value.int x]) 8))
      simp only [e_0, e_2, e_8]
      exact vc_Mo_ring_9_5 (v_iv (n_v vs 2)) (v_iv (n_v vs 6)) (v_iv (n_v vs 7)) (w_ei ws (w_ar ws (n_v vs 0) 96)) (v_iv (Value.int x)) k2 k7 f5 ex2
  have nf6 : fc_1 PRD (23, [7], [-1, -1]) ws (vs ++ [Value.int x]) := by
    refine ⟨nf_inA hl rfl, sgq_614 ?_⟩
    · show (-1) * v_iv (n_v (vs ++ [Value.int x]) 7) + 0 ≤ (-1)
      rw [e_7]
      exact vc_Mo_ring_9_6 (v_iv (n_v vs 7)) k7 f6
  exact ⟨(fun _ h => (by cases h)), [Value.int x], ag_one hx, List.forall_mem_cons.mpr ⟨⟨show (20 : Nat) < 100 from by decide, nf0⟩, List.forall_mem_cons.mpr ⟨⟨show (23 : Nat) < 100 from by decide, nf1⟩, List.forall_mem_cons.mpr ⟨⟨show (23 : Nat) < 100 from by decide, nf2⟩, List.forall_mem_cons.mpr ⟨⟨show (20 : Nat) < 100 from by decide, nf3⟩, List.forall_mem_cons.mpr ⟨⟨show (20 : Nat) < 100 from by decide, nf4⟩, List.forall_mem_cons.mpr ⟨⟨show (20 : Nat) < 100 from by decide, nf5⟩, List.forall_mem_cons.mpr ⟨⟨show (23 : Nat) < 100 from by decide, nf6⟩, (fun _ h => (by cases h))⟩⟩⟩⟩⟩⟩⟩, (fun _ h => (by cases h))⟩
set_option maxHeartbeats 4000000 in
theorem vc_Mo_ring_10_0 (x2 : Int) (k2 : 0 ≤ x2 ∧ x2 ≤ 8) (f6 : x2 ≤ 24) : x2 ≤ 24 := by
  first
    | omega
    | (have h := orm_pos (by omega) (by omega) (‹OZ2 _ _ _ _› (by omega)); omega)
    | (have h := orm_pos (by omega) (by omega) ‹ORM _ _ _›; omega)
set_option maxHeartbeats 4000000 in
theorem vc_Mo_ring_10_1 (x2 : Int) (k2 : 0 ≤ x2 ∧ x2 ≤ 8) (f7 : 0 ≤ x2) : 0 ≤ x2 := by
  first
    | omega
    | (have h := orm_pos (by omega) (by omega) (‹OZ2 _ _ _ _› (by omega)); omega)
    | (have h := orm_pos (by omega) (by omega) ‹ORM _ _ _›; omega)
set_option maxHeartbeats 4000000 in
theorem vc_Mo_ring_10_2 (x2 : Int) (k2 : 0 ≤ x2 ∧ x2 ≤ 8) (f8 : x2 ≤ 8) : x2 ≤ 8 := by
  first
    | omega
    | (have h := orm_pos (by omega) (by omega) (‹OZ2 _ _ _ _› (by omega)); omega)
    | (have h := orm_pos (by omega) (by omega) ‹ORM _ _ _›; omega)
set_option maxHeartbeats 4000000 in
theorem vc_Mo_ring_10_3 (x2 : Int) (order_0 : Int → Int) (k2 : 0 ≤ x2 ∧ x2 ≤ 8) (f10 : DIS (order_0) (x2)) : DIS (order_0) (x2) := by
  assumption
set_option maxHeartbeats 4000000 in
theorem vc_Mo_ring_10_4 (x2 : Int) (x10 : Int) (order_0 : Int → Int) (gx : Int) (k2 : 0 ≤ x2 ∧ x2 ≤ 8) (k10 : 0 ≤ x10 ∧ x10 ≤ 0) : ORN (order_0) (x2) (gx) (x10) := by
  first
    | (intro z; exfalso; omega)
    | (have h := ‹ORN _ _ _ _›; intro z; have := h z; omega)
    | (have h := ‹ORN _ _ _ _›; intro z; have := h (by omega); omega)
set_option maxHeartbeats 4000000 in
theorem vc_Mo_ring_10_5 (x7 : Int) (x8 : Int) (gx : Int) (k7 : (-2) ≤ x7 ∧ x7 ≤ 16777216) (k8 : (-2) ≤ x8 ∧ x8 ≤ 16777216) (f2 : 1 * x8 + ((-1) * x7 + 0) ≤ 0) (f3 : (-1) * x8 + (1 * x7 + 0) ≤ 0) (f5 : (-1) * x7 + 0 ≤ (-1)) (ex2 : gx = 0 + (1 * x7 + 0)) : (-1) * gx + 0 ≤ (-1) := by
  first
    | omega
    | (have h := orm_pos (by omega) (by omega) (‹OZ2 _ _ _ _› (by omega)); omega)
    | (have h := orm_pos (by omega) (by omega) ‹ORM _ _ _›; omega)
def o_Mo_ring_10 : or_T := (112, 11, [(0, (2, 0, 0, [165])), (2, (0, 0, 8, [])), (6, (0, 0, 8, [])), (7, (0, -2, 16777216, [])), (8, (0, -2, 16777216, [])), (9, (0, 0, 0, [])), (10, (0, 0, 0, []))], [(8, [9], [0]), (20, [2, 2], [50, 0, 0, 1, 2, 1, 0, 1, 1]), (23, [8, 7], [0, 1, -1]), (23, [8, 7], [0, -1, 1]), (20, [2], [50, 0, 0, 0, 2, 1, 0, 0, 8]), (23, [7], [-1, -1]), (20, [2], [50, 0, 0, 0, 2, 1, 0, 0, 24]), (20, [2], [50, 0, 0, 0, 2, 0, 0, 1, 0]), (20, [2], [50, 0, 0, 0, 2, 1, 0, 0, 8]), (23, [7], [-1, -1]), (20, [0, 2], [60, 0, 1, 322, 96]), (20, [0, 2, 8, 9], [60, 0, 1, 324, 96]), (102, [8], [6901746346790563787434755862277025452451108972170386555162524223799296]), (23, [8, 7], [0, 1, -1]), (23, [8, 7], [0, -1, 1]), (23, [7], [-1, -1]), (7, [6, 2], [3]), (23, [7], [-1, -1])], [], [(0, -2, 16777216, [])], [(20, [2], [50, 0, 0, 0, 2, 1, 0, 0, 24]), (20, [2], [50, 0, 0, 0, 2, 0, 0, 1, 0]), (20, [2], [50, 0, 0, 0, 2, 1, 0, 0, 8]), (20, [0, 2], [60, 0, 1, 322, 96]), (20, [0, 2, 11, 10], [60, 0, 1, 324, 96]), (23, [11], [-1, -1])], [(11, 7, 0, 0)], [(6, 2, 0, 4294967296), (6, 2, -4294967296, 0)])
theorem oo_Mo_ring_10 {kA : Nat → ClassId} : or_ok PRD kA GG o_Mo_ring_10 := by
  refine or_mk fun A ta ws vs hD hth hl => ?_
  intro t0 r0 t2 k2 t6 k6 t7 k7 t8 k8 t9 k9 t10 k10 d0 d1 f0 f1 f2 f3 f4 f5 f6 f7 f8 f9 f10 f11 ta1 w1 le1 s1 f13 f14 f15 f16 f17
  replace f0 := shm_210 f0
  replace f1 := shm_1733 f1
  replace f2 := shm_7 f2
  replace f3 := shm_22 f3
  replace f4 := shm_647 f4
  replace f5 := shm_614 f5
  replace f6 := shm_1593 f6
  replace f7 := shm_709 f7
  replace f8 := shm_647 f8
  replace f9 := shm_614 f9
  replace f10 := shm_648 f10
  replace f11 := shm_652 f11
  replace f13 := shm_7 f13
  replace f14 := shm_22 f14
  replace f15 := shm_614 f15
  replace f16 := shm_2 f16
  replace f17 := shm_614 f17
  have cr_0_96 := fdq_165 hD hth r0
  have hK_0_96 := elq_93 hD hth cr_0_96
  obtain ⟨x, ex, hx⟩ := iv_ex (ta := ta) (lo := (-2)) (hi := 16777216) (z := 0 + (1 * v_iv (n_v vs 7) + 0)) (by omega) (by omega) (by omega) (by omega)
  have ex2 : v_iv (Value.int x) = 0 + (1 * v_iv (n_v vs 7) + 0) := ex
  have ex3 : (-2) ≤ v_iv (Value.int x) ∧ v_iv (Value.int x) ≤ 16777216 := tv_rng hx
  have e_0 : n_v (vs ++ [Value.int x]) 0 = n_v vs 0 := n_v_old (by rw [hl]; decide)
  have e_2 : n_v (vs ++ [Value.int x]) 2 = n_v vs 2 := n_v_old (by rw [hl]; decide)
  have e_10 : n_v (vs ++ [Value.int x]) 10 = n_v vs 10 := n_v_old (by rw [hl]; decide)
  have e_11 : n_v (vs ++ [Value.int x]) 11 = Value.int x := n_v_new hl
  have nf0 : fc_1 PRD (20, [2], [50, 0, 0, 0, 2, 1, 0, 0, 24]) ws (vs ++ [Value.int x]) := by
    refine ⟨nf_inA hl rfl, sgq_1593 ?_⟩
    · show v_iv (n_v (vs ++ [Value.int x]) 2) ≤ 24
      rw [e_2]
      exact vc_Mo_ring_10_0 (v_iv (n_v vs 2)) k2 f6
  have nf1 : fc_1 PRD (20, [2], [50, 0, 0, 0, 2, 0, 0, 1, 0]) ws (vs ++ [Value.int x]) := by
    refine ⟨nf_inA hl rfl, sgq_709 ?_⟩
    · show 0 ≤ v_iv (n_v (vs ++ [Value.int x]) 2)
      rw [e_2]
      exact vc_Mo_ring_10_1 (v_iv (n_v vs 2)) k2 f7
  have nf2 : fc_1 PRD (20, [2], [50, 0, 0, 0, 2, 1, 0, 0, 8]) ws (vs ++ [Value.int x]) := by
    refine ⟨nf_inA hl rfl, sgq_647 ?_⟩
    · show v_iv (n_v (vs ++ [Value.int x]) 2) ≤ 8
      rw [e_2]
      exact vc_Mo_ring_10_2 (v_iv (n_v vs 2)) k2 f8
  have nf3 : fc_1 PRD (20, [0, 2], [60, 0, 1, 322, 96]) ws (vs ++ [Value.int x]) := by
    refine ⟨nf_inA hl rfl, sgq_648 ?_⟩
    · show DIS (w_ei ws (w_ar ws (n_v (vs ++ [Value.int x]) 0) 96)) (v_iv (n_v (vs ++ [Value.int x]) 2))
      simp only [e_0, e_2]
      exact vc_Mo_ring_10_3 (v_iv (n_v vs 2)) (w_ei ws (w_ar ws (n_v vs 0) 96)) k2 f10
  have nf4 : fc_1 PRD (20, [0, 2, 11, 10], [60, 0, 1, 324, 96]) ws (vs ++ [Value.int x]) := by
    refine ⟨nf_inA hl rfl, sgq_652 ?_⟩
    · show ORN (w_ei ws (w_ar ws (n_v (vs ++ [Value.int x]) 0) 96)) (v_iv (n_v (vs ++ [Value.int x]) 2)) (v_iv (n_v (vs ++ [Value.int x]) 11)) (v_iv (n_v (vs ++ [Value.int x]) 10))
      simp only [e_0, e_2, e_10, e_11]
      exact vc_Mo_ring_10_4 (v_iv (n_v vs 2)) (v_iv (n_v vs 10)) (w_ei ws (w_ar ws (n_v vs 0) 96)) (v_iv (Value.int x)) k2 k10
  have nf5 : fc_1 PRD (23, [11], [-1, -1]) ws (vs ++ [Value.int x]) := by
    refine ⟨nf_inA hl rfl, sgq_614 ?_⟩
    · show (-1) * v_iv (n_v (vs ++ [Value.int x]) 11) + 0 ≤ (-1)
      rw [e_11]
      exact vc_Mo_ring_10_5 (v_iv (n_v vs 7)) (v_iv (n_v vs 8)) (v_iv (Value.int x)) k7 k8 f2 f3 f5 ex2
  obtain ⟨x0, e0, _, _⟩ := tv_int t7 rfl
  have e1 : v_iv (n_v vs 7) = x0.toInt := by rw [e0]; rfl
  have ho : sy_ofs (vs ++ [Value.int x]) (11, 7, 0, 0) := by
    refine ⟨x, x0, by rw [List.getElem?_append_right (by rw [hl]; decide), hl]; rfl, ?_, ?_, ?_⟩
    · rw [List.getElem?_append_left (by rw [hl]; decide)]; exact n_v_some (by rw [hl]; decide) e0
    · show x0.toInt + 0 ≤ x.toInt; omega
    · show x.toInt ≤ x0.toInt + 0; omega
  exact ⟨(fun _ h => (by cases h)), [Value.int x], ag_one hx, List.forall_mem_cons.mpr ⟨⟨show (20 : Nat) < 100 from by decide, nf0⟩, List.forall_mem_cons.mpr ⟨⟨show (20 : Nat) < 100 from by decide, nf1⟩, List.forall_mem_cons.mpr ⟨⟨show (20 : Nat) < 100 from by decide, nf2⟩, List.forall_mem_cons.mpr ⟨⟨show (20 : Nat) < 100 from by decide, nf3⟩, List.forall_mem_cons.mpr ⟨⟨show (20 : Nat) < 100 from by decide, nf4⟩, List.forall_mem_cons.mpr ⟨⟨show (23 : Nat) < 100 from by decide, nf5⟩, (fun _ h => (by cases h))⟩⟩⟩⟩⟩⟩, List.forall_mem_cons.mpr ⟨ho, (fun _ h => (by cases h))⟩⟩
set_option maxHeartbeats 4000000 in
theorem vc_Mo_ring_11_0 (x2 : Int) (k2 : 0 ≤ x2 ∧ x2 ≤ 8) (f9 : x2 ≤ 24) : x2 ≤ 24 := by
  first
    | omega
    | (have h := orm_pos (by omega) (by omega) (‹OZ2 _ _ _ _› (by omega)); omega)
    | (have h := orm_pos (by omega) (by omega) ‹ORM _ _ _›; omega)
set_option maxHeartbeats 4000000 in
theorem vc_Mo_ring_11_1 (x2 : Int) (k2 : 0 ≤ x2 ∧ x2 ≤ 8) (f10 : 0 ≤ x2) : 0 ≤ x2 := by
  first
    | omega
    | (have h := orm_pos (by omega) (by omega) (‹OZ2 _ _ _ _› (by omega)); omega)
    | (have h := orm_pos (by omega) (by omega) ‹ORM _ _ _›; omega)
set_option maxHeartbeats 4000000 in
theorem vc_Mo_ring_11_2 (x2 : Int) (k2 : 0 ≤ x2 ∧ x2 ≤ 8) (f11 : x2 ≤ 8) : x2 ≤ 8 := by
  first
    | omega
    | (have h := orm_pos (by omega) (by omega) (‹OZ2 _ _ _ _› (by omega)); omega)
    | (have h := orm_pos (by omega) (by omega) ‹ORM _ _ _›; omega)
set_option maxHeartbeats 4000000 in
theorem vc_Mo_ring_11_3 (x2 : Int) (order_0 : Int → Int) (k2 : 0 ≤ x2 ∧ x2 ≤ 8) (f13 : DIS (order_0) (x2)) : DIS (order_0) (x2) := by
  assumption
set_option maxHeartbeats 4000000 in
theorem vc_Mo_ring_11_4 (x2 : Int) (x13 : Int) (order_0 : Int → Int) (gx : Int) (k2 : 0 ≤ x2 ∧ x2 ≤ 8) (k13 : 0 ≤ x13 ∧ x13 ≤ 0) : ORN (order_0) (x2) (gx) (x13) := by
  first
    | (intro z; exfalso; omega)
    | (have h := ‹ORN _ _ _ _›; intro z; have := h z; omega)
    | (have h := ‹ORN _ _ _ _›; intro z; have := h (by omega); omega)
set_option maxHeartbeats 4000000 in
theorem vc_Mo_ring_11_5 (x7 : Int) (x8 : Int) (gx : Int) (k7 : (-2) ≤ x7 ∧ x7 ≤ 16777216) (k8 : (-2) ≤ x8 ∧ x8 ≤ 16777216) (f5 : 1 * x8 + ((-1) * x7 + 0) ≤ 0) (f6 : (-1) * x8 + (1 * x7 + 0) ≤ 0) (f8 : (-1) * x7 + 0 ≤ (-1)) (ex2 : gx = 0 + (1 * x7 + 0)) : (-1) * gx + 0 ≤ (-1) := by
  first
    | omega
    | (have h := orm_pos (by omega) (by omega) (‹OZ2 _ _ _ _› (by omega)); omega)
    | (have h := orm_pos (by omega) (by omega) ‹ORM _ _ _›; omega)
def o_Mo_ring_11 : or_T := (112, 14, [(0, (2, 0, 0, [165])), (2, (0, 0, 8, [])), (6, (0, 0, 8, [])), (7, (0, -2, 16777216, [])), (8, (0, -2, 16777216, [])), (9, (0, 1, 1, [])), (10, (2, 0, 0, [232])), (11, (0, 0, 0, [])), (12, (0, 1, 25, [])), (13, (0, 0, 0, []))], [(8, [12], [1]), (10, [12, 10, 11], []), (9, [10, 0], [96]), (8, [9], [1]), (20, [2, 2], [50, 0, 0, 1, 2, 1, 0, 1, 1]), (23, [8, 7], [0, 1, -1]), (23, [8, 7], [0, -1, 1]), (20, [2], [50, 0, 0, 0, 2, 1, 0, 0, 8]), (23, [7], [-1, -1]), (20, [2], [50, 0, 0, 0, 2, 1, 0, 0, 24]), (20, [2], [50, 0, 0, 0, 2, 0, 0, 1, 0]), (20, [2], [50, 0, 0, 0, 2, 1, 0, 0, 8]), (23, [7], [-1, -1]), (20, [0, 2], [60, 0, 1, 322, 96]), (20, [0, 2, 8, 9], [60, 0, 1, 324, 96]), (102, [8], [6901746346790563787434755862277025452451108972170386555162524223799296]), (23, [8, 7], [0, 1, -1]), (23, [8, 7], [0, -1, 1]), (23, [7], [-1, -1]), (7, [6, 2], [3]), (23, [7], [-1, -1])], [], [(0, -2, 16777216, [])], [(20, [2], [50, 0, 0, 0, 2, 1, 0, 0, 24]), (20, [2], [50, 0, 0, 0, 2, 0, 0, 1, 0]), (20, [2], [50, 0, 0, 0, 2, 1, 0, 0, 8]), (20, [0, 2], [60, 0, 1, 322, 96]), (20, [0, 2, 14, 13], [60, 0, 1, 324, 96]), (23, [14], [-1, -1])], [(14, 7, 0, 0)], [(6, 2, 0, 4294967296), (6, 2, -4294967296, 0)])
theorem oo_Mo_ring_11 {kA : Nat → ClassId} : or_ok PRD kA GG o_Mo_ring_11 := by
  refine or_mk fun A ta ws vs hD hth hl => ?_
  intro t0 r0 t2 k2 t6 k6 t7 k7 t8 k8 t9 k9 t10 r10 t11 k11 t12 k12 t13 k13 d0 d1 f0 f1 f2 f3 f4 f5 f6 f7 f8 f9 f10 f11 f12 f13 f14 ta1 w1 le1 s1 f16 f17 f18 f19 f20
  replace f0 := shm_154 f0
  replace f1 := shm_106 f1
  replace f2 := shm_653 f2
  replace f3 := shm_154 f3
  replace f4 := shm_1733 f4
  replace f5 := shm_7 f5
  replace f6 := shm_22 f6
  replace f7 := shm_647 f7
  replace f8 := shm_614 f8
  replace f9 := shm_1593 f9
  replace f10 := shm_709 f10
  replace f11 := shm_647 f11
  replace f12 := shm_614 f12
  replace f13 := shm_648 f13
  replace f14 := shm_652 f14
  replace f16 := shm_7 f16
  replace f17 := shm_22 f17
  replace f18 := shm_614 f18
  replace f19 := shm_2 f19
  replace f20 := shm_614 f20
  have cr_0_96 := fdq_165 hD hth r0
  have ad_10 : v_ad (n_v vs 10) = w_ar ws (n_v vs 0) 96 := congrArg v_ad f2
  simp only [ad_10] at f1
  have h1 : v_iv (n_v vs 12) = w_ei ws (w_ar ws (n_v vs 0) 96) (v_iv (n_v vs 11)) := f1
  have hK_0_96 := elq_93 hD hth cr_0_96
  obtain ⟨x, ex, hx⟩ := iv_ex (ta := ta) (lo := (-2)) (hi := 16777216) (z := 0 + (1 * v_iv (n_v vs 7) + 0)) (by omega) (by omega) (by omega) (by omega)
  have ex2 : v_iv (Value.int x) = 0 + (1 * v_iv (n_v vs 7) + 0) := ex
  have ex3 : (-2) ≤ v_iv (Value.int x) ∧ v_iv (Value.int x) ≤ 16777216 := tv_rng hx
  have e_0 : n_v (vs ++ [Value.int x]) 0 = n_v vs 0 := n_v_old (by rw [hl]; decide)
  have e_2 : n_v (vs ++ [Value.int x]) 2 = n_v vs 2 := n_v_old (by rw [hl]; decide)
  have e_13 : n_v (vs ++ [Value.int x]) 13 = n_v vs 13 := n_v_old (by rw [hl]; decide)
  have e_14 : n_v (vs ++ [Value.int x]) 14 = Value.int x := n_v_new hl
  have nf0 : fc_1 PRD (20, [2], [50, 0, 0, 0, 2, 1, 0, 0, 24]) ws (vs ++ [Value.int x]) := by
    refine ⟨nf_inA hl rfl, sgq_1593 ?_⟩
    · show v_iv (n_v (vs ++ [Value.int x]) 2) ≤ 24
      rw [e_2]
      exact vc_Mo_ring_11_0 (v_iv (n_v vs 2)) k2 f9
  have nf1 : fc_1 PRD (20, [2], [50, 0, 0, 0, 2, 0, 0, 1, 0]) ws (vs ++ [Value.int x]) := by
    refine ⟨nf_inA hl rfl, sgq_709 ?_⟩
    · show 0 ≤ v_iv (n_v (vs ++ [Value.int x]) 2)
      rw [e_2]
      exact vc_Mo_ring_11_1 (v_iv (n_v vs 2)) k2 f10
  have nf2 : fc_1 PRD (20, [2], [50, 0, 0, 0, 2, 1, 0, 0, 8]) ws (vs ++ [Value.int x]) := by
    refine ⟨nf_inA hl rfl, sgq_647 ?_⟩
    · show v_iv (n_v (vs ++ [Value.int x]) 2) ≤ 8
      rw [e_2]
      exact vc_Mo_ring_11_2 (v_iv (n_v vs 2)) k2 f11
  have nf3 : fc_1 PRD (20, [0, 2], [60, 0, 1, 322, 96]) ws (vs ++ [Value.int x]) := by
    refine ⟨nf_inA hl rfl, sgq_648 ?_⟩
    · show DIS (w_ei ws (w_ar ws (n_v (vs ++ [Value.int x]) 0) 96)) (v_iv (n_v (vs ++ [Value.int x]) 2))
      simp only [e_0, e_2]
      exact vc_Mo_ring_11_3 (v_iv (n_v vs 2)) (w_ei ws (w_ar ws (n_v vs 0) 96)) k2 f13
  have nf4 : fc_1 PRD (20, [0, 2, 14, 13], [60, 0, 1, 324, 96]) ws (vs ++ [Value.int x]) := by
    refine ⟨nf_inA hl rfl, sgq_652 ?_⟩
    · show ORN (w_ei ws (w_ar ws (n_v (vs ++ [Value.int x]) 0) 96)) (v_iv (n_v (vs ++ [Value.int x]) 2)) (v_iv (n_v (vs ++ [Value.int x]) 14)) (v_iv (n_v (vs ++ [Value.int x]) 13))
      simp only [e_0, e_2, e_13, e_14]
      exact vc_Mo_ring_11_4 (v_iv (n_v vs 2)) (v_iv (n_v vs 13)) (w_ei ws (w_ar ws (n_v vs 0) 96)) (v_iv (Value.int x)) k2 k13
  have nf5 : fc_1 PRD (23, [14], [-1, -1]) ws (vs ++ [Value.int x]) := by
    refine ⟨nf_inA hl rfl, sgq_614 ?_⟩
    · show (-1) * v_iv (n_v (vs ++ [Value.int x]) 14) + 0 ≤ (-1)
      rw [e_14]
      exact vc_Mo_ring_11_5 (v_iv (n_v vs 7)) (v_iv (n_v vs 8)) (v_iv (Value.int x)) k7 k8 f5 f6 f8 ex2
  obtain ⟨x0, e0, _, _⟩ := tv_int t7 rfl
  have e1 : v_iv (n_v vs 7) = x0.toInt := by rw [e0]; rfl
  have ho : sy_ofs (vs ++ [Value.int x]) (14, 7, 0, 0) := by
    refine ⟨x, x0, by rw [List.getElem?_append_right (by rw [hl]; decide), hl]; rfl, ?_, ?_, ?_⟩
    · rw [List.getElem?_append_left (by rw [hl]; decide)]; exact n_v_some (by rw [hl]; decide) e0
    · show x0.toInt + 0 ≤ x.toInt; omega
    · show x.toInt ≤ x0.toInt + 0; omega
  exact ⟨(fun _ h => (by cases h)), [Value.int x], ag_one hx, List.forall_mem_cons.mpr ⟨⟨show (20 : Nat) < 100 from by decide, nf0⟩, List.forall_mem_cons.mpr ⟨⟨show (20 : Nat) < 100 from by decide, nf1⟩, List.forall_mem_cons.mpr ⟨⟨show (20 : Nat) < 100 from by decide, nf2⟩, List.forall_mem_cons.mpr ⟨⟨show (20 : Nat) < 100 from by decide, nf3⟩, List.forall_mem_cons.mpr ⟨⟨show (20 : Nat) < 100 from by decide, nf4⟩, List.forall_mem_cons.mpr ⟨⟨show (23 : Nat) < 100 from by decide, nf5⟩, (fun _ h => (by cases h))⟩⟩⟩⟩⟩⟩, List.forall_mem_cons.mpr ⟨ho, (fun _ h => (by cases h))⟩⟩
set_option maxHeartbeats 4000000 in
theorem vc_Mo_ring_12_0 (x2 : Int) (k2 : 0 ≤ x2 ∧ x2 ≤ 8) (f9 : x2 ≤ 24) : x2 ≤ 24 := by
  first
    | omega
    | (have h := orm_pos (by omega) (by omega) (‹OZ2 _ _ _ _› (by omega)); omega)
    | (have h := orm_pos (by omega) (by omega) ‹ORM _ _ _›; omega)
set_option maxHeartbeats 4000000 in
theorem vc_Mo_ring_12_1 (x2 : Int) (k2 : 0 ≤ x2 ∧ x2 ≤ 8) (f10 : 0 ≤ x2) : 0 ≤ x2 := by
  first
    | omega
    | (have h := orm_pos (by omega) (by omega) (‹OZ2 _ _ _ _› (by omega)); omega)
    | (have h := orm_pos (by omega) (by omega) ‹ORM _ _ _›; omega)
set_option maxHeartbeats 4000000 in
theorem vc_Mo_ring_12_2 (x2 : Int) (k2 : 0 ≤ x2 ∧ x2 ≤ 8) (f11 : x2 ≤ 8) : x2 ≤ 8 := by
  first
    | omega
    | (have h := orm_pos (by omega) (by omega) (‹OZ2 _ _ _ _› (by omega)); omega)
    | (have h := orm_pos (by omega) (by omega) ‹ORM _ _ _›; omega)
set_option maxHeartbeats 4000000 in
theorem vc_Mo_ring_12_3 (x2 : Int) (order_0 : Int → Int) (k2 : 0 ≤ x2 ∧ x2 ≤ 8) (f13 : DIS (order_0) (x2)) : DIS (order_0) (x2) := by
  assumption
set_option maxHeartbeats 4000000 in
theorem vc_Mo_ring_12_4 (x2 : Int) (x7 : Int) (x8 : Int) (x9 : Int) (x13 : Int) (order_0 : Int → Int) (gx : Int) (k2 : 0 ≤ x2 ∧ x2 ≤ 8) (k7 : (-2) ≤ x7 ∧ x7 ≤ 16777216) (k8 : (-2) ≤ x8 ∧ x8 ≤ 16777216) (k9 : 1 ≤ x9 ∧ x9 ≤ 1) (k13 : 1 ≤ x13 ∧ x13 ≤ 1) (f3 : x9 ≠ 0) (f5 : 1 * x8 + ((-1) * x7 + 0) ≤ 0) (f6 : (-1) * x8 + (1 * x7 + 0) ≤ 0) (f14 : ORN (order_0) (x2) (x8) (x9)) (ex2 : gx = 0 + (1 * x7 + 0)) : ORN (order_0) (x2) (gx) (x13) := by
  first
    | (intro z; exfalso; omega)
    | (have h := ‹ORN _ _ _ _›; intro z; have := h z; omega)
    | (have h := ‹ORN _ _ _ _›; intro z; have := h (by omega); omega)
set_option maxHeartbeats 4000000 in
theorem vc_Mo_ring_12_5 (x7 : Int) (x8 : Int) (gx : Int) (k7 : (-2) ≤ x7 ∧ x7 ≤ 16777216) (k8 : (-2) ≤ x8 ∧ x8 ≤ 16777216) (f5 : 1 * x8 + ((-1) * x7 + 0) ≤ 0) (f6 : (-1) * x8 + (1 * x7 + 0) ≤ 0) (f8 : (-1) * x7 + 0 ≤ (-1)) (ex2 : gx = 0 + (1 * x7 + 0)) : (-1) * gx + 0 ≤ (-1) := by
  first
    | omega
    | (have h := orm_pos (by omega) (by omega) (‹OZ2 _ _ _ _› (by omega)); omega)
    | (have h := orm_pos (by omega) (by omega) ‹ORM _ _ _›; omega)
def o_Mo_ring_12 : or_T := (112, 14, [(0, (2, 0, 0, [165])), (2, (0, 0, 8, [])), (6, (0, 0, 8, [])), (7, (0, -2, 16777216, [])), (8, (0, -2, 16777216, [])), (9, (0, 1, 1, [])), (10, (2, 0, 0, [232])), (11, (0, 0, 0, [])), (12, (0, 0, 0, [])), (13, (0, 1, 1, []))], [(8, [12], [0]), (10, [12, 10, 11], []), (9, [10, 0], [96]), (8, [9], [1]), (20, [2, 2], [50, 0, 0, 1, 2, 1, 0, 1, 1]), (23, [8, 7], [0, 1, -1]), (23, [8, 7], [0, -1, 1]), (20, [2], [50, 0, 0, 0, 2, 1, 0, 0, 8]), (23, [7], [-1, -1]), (20, [2], [50, 0, 0, 0, 2, 1, 0, 0, 24]), (20, [2], [50, 0, 0, 0, 2, 0, 0, 1, 0]), (20, [2], [50, 0, 0, 0, 2, 1, 0, 0, 8]), (23, [7], [-1, -1]), (20, [0, 2], [60, 0, 1, 322, 96]), (20, [0, 2, 8, 9], [60, 0, 1, 324, 96]), (102, [8], [6901746346790563787434755862277025452451108972170386555162524223799296]), (23, [8, 7], [0, 1, -1]), (23, [8, 7], [0, -1, 1]), (23, [7], [-1, -1]), (7, [6, 2], [3]), (23, [7], [-1, -1])], [], [(0, -2, 16777216, [])], [(20, [2], [50, 0, 0, 0, 2, 1, 0, 0, 24]), (20, [2], [50, 0, 0, 0, 2, 0, 0, 1, 0]), (20, [2], [50, 0, 0, 0, 2, 1, 0, 0, 8]), (20, [0, 2], [60, 0, 1, 322, 96]), (20, [0, 2, 14, 13], [60, 0, 1, 324, 96]), (23, [14], [-1, -1])], [(14, 7, 0, 0)], [(6, 2, 0, 4294967296), (6, 2, -4294967296, 0)])
theorem oo_Mo_ring_12 {kA : Nat → ClassId} : or_ok PRD kA GG o_Mo_ring_12 := by
  refine or_mk fun A ta ws vs hD hth hl => ?_
  intro t0 r0 t2 k2 t6 k6 t7 k7 t8 k8 t9 k9 t10 r10 t11 k11 t12 k12 t13 k13 d0 d1 f0 f1 f2 f3 f4 f5 f6 f7 f8 f9 f10 f11 f12 f13 f14 ta1 w1 le1 s1 f16 f17 f18 f19 f20
  replace f0 := shm_210 f0
  replace f1 := shm_106 f1
  replace f2 := shm_653 f2
  replace f3 := shm_154 f3
  replace f4 := shm_1733 f4
  replace f5 := shm_7 f5
  replace f6 := shm_22 f6
  replace f7 := shm_647 f7
  replace f8 := shm_614 f8
  replace f9 := shm_1593 f9
  replace f10 := shm_709 f10
  replace f11 := shm_647 f11
  replace f12 := shm_614 f12
  replace f13 := shm_648 f13
  replace f14 := shm_652 f14
  replace f16 := shm_7 f16
  replace f17 := shm_22 f17
  replace f18 := shm_614 f18
  replace f19 := shm_2 f19
  replace f20 := shm_614 f20
  have cr_0_96 := fdq_165 hD hth r0
  have ad_10 : v_ad (n_v vs 10) = w_ar ws (n_v vs 0) 96 := congrArg v_ad f2
  simp only [ad_10] at f1
  have h1 : v_iv (n_v vs 12) = w_ei ws (w_ar ws (n_v vs 0) 96) (v_iv (n_v vs 11)) := f1
  have hK_0_96 := elq_93 hD hth cr_0_96
  obtain ⟨x, ex, hx⟩ := iv_ex (ta := ta) (lo := (-2)) (hi := 16777216) (z := 0 + (1 * v_iv (n_v vs 7) + 0)) (by omega) (by omega) (by omega) (by omega)
  have ex2 : v_iv (Value.int x) = 0 + (1 * v_iv (n_v vs 7) + 0) := ex
  have ex3 : (-2) ≤ v_iv (Value.int x) ∧ v_iv (Value.int x) ≤ 16777216 := tv_rng hx
  have e_0 : n_v (vs ++ [Value.int x]) 0 = n_v vs 0 := n_v_old (by rw [hl]; decide)
  have e_2 : n_v (vs ++ [Value.int x]) 2 = n_v vs 2 := n_v_old (by rw [hl]; decide)
  have e_13 : n_v (vs ++ [Value.int x]) 13 = n_v vs 13 := n_v_old (by rw [hl]; decide)
  have e_14 : n_v (vs ++ [Value.int x]) 14 = Value.int x := n_v_new hl
  have nf0 : fc_1 PRD (20, [2], [50, 0, 0, 0, 2, 1, 0, 0, 24]) ws (vs ++ [Value.int x]) := by
    refine ⟨nf_inA hl rfl, sgq_1593 ?_⟩
    · show v_iv (n_v (vs ++ [Value.int x]) 2) ≤ 24
      rw [e_2]
      exact vc_Mo_ring_12_0 (v_iv (n_v vs 2)) k2 f9
  have nf1 : fc_1 PRD (20, [2], [50, 0, 0, 0, 2, 0, 0, 1, 0]) ws (vs ++ [Value.int x]) := by
    refine ⟨nf_inA hl rfl, sgq_709 ?_⟩
    · show 0 ≤ v_iv (n_v (vs ++ [Value.int x]) 2)
      rw [e_2]
      exact vc_Mo_ring_12_1 (v_iv (n_v vs 2)) k2 f10
  have nf2 : fc_1 PRD (20, [2], [50, 0, 0, 0, 2, 1, 0, 0, 8]) ws (vs ++ [Value.int x]) := by
    refine ⟨nf_inA hl rfl, sgq_647 ?_⟩
    · show v_iv (n_v (vs ++ [Value.int x]) 2) ≤ 8
      rw [e_2]
      exact vc_Mo_ring_12_2 (v_iv (n_v vs 2)) k2 f11
  have nf3 : fc_1 PRD (20, [0, 2], [60, 0, 1, 322, 96]) ws (vs ++ [Value.int x]) := by
    refine ⟨nf_inA hl rfl, sgq_648 ?_⟩
    · show DIS (w_ei ws (w_ar ws (n_v (vs ++ [Value.int x]) 0) 96)) (v_iv (n_v (vs ++ [Value.int x]) 2))
      simp only [e_0, e_2]
      exact vc_Mo_ring_12_3 (v_iv (n_v vs 2)) (w_ei ws (w_ar ws (n_v vs 0) 96)) k2 f13
  have nf4 : fc_1 PRD (20, [0, 2, 14, 13], [60, 0, 1, 324, 96]) ws (vs ++ [Value.int x]) := by
    refine ⟨nf_inA hl rfl, sgq_652 ?_⟩
    · show ORN (w_ei ws (w_ar ws (n_v (vs ++ [Value.int x]) 0) 96)) (v_iv (n_v (vs ++ [Value.int x]) 2)) (v_iv (n_v (vs ++ [Value.int x]) 14)) (v_iv (n_v (vs ++ [Value.int x]) 13))
      simp only [e_0, e_2, e_13, e_14]
      exact vc_Mo_ring_12_4 (v_iv (n_v vs 2)) (v_iv (n_v vs 7)) (v_iv (n_v vs 8)) (v_iv (n_v vs 9)) (v_iv (n_v vs 13)) (w_ei ws (w_ar ws (n_v vs 0) 96)) (v_iv (Value.int x)) k2 k7 k8 k9 k13 f3 f5 f6 f14 ex2
  have nf5 : fc_1 PRD (23, [14], [-1, -1]) ws (vs ++ [Value.int x]) := by
    refine ⟨nf_inA hl rfl, sgq_614 ?_⟩
    · show (-1) * v_iv (n_v (vs ++ [Value.int x]) 14) + 0 ≤ (-1)
      rw [e_14]
      exact vc_Mo_ring_12_5 (v_iv (n_v vs 7)) (v_iv (n_v vs 8)) (v_iv (Value.int x)) k7 k8 f5 f6 f8 ex2
  obtain ⟨x0, e0, _, _⟩ := tv_int t7 rfl
  have e1 : v_iv (n_v vs 7) = x0.toInt := by rw [e0]; rfl
  have ho : sy_ofs (vs ++ [Value.int x]) (14, 7, 0, 0) := by
    refine ⟨x, x0, by rw [List.getElem?_append_right (by rw [hl]; decide), hl]; rfl, ?_, ?_, ?_⟩
    · rw [List.getElem?_append_left (by rw [hl]; decide)]; exact n_v_some (by rw [hl]; decide) e0
    · show x0.toInt + 0 ≤ x.toInt; omega
    · show x.toInt ≤ x0.toInt + 0; omega
  exact ⟨(fun _ h => (by cases h)), [Value.int x], ag_one hx, List.forall_mem_cons.mpr ⟨⟨show (20 : Nat) < 100 from by decide, nf0⟩, List.forall_mem_cons.mpr ⟨⟨show (20 : Nat) < 100 from by decide, nf1⟩, List.forall_mem_cons.mpr ⟨⟨show (20 : Nat) < 100 from by decide, nf2⟩, List.forall_mem_cons.mpr ⟨⟨show (20 : Nat) < 100 from by decide, nf3⟩, List.forall_mem_cons.mpr ⟨⟨show (20 : Nat) < 100 from by decide, nf4⟩, List.forall_mem_cons.mpr ⟨⟨show (23 : Nat) < 100 from by decide, nf5⟩, (fun _ h => (by cases h))⟩⟩⟩⟩⟩⟩, List.forall_mem_cons.mpr ⟨ho, (fun _ h => (by cases h))⟩⟩
set_option maxHeartbeats 4000000 in
theorem vc_Mo_ring_13_0 (x2 : Int) (k2 : 0 ≤ x2 ∧ x2 ≤ 8) (f0 : x2 ≤ 24) : x2 ≤ 24 := by
  first
    | omega
    | (have h := orm_pos (by omega) (by omega) (‹OZ2 _ _ _ _› (by omega)); omega)
    | (have h := orm_pos (by omega) (by omega) ‹ORM _ _ _›; omega)
set_option maxHeartbeats 4000000 in
theorem vc_Mo_ring_13_1 (x2 : Int) (k2 : 0 ≤ x2 ∧ x2 ≤ 8) (f1 : 0 ≤ x2) : 0 ≤ x2 := by
  first
    | omega
    | (have h := orm_pos (by omega) (by omega) (‹OZ2 _ _ _ _› (by omega)); omega)
    | (have h := orm_pos (by omega) (by omega) ‹ORM _ _ _›; omega)
set_option maxHeartbeats 4000000 in
theorem vc_Mo_ring_13_2 (x2 : Int) (k2 : 0 ≤ x2 ∧ x2 ≤ 8) (f2 : x2 ≤ 8) : x2 ≤ 8 := by
  first
    | omega
    | (have h := orm_pos (by omega) (by omega) (‹OZ2 _ _ _ _› (by omega)); omega)
    | (have h := orm_pos (by omega) (by omega) ‹ORM _ _ _›; omega)
set_option maxHeartbeats 4000000 in
theorem vc_Mo_ring_13_3 (x2 : Int) (order_0 : Int → Int) (k2 : 0 ≤ x2 ∧ x2 ≤ 8) (f3 : DIS (order_0) (x2)) : DIS (order_0) (x2) := by
  first
    | assumption
    | exact (idn_dis ‹IDN _ _› (by omega)).1
set_option maxHeartbeats 4000000 in
theorem vc_Mo_ring_13_4 (x2 : Int) (x4 : Int) (x6 : Int) (order_0 : Int → Int) (gx : Int) (k2 : 0 ≤ x2 ∧ x2 ≤ 8) (k4 : 0 ≤ x4 ∧ x4 ≤ 1) (k6 : (-2) ≤ x6 ∧ x6 ≤ 16777216) (f4 : ORN (order_0) (x2) (x6) (x4)) (ex2 : gx = (-1) + (1 * x6 + 0)) : OZ2 (order_0) (x2) (gx) (x4) := by
  first
    | exact fun _ => orm_start (by omega) (by omega) (by omega)
    | (intro z
       have h := ‹ORN _ _ _ _› z
       unfold ORM
       omega)
def o_Mo_ring_13 : or_T := (38, 7, [(0, (2, 0, 0, [165])), (2, (0, 0, 8, [])), (4, (0, 0, 1, [])), (6, (0, -2, 16777216, []))], [(20, [2], [50, 0, 0, 0, 2, 1, 0, 0, 24]), (20, [2], [50, 0, 0, 0, 2, 0, 0, 1, 0]), (20, [2], [50, 0, 0, 0, 2, 1, 0, 0, 8]), (20, [0, 2], [60, 0, 1, 322, 96]), (20, [0, 2, 6, 4], [60, 0, 1, 324, 96]), (23, [6], [-1, -1])], [], [(0, -2, 16777216, [])], [(20, [2], [50, 0, 0, 0, 2, 1, 0, 0, 24]), (20, [2], [50, 0, 0, 0, 2, 0, 0, 1, 0]), (20, [2], [50, 0, 0, 0, 2, 1, 0, 0, 8]), (20, [0, 2], [60, 0, 1, 322, 96]), (20, [0, 2, 7, 4], [60, 0, 1, 333, 96])], [(7, 6, -1000000000000, -1)], [])
theorem oo_Mo_ring_13 {kA : Nat → ClassId} : or_ok PRD kA GG o_Mo_ring_13 := by
  refine or_mk fun A ta ws vs hD hth hl => ?_
  intro t0 r0 t2 k2 t4 k4 t6 k6 f0 f1 f2 f3 f4 f5
  replace f0 := shm_1593 f0
  replace f1 := shm_709 f1
  replace f2 := shm_647 f2
  replace f3 := shm_648 f3
  replace f4 := shm_652 f4
  replace f5 := shm_614 f5
  have cr_0_96 := fdq_165 hD hth r0
  have hK_0_96 := elq_93 hD hth cr_0_96
  obtain ⟨x, ex, hx⟩ := iv_ex (ta := ta) (lo := (-2)) (hi := 16777216) (z := (-1) + (1 * v_iv (n_v vs 6) + 0)) (by omega) (by omega) (by omega) (by omega)
  have ex2 : v_iv (Value.int x) = (-1) + (1 * v_iv (n_v vs 6) + 0) := ex
  have ex3 : (-2) ≤ v_iv (Value.int x) ∧ v_iv (Value.int x) ≤ 16777216 := tv_rng hx
  have e_0 : n_v (vs ++ [Value.int x]) 0 = n_v vs 0 := n_v_old (by rw [hl]; decide)
  have e_2 : n_v (vs ++ [Value.int x]) 2 = n_v vs 2 := n_v_old (by rw [hl]; decide)
  have e_4 : n_v (vs ++ [Value.int x]) 4 = n_v vs 4 := n_v_old (by rw [hl]; decide)
  have e_7 : n_v (vs ++ [Value.int x]) 7 = Value.int x := n_v_new hl
  have nf0 : fc_1 PRD (20, [2], [50, 0, 0, 0, 2, 1, 0, 0, 24]) ws (vs ++ [Value.int x]) := by
    refine ⟨nf_inA hl rfl, sgq_1593 ?_⟩
    · show v_iv (n_v (vs ++ [Value.int x]) 2) ≤ 24
      rw [e_2]
      exact vc_Mo_ring_13_0 (v_iv (n_v vs 2)) k2 f0
  have nf1 : fc_1 PRD (20, [2], [50, 0, 0, 0, 2, 0, 0, 1, 0]) ws (vs ++ [Value.int x]) := by
    refine ⟨nf_inA hl rfl, sgq_709 ?_⟩
    · show 0 ≤ v_iv (n_v (vs ++ [Value.int x]) 2)
      rw [e_2]
      exact vc_Mo_ring_13_1 (v_iv (n_v vs 2)) k2 f1
  have nf2 : fc_1 PRD (20, [2], [50, 0, 0, 0, 2, 1, 0, 0, 8]) ws (vs ++ [Value.int x]) := by
    refine ⟨nf_inA hl rfl, sgq_647 ?_⟩
    · show v_iv (n_v (vs ++ [Value.int x]) 2) ≤ 8
      rw [e_2]
      exact vc_Mo_ring_13_2 (v_iv (n_v vs 2)) k2 f2
  have nf3 : fc_1 PRD (20, [0, 2], [60, 0, 1, 322, 96]) ws (vs ++ [Value.int x]) := by
    refine ⟨nf_inA hl rfl, sgq_648 ?_⟩
    · show DIS (w_ei ws (w_ar ws (n_v (vs ++ [Value.int x]) 0) 96)) (v_iv (n_v (vs ++ [Value.int x]) 2))
      simp only [e_0, e_2]
      exact vc_Mo_ring_13_3 (v_iv (n_v vs 2)) (w_ei ws (w_ar ws (n_v vs 0) 96)) k2 f3
  have nf4 : fc_1 PRD (20, [0, 2, 7, 4], [60, 0, 1, 333, 96]) ws (vs ++ [Value.int x]) := by
    refine ⟨nf_inA hl rfl, sgq_1732 ?_⟩
    · show OZ2 (w_ei ws (w_ar ws (n_v (vs ++ [Value.int x]) 0) 96)) (v_iv (n_v (vs ++ [Value.int x]) 2)) (v_iv (n_v (vs ++ [Value.int x]) 7)) (v_iv (n_v (vs ++ [Value.int x]) 4))
      simp only [e_0, e_2, e_4, e_7]
      exact vc_Mo_ring_13_4 (v_iv (n_v vs 2)) (v_iv (n_v vs 4)) (v_iv (n_v vs 6)) (w_ei ws (w_ar ws (n_v vs 0) 96)) (v_iv (Value.int x)) k2 k4 k6 f4 ex2
  obtain ⟨x0, e0, _, _⟩ := tv_int t6 rfl
  have e1 : v_iv (n_v vs 6) = x0.toInt := by rw [e0]; rfl
  have ho : sy_ofs (vs ++ [Value.int x]) (7, 6, -1000000000000, -1) := by
    refine ⟨x, x0, by rw [List.getElem?_append_right (by rw [hl]; decide), hl]; rfl, ?_, ?_, ?_⟩
    · rw [List.getElem?_append_left (by rw [hl]; decide)]; exact n_v_some (by rw [hl]; decide) e0
    · show x0.toInt + (-1000000000000) ≤ x.toInt; omega
    · show x.toInt ≤ x0.toInt + (-1); omega
  exact ⟨(fun _ h => (by cases h)), [Value.int x], ag_one hx, List.forall_mem_cons.mpr ⟨⟨show (20 : Nat) < 100 from by decide, nf0⟩, List.forall_mem_cons.mpr ⟨⟨show (20 : Nat) < 100 from by decide, nf1⟩, List.forall_mem_cons.mpr ⟨⟨show (20 : Nat) < 100 from by decide, nf2⟩, List.forall_mem_cons.mpr ⟨⟨show (20 : Nat) < 100 from by decide, nf3⟩, List.forall_mem_cons.mpr ⟨⟨show (20 : Nat) < 100 from by decide, nf4⟩, (fun _ h => (by cases h))⟩⟩⟩⟩⟩, List.forall_mem_cons.mpr ⟨ho, (fun _ h => (by cases h))⟩⟩
set_option maxHeartbeats 4000000 in
theorem vc_Mo_ring_14_0 (x6 : Int) (k6 : 1 ≤ x6 ∧ x6 ≤ 1) : 1 ≤ x6 := by
  first
    | omega
    | (have h := orm_pos (by omega) (by omega) (‹OZ2 _ _ _ _› (by omega)); omega)
    | (have h := orm_pos (by omega) (by omega) ‹ORM _ _ _›; omega)
def o_Mo_ring_14 : or_T := (159, 7, [(0, (2, 0, 0, [165])), (2, (0, 9, 24, [])), (6, (0, 1, 1, []))], [(20, [2], [50, 0, 0, 0, 2, 1, 0, 0, 24]), (20, [2], [50, 0, 0, 0, 2, 0, 0, 1, 0]), (20, [0, 2], [60, 0, 1, 338, 96])], [], [], [(20, [6], [50, 0, 0, 0, 2, 0, 1, 1, 0])], [], [])
theorem oo_Mo_ring_14 {kA : Nat → ClassId} : or_ok PRD kA GG o_Mo_ring_14 := by
  refine or_mk fun A ta ws vs hD hth hl => ?_
  intro t0 r0 t2 k2 t6 k6 f0 f1 f2
  have nf0 : fc_1 PRD (20, [6], [50, 0, 0, 0, 2, 0, 1, 1, 0]) ws (vs) := ⟨nf_in hl rfl, sgq_697 (vc_Mo_ring_14_0 (v_iv (n_v vs 6)) k6)⟩
  refine ⟨(fun _ h => (by cases h)), [], trivial, ?_, (fun _ h => (by cases h))⟩
  rw [List.append_nil]
  exact List.forall_mem_cons.mpr ⟨⟨show (20 : Nat) < 100 from by decide, nf0⟩, (fun _ h => (by cases h))⟩
set_option maxHeartbeats 4000000 in
theorem vc_Mo_ring_15_0 (x2 : Int) (x5 : Int) (k2 : 9 ≤ x2 ∧ x2 ≤ 24) (k5 : 1 ≤ x5 ∧ x5 ≤ 23) (d0 : x2 + (-4294967296) ≤ x5 ∧ x5 ≤ x2 + (-1)) : (x5 + 1) ≤ x2 := by
  first
    | omega
    | (have h := orm_pos (by omega) (by omega) (‹OZ2 _ _ _ _› (by omega)); omega)
    | (have h := orm_pos (by omega) (by omega) ‹ORM _ _ _›; omega)
def o_Mo_ring_15 : or_T := (169, 6, [(2, (0, 9, 24, [])), (5, (0, 1, 23, []))], [], [], [], [(20, [5, 2], [50, 0, 0, 0, 6, 4, 2, 1, 0, 0, 1, 1, 1])], [], [(5, 2, -4294967296, -1)])
theorem oo_Mo_ring_15 {kA : Nat → ClassId} : or_ok PRD kA GG o_Mo_ring_15 := by
  refine or_mk fun A ta ws vs hD hth hl => ?_
  intro t2 k2 t5 k5 d0
  have nf0 : fc_1 PRD (20, [5, 2], [50, 0, 0, 0, 6, 4, 2, 1, 0, 0, 1, 1, 1]) ws (vs) := ⟨nf_in hl rfl, sgq_409 (vc_Mo_ring_15_0 (v_iv (n_v vs 2)) (v_iv (n_v vs 5)) k2 k5 d0)⟩
  refine ⟨(fun _ h => (by cases h)), [], trivial, ?_, (fun _ h => (by cases h))⟩
  rw [List.append_nil]
  exact List.forall_mem_cons.mpr ⟨⟨show (20 : Nat) < 100 from by decide, nf0⟩, (fun _ h => (by cases h))⟩
set_option maxHeartbeats 4000000 in
theorem vc_Mo_ring_16_0 (x6 : Int) (k6 : 2 ≤ x6 ∧ x6 ≤ 24) : 1 ≤ x6 := by
  first
    | omega
    | (have h := orm_pos (by omega) (by omega) (‹OZ2 _ _ _ _› (by omega)); omega)
    | (have h := orm_pos (by omega) (by omega) ‹ORM _ _ _›; omega)
def o_Mo_ring_16 : or_T := (159, 7, [(0, (2, 0, 0, [165])), (2, (0, 9, 24, [])), (5, (0, 1, 23, [])), (6, (0, 2, 24, []))], [(6, [6, 5], [1]), (20, [5, 2], [50, 0, 0, 0, 6, 4, 2, 1, 0, 0, 1, 1, 1]), (20, [2], [50, 0, 0, 0, 2, 1, 0, 0, 24]), (20, [2], [50, 0, 0, 0, 2, 0, 0, 1, 0]), (20, [5], [50, 0, 0, 0, 2, 0, 1, 1, 0]), (20, [0, 2], [60, 0, 1, 338, 96]), (102, [5], [463168363851011128484847727469507493690105391113671228328216891194176742359040]), (7, [5, 2], [2])], [], [], [(20, [6], [50, 0, 0, 0, 2, 0, 1, 1, 0])], [], [(6, 5, 1, 1), (6, 2, -4294967296, 0), (5, 2, -4294967296, -1)])
theorem oo_Mo_ring_16 {kA : Nat → ClassId} : or_ok PRD kA GG o_Mo_ring_16 := by
  refine or_mk fun A ta ws vs hD hth hl => ?_
  intro t0 r0 t2 k2 t5 k5 t6 k6 d0 d1 d2 f0 f1 f2 f3 f4 f5 ta1 w1 le1 s1 f7
  have nf0 : fc_1 PRD (20, [6], [50, 0, 0, 0, 2, 0, 1, 1, 0]) ws (vs) := ⟨nf_in hl rfl, sgq_697 (vc_Mo_ring_16_0 (v_iv (n_v vs 6)) k6)⟩
  refine ⟨(fun _ h => (by cases h)), [], trivial, ?_, (fun _ h => (by cases h))⟩
  rw [List.append_nil]
  exact List.forall_mem_cons.mpr ⟨⟨show (20 : Nat) < 100 from by decide, nf0⟩, (fun _ h => (by cases h))⟩
def n_Mo_ring_an : List an_T := [(7, [(0, (2, 0, 0, [165])), (1, (0, 0, 3, [])), (2, (0, 0, 24, [])), (3, (0, 0, 24, []))], [], (0, 0), [(0, 0, 99993), (1, 3, 24), (0, 0, 100000), (0, 0, 0), (0, 0, 0)], [(3, 2, (Int.negSucc 999999999999), 0)], [], [], 0, [], [(20, [2], [50, 0, 0, 0, 2, 1, 0, 0, 24]), (20, [2], [50, 0, 0, 0, 2, 0, 0, 1, 0]), (20, [0, 3], [60, 0, 1, 337, 96])]), (38, [(0, (2, 0, 0, [165])), (1, (0, 0, 3, [])), (2, (0, 0, 8, [])), (3, (0, (Int.negSucc 2147483647), 1000000, [])), (4, (0, 0, 1, []))], [], (0, 0), [(0, 0, 99962), (2, 5, (Int.negSucc 1)), (0, 0, 100000), (0, 0, 0), (0, 0, 0)], [], [], [], 0, [(0, (Int.negSucc 1), 16777216, [])], [(20, [2], [50, 0, 0, 0, 2, 1, 0, 0, 24]), (20, [2], [50, 0, 0, 0, 2, 0, 0, 1, 0]), (20, [2], [50, 0, 0, 0, 2, 1, 0, 0, 8]), (20, [0, 2], [60, 0, 1, 322, 96]), (20, [0, 2, 5, 4], [60, 0, 1, 333, 96])]), (62, [(0, (2, 0, 0, [165])), (1, (0, 0, 3, [])), (2, (0, 0, 8, [])), (3, (0, (Int.negSucc 2147483647), 999999, [])), (4, (0, 1, 1, [])), (5, (0, (Int.negSucc 2147483647), 999999, [])), (6, (0, 0, 8, []))], [], (0, 0), [(0, 0, 99962), (2, 7, (Int.negSucc 1)), (0, 0, 99938), (1, 6, 8), (0, 0, 100000)], [(3, 5, (Int.negSucc 999999999999), 0), (5, 3, (Int.negSucc 999999999999), 0), (6, 2, (Int.negSucc 999999999999), 0)], [], [], 0, [(0, (Int.negSucc 1), 16777216, [])], [(20, [2], [50, 0, 0, 0, 2, 1, 0, 0, 24]), (20, [2], [50, 0, 0, 0, 2, 0, 0, 1, 0]), (20, [2], [50, 0, 0, 0, 2, 1, 0, 0, 8]), (20, [0, 2], [60, 0, 1, 322, 96]), (20, [0, 2, 7], [60, 0, 1, 323, 96]), (23, [7], [(Int.negSucc 0), (Int.negSucc 0)])]), (112, [(0, (2, 0, 0, [165])), (1, (0, 0, 3, [])), (2, (0, 0, 8, [])), (3, (0, (Int.negSucc 2147483647), 1000000, [])), (4, (0, 0, 1, [])), (5, (0, (Int.negSucc 2147483647), 2147483647, []))], [], (0, 0), [(0, 0, 99962), (2, 6, (Int.negSucc 1)), (0, 0, 99888), (0, 0, 0), (0, 0, 0)], [(3, 5, (Int.negSucc 999999999999), 0)], [], [], 0, [(0, (Int.negSucc 1), 16777216, [])], [(20, [2], [50, 0, 0, 0, 2, 1, 0, 0, 24]), (20, [2], [50, 0, 0, 0, 2, 0, 0, 1, 0]), (20, [2], [50, 0, 0, 0, 2, 1, 0, 0, 8]), (20, [0, 2], [60, 0, 1, 322, 96]), (20, [0, 2, 6, 4], [60, 0, 1, 324, 96]), (23, [6], [(Int.negSucc 0), (Int.negSucc 0)])]), (118, [(0, (2, 0, 0, [165])), (1, (0, 0, 3, [])), (2, (0, 0, 8, [])), (3, (0, (Int.negSucc 2147483647), 1000000, [])), (4, (0, 0, 0, [])), (5, (0, 0, 8, []))], [], (0, 0), [(0, 0, 99882), (1, 5, 8), (0, 0, 100000), (0, 0, 0), (0, 0, 0)], [(5, 2, (Int.negSucc 999999999999), 0)], [], [], 0, [], [(20, [2], [50, 0, 0, 0, 2, 1, 0, 0, 24]), (20, [2], [50, 0, 0, 0, 2, 0, 0, 1, 0])]), (150, [(0, (2, 0, 0, [165])), (1, (0, 0, 3, [])), (2, (0, 9, 24, [])), (3, (0, 9, 24, [])), (4, (0, 0, 2, []))], [], (0, 0), [(0, 0, 99850), (1, 4, 2), (0, 0, 100000), (0, 0, 0), (0, 0, 0)], [(2, 3, (Int.negSucc 999999999999), 0), (3, 2, (Int.negSucc 999999999999), 0)], [], [], 0, [], [(20, [2], [50, 0, 0, 0, 2, 1, 0, 0, 24]), (20, [2], [50, 0, 0, 0, 2, 0, 0, 1, 0]), (20, [0, 2], [60, 0, 1, 338, 96])]), (159, [(0, (2, 0, 0, [165])), (1, (0, 0, 3, [])), (2, (0, 9, 24, [])), (3, (0, 9, 24, [])), (4, (0, 0, 1, [])), (5, (0, 1, 24, []))], [], (0, 0), [(0, 0, 99850), (1, 4, 2), (0, 0, 99841), (1, 5, 24), (0, 0, 100000)], [(2, 3, (Int.negSucc 999999999999), 0), (3, 2, (Int.negSucc 999999999999), 0)], [], [], 0, [], [(20, [2], [50, 0, 0, 0, 2, 1, 0, 0, 24]), (20, [2], [50, 0, 0, 0, 2, 0, 0, 1, 0]), (20, [0, 2], [60, 0, 1, 338, 96]), (20, [5], [50, 0, 0, 0, 2, 0, 1, 1, 0])]), (193, [(0, (2, 0, 0, [165])), (1, (0, 0, 3, [])), (2, (0, 0, 24, [])), (3, (0, (Int.negSucc 2147483647), 2147483647, [])), (4, (0, 0, 24, []))], [], (0, 0), [(0, 0, 99807), (1, 4, 24), (0, 0, 100000), (0, 0, 0), (0, 0, 0)], [(3, 2, (Int.negSucc 999999999999), 2147483638), (4, 2, (Int.negSucc 999999999999), 0)], [], [], 0, [], [(20, [2], [50, 0, 0, 0, 2, 1, 0, 0, 24]), (20, [2], [50, 0, 0, 0, 2, 0, 0, 1, 0])])]
def t_Mo_ring_ct : ct_L := [(1, 475, e_Mo_nodes), (1, 988, e_Mo_chordCrossings), (1, 991, e_Mo_putBest), (274, 810, e_Mo_nextOrder_at_gx)]
set_option maxRecDepth 100000 in
theorem c_Mo_ring {l : Launch} {D : va_G} {kA : Nat → ClassId} (h_Mo_chordCrossings : ct_ok PRD l D kA GG y_Mo_chordCrossings z_Mo_chordCrossings e_Mo_chordCrossings) (h_Mo_nextOrder_at_gx : ct_ok PRD l D kA GG y_Mo_nextOrder_at_gx z_Mo_nextOrder_at_gx e_Mo_nextOrder_at_gx) (h_Mo_nodes : ct_ok PRD l D kA GG y_Mo_nodes z_Mo_nodes e_Mo_nodes) (h_Mo_putBest : ct_ok PRD l D kA GG y_Mo_putBest z_Mo_putBest e_Mo_putBest) : ct_ok PRD l D kA GG y_Mo_ring z_Mo_ring e_Mo_ring := chk_all_ok (FT := [(138, 13, 67), (159, 13, 74), (162, 13, 75), (213, 13, 96), (216, 13, 97)]) (PT := []) (CT := t_Mo_ring_ct) (KT := [(1, 546, .int (1000000), (0, 1000000, 1000000, []))]) (NT := []) (AN := n_Mo_ring_an) (OT := [o_Mo_ring_0, o_Mo_ring_1, o_Mo_ring_2, o_Mo_ring_3, o_Mo_ring_4, o_Mo_ring_5, o_Mo_ring_6, o_Mo_ring_7, o_Mo_ring_8, o_Mo_ring_9, o_Mo_ring_10, o_Mo_ring_11, o_Mo_ring_12, o_Mo_ring_13, o_Mo_ring_14, o_Mo_ring_15, o_Mo_ring_16]) 5 1364 (List.forall_mem_cons.mpr ⟨oo_Mo_ring_0, List.forall_mem_cons.mpr ⟨oo_Mo_ring_1, List.forall_mem_cons.mpr ⟨oo_Mo_ring_2, List.forall_mem_cons.mpr ⟨oo_Mo_ring_3, List.forall_mem_cons.mpr ⟨oo_Mo_ring_4, List.forall_mem_cons.mpr ⟨oo_Mo_ring_5, List.forall_mem_cons.mpr ⟨oo_Mo_ring_6, List.forall_mem_cons.mpr ⟨oo_Mo_ring_7, List.forall_mem_cons.mpr ⟨oo_Mo_ring_8, List.forall_mem_cons.mpr ⟨oo_Mo_ring_9, List.forall_mem_cons.mpr ⟨oo_Mo_ring_10, List.forall_mem_cons.mpr ⟨oo_Mo_ring_11, List.forall_mem_cons.mpr ⟨oo_Mo_ring_12, List.forall_mem_cons.mpr ⟨oo_Mo_ring_13, List.forall_mem_cons.mpr ⟨oo_Mo_ring_14, List.forall_mem_cons.mpr ⟨oo_Mo_ring_15, List.forall_mem_cons.mpr ⟨oo_Mo_ring_16, List.forall_mem_nil _⟩⟩⟩⟩⟩⟩⟩⟩⟩⟩⟩⟩⟩⟩⟩⟩⟩) (by decide +kernel) ⟨List.forall_mem_cons.mpr ⟨gf_Mo_138, List.forall_mem_cons.mpr ⟨gf_Mo_159, List.forall_mem_cons.mpr ⟨gf_Mo_162, List.forall_mem_cons.mpr ⟨gf_Mo_213, List.forall_mem_cons.mpr ⟨gf_Mo_216, List.forall_mem_nil _⟩⟩⟩⟩⟩, List.forall_mem_nil _, List.forall_mem_cons.mpr ⟨cl_virtual (y := y_Mo_nodes) (ci := 13) rfl rfl ⟨_, _, rfl⟩ (by decide +kernel) h_Mo_nodes wm_3025 wm_9 wm_3022 wm_3024 wv_13_3 ⟨by decide, by decide, by decide +kernel⟩ (by decide), List.forall_mem_cons.mpr ⟨cl_virtual (y := y_Mo_chordCrossings) (ci := 13) rfl rfl ⟨_, _, rfl⟩ (by decide +kernel) h_Mo_chordCrossings wm_3612 wm_9 wm_3609 wm_3611 wv_21_6 ⟨by decide, by decide, by decide +kernel⟩ (by decide), List.forall_mem_cons.mpr ⟨cl_virtual (y := y_Mo_putBest) (ci := 13) rfl rfl ⟨_, _, rfl⟩ (by decide +kernel) h_Mo_putBest wm_3616 wm_9 wm_3613 wm_3615 wv_21_7 ⟨by decide, by decide, by decide +kernel⟩ (by decide), List.forall_mem_cons.mpr ⟨cl_virtual (y := y_Mo_nextOrder_at_gx) (ci := 13) rfl rfl ⟨_, _, rfl⟩ (by decide +kernel) h_Mo_nextOrder_at_gx wm_2432 wm_9 wm_2429 wm_2431 wv_12_10 ⟨by decide, by decide, by decide +kernel⟩ (by decide), List.forall_mem_nil _⟩⟩⟩⟩, List.forall_mem_cons.mpr ⟨kx_Mo_1_546, List.forall_mem_nil _⟩, List.forall_mem_nil _, GG_pl⟩ (by decide +kernel)
set_option maxHeartbeats 4000000 in
theorem vc_Ho_back_0_1 (x1 : Int) (gy : Int) (k1 : 0 ≤ x1 ∧ x1 ≤ 3) (ey2 : gy = x1) : 1 * gy + ((-1) * x1 + 0) ≤ 0 := by
  first
    | omega
  
set_option maxHeartbeats 4000000 in
theorem vc_Ho_back_0_2 (x1 : Int) (gy : Int) (k1 : 0 ≤ x1 ∧ x1 ≤ 3) (ey2 : gy = x1) : (-1) * gy + (1 * x1 + 0) ≤ 0 := by
  first
    | omega
  
def o_Ho_back_0 : or_T := (14, 6, [(0, (2, 0, 0, [12])), (1, (0, 0, 3, [])), (4, (2, 0, 0, [131])), (5, (2, 0, 0, [3]))], [(14, [5, 4, 1], []), (9, [4, 0], [0]), (20, [0], [62, 0])], [], [(2, 0, 0, [12]), (0, 0, 3, [])], [(24, [0, 6], []), (23, [7, 1], [0, 1, -1]), (23, [7, 1], [0, -1, 1]), (20, [6, 7, 5], [62, 71])], [], [])
theorem oo_Ho_back_0 {kA : Nat → ClassId} : or_ok PRD kA GG o_Ho_back_0 := by
  refine or_mk fun A ta ws vs hD hth hl => ?_
  intro t0 r0 t1 k1 t4 r4 t5 r5 f0 f1 f2
  replace f0 := shm_779 f0
  replace f1 := shm_175 f1
  replace f2 := shm_1145 f2
  have cr_0_0 := fdq_303 hD hth r0
  have ad_4 : v_ad (n_v vs 4) = w_ar ws (n_v vs 0) 0 := congrArg v_ad f1
  obtain ⟨y, ey, hy⟩ := iv_ex (ta := ta) (lo := 0) (hi := 3) (z := v_iv (n_v vs 1)) (by omega) (by omega) (by omega) (by omega)
  have ey2 : v_iv (Value.int y) = v_iv (n_v vs 1) := ey
  have ey3 : 0 ≤ v_iv (Value.int y) ∧ v_iv (Value.int y) ≤ 3 := tv_rng hy
  have e_0 : n_v (vs ++ [n_v vs 0, Value.int y]) 0 = n_v vs 0 := n_v_old (by rw [hl]; decide)
  have e_1 : n_v (vs ++ [n_v vs 0, Value.int y]) 1 = n_v vs 1 := n_v_old (by rw [hl]; decide)
  have e_5 : n_v (vs ++ [n_v vs 0, Value.int y]) 5 = n_v vs 5 := n_v_old (by rw [hl]; decide)
  have e_6 : n_v (vs ++ [n_v vs 0, Value.int y]) 6 = n_v vs 0 := n_v_new0 hl
  have e_7 : n_v (vs ++ [n_v vs 0, Value.int y]) 7 = Value.int y := n_v_new1 hl
  have nf0 : fc_1 PRD (24, [0, 6], []) ws (vs ++ [n_v vs 0, Value.int y]) := by
    refine ⟨nf_inA hl rfl, sgq_5 ?_⟩
    · show n_v (vs ++ [n_v vs 0, Value.int y]) 0 = n_v (vs ++ [n_v vs 0, Value.int y]) 6
      first | rfl | simp only [e_0, e_6]
  have nf1 : fc_1 PRD (23, [7, 1], [0, 1, -1]) ws (vs ++ [n_v vs 0, Value.int y]) := by
    refine ⟨nf_inA hl rfl, sgq_7 ?_⟩
    · show 1 * v_iv (n_v (vs ++ [n_v vs 0, Value.int y]) 7) + ((-1) * v_iv (n_v (vs ++ [n_v vs 0, Value.int y]) 1) + 0) ≤ 0
      simp only [e_1, e_7]
      exact vc_Ho_back_0_1 (v_iv (n_v vs 1)) (v_iv (Value.int y)) k1 ey2
  have nf2 : fc_1 PRD (23, [7, 1], [0, -1, 1]) ws (vs ++ [n_v vs 0, Value.int y]) := by
    refine ⟨nf_inA hl rfl, sgq_22 ?_⟩
    · show (-1) * v_iv (n_v (vs ++ [n_v vs 0, Value.int y]) 7) + (1 * v_iv (n_v (vs ++ [n_v vs 0, Value.int y]) 1) + 0) ≤ 0
      simp only [e_1, e_7]
      exact vc_Ho_back_0_2 (v_iv (n_v vs 1)) (v_iv (Value.int y)) k1 ey2
  have nf3 : fc_1 PRD (20, [6, 7, 5], [62, 71]) ws (vs ++ [n_v vs 0, Value.int y]) := by
    refine ⟨nf_inA hl rfl, sgq_1734 ?_⟩
    · show WQF 71 [n_v (vs ++ [n_v vs 0, Value.int y]) 6, n_v (vs ++ [n_v vs 0, Value.int y]) 7, n_v (vs ++ [n_v vs 0, Value.int y]) 5] ws
      simp only [e_5, e_6, e_7]
      have zw := f2
      exact WQF_int (wq_in (zw) (by omega) (by omega) ⟨rfl, rfl⟩ ⟨Or.inr (pO_of f1 f0), trivial⟩) ey2
  exact ⟨(fun _ h => (by cases h)), [n_v vs 0, Value.int y], ag_two t0 hy, List.forall_mem_cons.mpr ⟨⟨show (24 : Nat) < 100 from by decide, nf0⟩, List.forall_mem_cons.mpr ⟨⟨show (23 : Nat) < 100 from by decide, nf1⟩, List.forall_mem_cons.mpr ⟨⟨show (23 : Nat) < 100 from by decide, nf2⟩, List.forall_mem_cons.mpr ⟨⟨show (20 : Nat) < 100 from by decide, nf3⟩, (fun _ h => (by cases h))⟩⟩⟩⟩, (fun _ h => (by cases h))⟩
set_option maxHeartbeats 4000000 in
theorem vc_Ho_back_1_1 (x1 : Int) (k1 : 0 ≤ x1 ∧ x1 ≤ 3) : (0 ≤ x1) ∧ (x1 ≤ 3) := by
  first
    | omega
  
def o_Ho_back_1 : or_T := (24, 10, [(0, (2, 0, 0, [12])), (1, (0, 0, 3, [])), (6, (2, 0, 0, [12])), (7, (0, 0, 3, [])), (9, (0, 1, 1, []))], [(8, [9], [1]), (24, [0, 6], []), (23, [7, 1], [0, 1, -1]), (23, [7, 1], [0, -1, 1]), (20, [6, 7, 9], [62, 17]), (102, [7], [1801158375971487744, 3000, 3001, 3017, 3018]), (23, [7, 1], [0, 1, -1]), (23, [7, 1], [0, -1, 1])], [], [], [(20, [0, 1], [62, 1]), (20, [1], [50, 0, 0, 2, 6, 0, 2, 0, 0, 1, 0, 0, 2, 1, 0, 0, 3])], [], [])
theorem oo_Ho_back_1 {kA : Nat → ClassId} : or_ok PRD kA GG o_Ho_back_1 := by
  refine or_mk fun A ta ws vs hD hth hl => ?_
  intro t0 r0 t1 k1 t6 r6 t7 k7 t9 k9 f0 f1 f2 f3 f4 ta1 w1 le1 s1 f6 f7
  replace f0 := shm_154 f0
  replace f1 := shm_5 f1
  replace f2 := shm_7 f2
  replace f3 := shm_22 f3
  replace f4 := shm_1735 f4
  replace f6 := shm_7 f6
  replace f7 := shm_22 f7
  have q6 : n_v vs 6 = n_v vs 0 := f1.symm
  simp only [q6] at f4
  have nf0 : fc_1 PRD (20, [0, 1], [62, 1]) ws (vs) := by
    refine ⟨nf_in hl rfl, sgq_1141 ?_⟩
    · show WQF 1 [n_v vs 0, n_v vs 1] ws
      have zq := f4
      first | rw [show n_v vs 6 = n_v vs 0 from (by first | exact f1 | exact f1.symm)] at zq | skip
      have zq := WQF_int zq (show v_iv (n_v vs 1) = v_iv (n_v vs 7) by omega)
      exact wq_re zq (by decide) trivial
  have nf1 : fc_1 PRD (20, [1], [50, 0, 0, 2, 6, 0, 2, 0, 0, 1, 0, 0, 2, 1, 0, 0, 3]) ws (vs) := ⟨nf_in hl rfl, sgq_1143 (vc_Ho_back_1_1 (v_iv (n_v vs 1)) k1)⟩
  refine ⟨(fun _ h => (by cases h)), [], trivial, ?_, (fun _ h => (by cases h))⟩
  rw [List.append_nil]
  exact List.forall_mem_cons.mpr ⟨⟨show (20 : Nat) < 100 from by decide, nf0⟩, List.forall_mem_cons.mpr ⟨⟨show (20 : Nat) < 100 from by decide, nf1⟩, (fun _ h => (by cases h))⟩⟩
def o_Ho_back_2 : or_T := (21, 11, [(0, (2, 0, 0, [12])), (6, (2, 0, 0, [12])), (7, (0, 0, 3, [])), (9, (0, 0, 0, []))], [(8, [9], [0]), (24, [0, 6], []), (20, [6, 7, 9], [62, 17])], [], [], [(20, [0], [62, 0])], [], [])
theorem oo_Ho_back_2 {kA : Nat → ClassId} : or_ok PRD kA GG o_Ho_back_2 := by
  refine or_mk fun A ta ws vs hD hth hl => ?_
  intro t0 r0 t6 r6 t7 k7 t9 k9 f0 f1 f2
  replace f0 := shm_210 f0
  replace f1 := shm_5 f1
  replace f2 := shm_1735 f2
  have q6 : n_v vs 6 = n_v vs 0 := f1.symm
  simp only [q6] at f2
  have nf0 : fc_1 PRD (20, [0], [62, 0]) ws (vs) := by
    refine ⟨nf_in hl rfl, sgq_1145 ?_⟩
    · show WQF 0 [n_v vs 0] ws
      have zw := f2
      first | rw [show n_v vs 6 = n_v vs 0 from (by first | exact f1 | exact f1.symm)] at zw | skip
      exact wq_of17 (zw) (by omega)
  refine ⟨(fun _ h => (by cases h)), [], trivial, ?_, (fun _ h => (by cases h))⟩
  rw [List.append_nil]
  exact List.forall_mem_cons.mpr ⟨⟨show (20 : Nat) < 100 from by decide, nf0⟩, (fun _ h => (by cases h))⟩
def n_Ho_back_an : List an_T := []
def t_Ho_back_ct : ct_L := [(0, 115, e_Ho_isPlace), (1, 129, e_Ho_forget), (46, 244, e_Gr_step_f)]
set_option maxRecDepth 100000 in
theorem c_Ho_back {l : Launch} {D : va_G} {kA : Nat → ClassId} (h_Gr_step : ct_ok PRD l D kA GG y_Gr_step z_Gr_step e_Gr_step) (h_Ho_forget : ct_ok PRD l D kA GG y_Ho_forget z_Ho_forget e_Ho_forget) (h_Ho_isPlace : ct_ok PRD l D kA GG y_Ho_isPlace z_Ho_isPlace e_Ho_isPlace) : ct_ok PRD l D kA GG y_Ho_back z_Ho_back e_Ho_back := chk_all_ok (FT := [(13, 12, 0)]) (PT := []) (CT := t_Ho_back_ct) (KT := []) (NT := []) (AN := n_Ho_back_an) (OT := [o_Ho_back_0, o_Ho_back_1, o_Ho_back_2]) 0 200 (List.forall_mem_cons.mpr ⟨oo_Ho_back_0, List.forall_mem_cons.mpr ⟨oo_Ho_back_1, List.forall_mem_cons.mpr ⟨oo_Ho_back_2, List.forall_mem_nil _⟩⟩⟩) (by decide +kernel) ⟨List.forall_mem_cons.mpr ⟨gf_Ho_13, List.forall_mem_nil _⟩, List.forall_mem_nil _, List.forall_mem_cons.mpr ⟨cl_static (y := y_Ho_isPlace) h_Ho_isPlace wm_633 wm_1 wm_631 wm_632 ⟨by decide, by decide, by decide +kernel⟩ (by decide), List.forall_mem_cons.mpr ⟨cl_virtual (y := y_Ho_forget) (ci := 12) rfl rfl ⟨_, _, rfl⟩ (by decide +kernel) h_Ho_forget wm_789 wm_1 wm_786 wm_788 wv_1_13 ⟨by decide, by decide, by decide +kernel⟩ (by decide), List.forall_mem_cons.mpr ⟨cl_virtual (y := y_Gr_step) (ci := 3) rfl rfl ⟨_, _, rfl⟩ (by decide +kernel) (cf_Gr_step h_Gr_step) wm_1005 wm_3 wm_1002 wm_1003 wm_1004 ⟨by decide, by decide, by decide +kernel⟩ (by decide), List.forall_mem_nil _⟩⟩⟩, List.forall_mem_nil _, List.forall_mem_nil _, GG_pl⟩ (by decide +kernel)

set_option maxHeartbeats 4000000 in
theorem vc_Mo_cut_0_0 (pt_0 : Int → Int) (ph_0 : Int → Int) (alive_0 : Int → Int) (rotMany_0 : Int → Int) (rot_0 : Int → Int) (pn_0 : Int) (pm_0 : Int) (f0 : GRI (pn_0) (pm_0) (pt_0) (ph_0) (alive_0) (rotMany_0) (rot_0)) (kz_0_31 : 0 ≤ pn_0 ∧ pn_0 ≤ 25) (kz_0_32 : 0 ≤ pm_0 ∧ pm_0 ≤ 80) : GOK (pn_0) (pm_0) (pt_0) (ph_0) := by
  exact ‹GRI _ _ _ _ _ _ _›.1.1
set_option maxHeartbeats 4000000 in
theorem vc_Mo_cut_0_1 (pt_0 : Int → Int) (ph_0 : Int → Int) (alive_0 : Int → Int) (rotMany_0 : Int → Int) (rot_0 : Int → Int) (pn_0 : Int) (pm_0 : Int) (f0 : GRI (pn_0) (pm_0) (pt_0) (ph_0) (alive_0) (rotMany_0) (rot_0)) (kz_0_31 : 0 ≤ pn_0 ∧ pn_0 ≤ 25) (kz_0_32 : 0 ≤ pm_0 ∧ pm_0 ≤ 80) : EML (pn_0) (pm_0) (pt_0) (ph_0) (alive_0) (rotMany_0) (rot_0) := by
  exact eml_rot.2 ‹GRI _ _ _ _ _ _ _›.2.2
def o_Mo_cut_0 : or_T := (1, 2, [(0, (2, 0, 0, [165]))], [(20, [0], [60, 2, 5, 261, 31, 32, 33, 34, 35, 36, 37])], [], [], [(20, [0], [60, 2, 2, 75, 31, 32, 33, 34]), (20, [0], [60, 2, 5, 187, 31, 32, 33, 34, 35, 36, 37])], [], [])
theorem oo_Mo_cut_0 {kA : Nat → ClassId} : or_ok PRD kA GG o_Mo_cut_0 := by
  refine or_mk fun A ta ws vs hD hth hl => ?_
  intro t0 r0 f0
  have kz_0_31 := fdq_144 hD hth r0
  have kz_0_32 := fdq_139 hD hth r0
  have nf0 : fc_1 PRD (20, [0], [60, 2, 2, 75, 31, 32, 33, 34]) ws (vs) := ⟨nf_in hl rfl, sgq_563 (vc_Mo_cut_0_0 (w_ei ws (w_ar ws (n_v vs 0) 33)) (w_ei ws (w_ar ws (n_v vs 0) 34)) (w_ei ws (w_ar ws (n_v vs 0) 35)) (w_ei ws (w_ar ws (n_v vs 0) 36)) (w_ei ws (w_ar ws (n_v vs 0) 37)) (w_fi ws (n_v vs 0) 31) (w_fi ws (n_v vs 0) 32) (shm_678 f0) kz_0_31 kz_0_32)⟩
  have nf1 : fc_1 PRD (20, [0], [60, 2, 5, 187, 31, 32, 33, 34, 35, 36, 37]) ws (vs) := ⟨nf_in hl rfl, sgq_982 (vc_Mo_cut_0_1 (w_ei ws (w_ar ws (n_v vs 0) 33)) (w_ei ws (w_ar ws (n_v vs 0) 34)) (w_ei ws (w_ar ws (n_v vs 0) 35)) (w_ei ws (w_ar ws (n_v vs 0) 36)) (w_ei ws (w_ar ws (n_v vs 0) 37)) (w_fi ws (n_v vs 0) 31) (w_fi ws (n_v vs 0) 32) (shm_678 f0) kz_0_31 kz_0_32)⟩
  refine ⟨(fun _ h => (by cases h)), [], trivial, ?_, (fun _ h => (by cases h))⟩
  rw [List.append_nil]
  exact List.forall_mem_cons.mpr ⟨⟨show (20 : Nat) < 100 from by decide, nf0⟩, List.forall_mem_cons.mpr ⟨⟨show (20 : Nat) < 100 from by decide, nf1⟩, (fun _ h => (by cases h))⟩⟩
set_option maxHeartbeats 4000000 in
theorem vc_Mo_cut_1_0 (x2 : Int) (roundBegin_0 : Int → Int) (k2 : 0 ≤ x2 ∧ x2 ≤ 0) : CT1 (roundBegin_0) (x2) := by
  first
    | (intro g a b; exfalso; omega)
    | (intro g a b
       by_cases q : g = x3
       · rw [q, ← (by omega : x8 = x3 + 1)]; omega
       · exact ‹CT1 _ _› g a (by omega))
    | exact (ct2_no (f := x3) ‹GRI _ _ _ _ _ _ _› ‹CON _ _ _ _ _› (by omega) ‹GRD _ _ _ _ _ _ _ _ _ _› (by omega) (by omega) ‹CT2 _ _ _ _ _ _ _ _ _› (by omega)).elim
def o_Mo_cut_1 : or_T := (6, 3, [(2, (0, 0, 0, []))], [], [], [], [(20, [0, 2], [60, 0, 1, 271, 56]), (24, [0, 0], [])], [], [])
theorem oo_Mo_cut_1 {kA : Nat → ClassId} : or_ok PRD kA GG o_Mo_cut_1 := by
  refine or_mk fun A ta ws vs hD hth hl => ?_
  intro t2 k2
  have nf0 : fc_1 PRD (20, [0, 2], [60, 0, 1, 271, 56]) ws (vs) := ⟨nf_in hl rfl, sgq_1737 (vc_Mo_cut_1_0 (v_iv (n_v vs 2)) (w_ei ws (w_ar ws (n_v vs 0) 56)) k2)⟩
  have nf1 : fc_1 PRD (24, [0, 0], []) ws (vs) := by
    refine ⟨nf_in hl rfl, sgq_1 ?_⟩
    · show n_v vs 0 = n_v vs 0
      first | rfl | simp only [true_and]
  refine ⟨(fun _ h => (by cases h)), [], trivial, ?_, (fun _ h => (by cases h))⟩
  rw [List.append_nil]
  exact List.forall_mem_cons.mpr ⟨⟨show (20 : Nat) < 100 from by decide, nf0⟩, List.forall_mem_cons.mpr ⟨⟨show (24 : Nat) < 100 from by decide, nf1⟩, (fun _ h => (by cases h))⟩⟩
set_option maxHeartbeats 4000000 in
theorem vc_Mo_cut_2_0 (pt_0 : Int → Int) (ph_0 : Int → Int) (pn_0 : Int) (pm_0 : Int) (alive_0 : Int → Int) (rotMany_0 : Int → Int) (rot_0 : Int → Int) (f3 : GRI (pn_0) (pm_0) (pt_0) (ph_0) (alive_0) (rotMany_0) (rot_0)) (kz_0_31 : 0 ≤ pn_0 ∧ pn_0 ≤ 25) (kz_0_32 : 0 ≤ pm_0 ∧ pm_0 ≤ 80) : GRI (pn_0) (pm_0) (pt_0) (ph_0) (alive_0) (rotMany_0) (rot_0) := by
  assumption
set_option maxHeartbeats 4000000 in
theorem vc_Mo_cut_2_1 (pt_0 : Int → Int) (ph_0 : Int → Int) (pn_0 : Int) (pm_0 : Int) (alive_0 : Int → Int) (f4 : CON (pn_0) (pm_0) (pt_0) (ph_0) (alive_0)) (kz_0_31 : 0 ≤ pn_0 ∧ pn_0 ≤ 25) (kz_0_32 : 0 ≤ pm_0 ∧ pm_0 ≤ 80) : CON (pn_0) (pm_0) (pt_0) (ph_0) (alive_0) := by
  assumption
set_option maxHeartbeats 4000000 in
theorem vc_Mo_cut_2_2 (x3 : Int) (x5 : Int) (x6 : Int) (rounds_0 : Int) (pt_0 : Int → Int) (ph_0 : Int → Int) (pn_0 : Int) (pm_0 : Int) (alive_0 : Int → Int) (rotMany_0 : Int → Int) (rot_0 : Int → Int) (roundOf_0 : Int → Int) (roundBegin_0 : Int → Int) (roundDart_0 : Int → Int) (k3 : 0 ≤ x3 ∧ x3 ≤ 160) (k5 : 0 ≤ x5 ∧ x5 ≤ 160) (k6 : 0 ≤ x6 ∧ x6 ≤ 0) (d0 : x5 + 0 ≤ x3 ∧ x3 ≤ x5 + 4294967296) (g1 : x5 = rounds_0) (f3 : GRI (pn_0) (pm_0) (pt_0) (ph_0) (alive_0) (rotMany_0) (rot_0)) (f4 : CON (pn_0) (pm_0) (pt_0) (ph_0) (alive_0)) (f5 : 3 ≤ pn_0) (f7 : GRD (pm_0) (rounds_0) (pt_0) (ph_0) (alive_0) (rotMany_0) (rot_0) (roundOf_0) (roundBegin_0) (roundDart_0)) (f8 : CT1 (roundBegin_0) (x3)) (kz_0_31 : 0 ≤ pn_0 ∧ pn_0 ≤ 25) (kz_0_32 : 0 ≤ pm_0 ∧ pm_0 ≤ 80) (kz_0_53 : 0 ≤ rounds_0 ∧ rounds_0 ≤ 160) : CUA (pm_0) (pt_0) (ph_0) (alive_0) (rotMany_0) (rot_0) (x6) := by
  first
    | exact fun _ => ftr_of ‹GRI _ _ _ _ _ _ _› ‹CON _ _ _ _ _› (by omega) ‹GRD _ _ _ _ _ _ _ _ _ _› ‹CT1 _ _› (by omega)
    | (intro z; exfalso; omega)
set_option maxHeartbeats 4000000 in
theorem vc_Mo_cut_2_3 (x1 : Int) (x6 : Int) (pm_0 : Int) (k1 : 0 ≤ x1 ∧ x1 ≤ 80) (k6 : 0 ≤ x6 ∧ x6 ≤ 0) (f6 : pm_0 = x1) (kz_0_32 : 0 ≤ pm_0 ∧ pm_0 ≤ 80) : (x6 ≠ 0) → (pm_0 = (x1 + 1)) := by
  first
    | omega
    | (have h := euler_m ‹GRI _ _ _ _ _ _ _› ‹CON _ _ _ _ _› (by omega) ‹GRD _ _ _ _ _ _ _ _ _ _›
       omega)
set_option maxHeartbeats 4000000 in
theorem vc_Mo_cut_2_4 (x1 : Int) (x6 : Int) (pm_0 : Int) (k1 : 0 ≤ x1 ∧ x1 ≤ 80) (k6 : 0 ≤ x6 ∧ x6 ≤ 0) (f6 : pm_0 = x1) (kz_0_32 : 0 ≤ pm_0 ∧ pm_0 ≤ 80) : (x6 = 0) → (pm_0 = x1) := by
  first
    | omega
    | (have h := euler_m ‹GRI _ _ _ _ _ _ _› ‹CON _ _ _ _ _› (by omega) ‹GRD _ _ _ _ _ _ _ _ _ _›
       omega)
def o_Mo_cut_2 : or_T := (165, 7, [(0, (2, 0, 0, [165])), (1, (0, 0, 80, [])), (3, (0, 0, 160, [])), (5, (0, 0, 160, [])), (6, (0, 0, 0, []))], [(9, [5, 2], [53]), (20, [2], [60, 2, 5, 261, 31, 32, 33, 34, 35, 36, 37]), (20, [2], [60, 2, 3, 264, 31, 32, 33, 34, 35]), (20, [2], [50, 1, 0, 31, 0, 2, 0, 3, 2, 0, 31]), (20, [2, 1], [50, 1, 0, 32, 1, 3, 2, 0, 32, 1, 1]), (20, [2], [60, 2, 8, 193, 32, 53, 33, 34, 35, 36, 37, 54, 56, 57]), (20, [2, 3], [60, 0, 1, 271, 56]), (24, [0, 2], [])], [], [], [(20, [0], [60, 2, 5, 261, 31, 32, 33, 34, 35, 36, 37]), (20, [0], [60, 2, 3, 264, 31, 32, 33, 34, 35]), (20, [0, 6], [60, 1, 5, 273, 32, 33, 34, 35, 36, 37]), (20, [6, 0, 1], [50, 1, 0, 1032, 4, 6, 7, 2, 1, 0, 0, 0, 1, 3, 2, 1, 32, 4, 2, 1, 2, 0, 1]), (20, [6, 0, 1], [50, 1, 0, 1032, 4, 6, 1, 2, 1, 0, 0, 0, 1, 3, 2, 1, 32, 1, 2])], [], [(3, 5, 0, 4294967296)])
theorem oo_Mo_cut_2 {kA : Nat → ClassId} : or_ok PRD kA GG o_Mo_cut_2 := by
  refine or_mk fun A ta ws vs hD hth hl => ?_
  intro t0 r0 t1 k1 t3 k3 t5 k5 t6 k6 d0 f1 f3 f4 f5 f6 f7 f8 f9
  replace f1 := shm_1101 f1
  replace f3 := shm_678 f3
  replace f4 := shm_643 f4
  replace f5 := shm_1736 f5
  replace f6 := shm_644 f6
  replace f7 := shm_1103 f7
  replace f8 := shm_1737 f8
  replace f9 := shm_5 f9
  have q2 : n_v vs 2 = n_v vs 0 := f9.symm
  simp only [q2] at f1 f3 f4 f5 f6 f7 f8
  have g1 : v_iv (n_v vs 5) = w_fi ws (n_v vs 0) 53 := congrArg v_iv f1
  have kz_0_31 := fdq_144 hD hth r0
  have kz_0_32 := fdq_139 hD hth r0
  have kz_0_53 := fdq_267 hD hth r0
  have nf0 : fc_1 PRD (20, [0], [60, 2, 5, 261, 31, 32, 33, 34, 35, 36, 37]) ws (vs) := ⟨nf_in hl rfl, sgq_678 (vc_Mo_cut_2_0 (w_ei ws (w_ar ws (n_v vs 0) 33)) (w_ei ws (w_ar ws (n_v vs 0) 34)) (w_fi ws (n_v vs 0) 31) (w_fi ws (n_v vs 0) 32) (w_ei ws (w_ar ws (n_v vs 0) 35)) (w_ei ws (w_ar ws (n_v vs 0) 36)) (w_ei ws (w_ar ws (n_v vs 0) 37)) f3 kz_0_31 kz_0_32)⟩
  have nf1 : fc_1 PRD (20, [0], [60, 2, 3, 264, 31, 32, 33, 34, 35]) ws (vs) := ⟨nf_in hl rfl, sgq_643 (vc_Mo_cut_2_1 (w_ei ws (w_ar ws (n_v vs 0) 33)) (w_ei ws (w_ar ws (n_v vs 0) 34)) (w_fi ws (n_v vs 0) 31) (w_fi ws (n_v vs 0) 32) (w_ei ws (w_ar ws (n_v vs 0) 35)) f4 kz_0_31 kz_0_32)⟩
  have nf2 : fc_1 PRD (20, [0, 6], [60, 1, 5, 273, 32, 33, 34, 35, 36, 37]) ws (vs) := ⟨nf_in hl rfl, sgq_1738 (vc_Mo_cut_2_2 (v_iv (n_v vs 3)) (v_iv (n_v vs 5)) (v_iv (n_v vs 6)) (w_fi ws (n_v vs 0) 53) (w_ei ws (w_ar ws (n_v vs 0) 33)) (w_ei ws (w_ar ws (n_v vs 0) 34)) (w_fi ws (n_v vs 0) 31) (w_fi ws (n_v vs 0) 32) (w_ei ws (w_ar ws (n_v vs 0) 35)) (w_ei ws (w_ar ws (n_v vs 0) 36)) (w_ei ws (w_ar ws (n_v vs 0) 37)) (w_ei ws (w_ar ws (n_v vs 0) 54)) (w_ei ws (w_ar ws (n_v vs 0) 56)) (w_ei ws (w_ar ws (n_v vs 0) 57)) k3 k5 k6 d0 g1 f3 f4 f5 f7 f8 kz_0_31 kz_0_32 kz_0_53)⟩
  have nf3 : fc_1 PRD (20, [6, 0, 1], [50, 1, 0, 1032, 4, 6, 7, 2, 1, 0, 0, 0, 1, 3, 2, 1, 32, 4, 2, 1, 2, 0, 1]) ws (vs) := ⟨nf_in hl rfl, sgq_1739 (vc_Mo_cut_2_3 (v_iv (n_v vs 1)) (v_iv (n_v vs 6)) (w_fi ws (n_v vs 0) 32) k1 k6 f6 kz_0_32)⟩
  have nf4 : fc_1 PRD (20, [6, 0, 1], [50, 1, 0, 1032, 4, 6, 1, 2, 1, 0, 0, 0, 1, 3, 2, 1, 32, 1, 2]) ws (vs) := ⟨nf_in hl rfl, sgq_1740 (vc_Mo_cut_2_4 (v_iv (n_v vs 1)) (v_iv (n_v vs 6)) (w_fi ws (n_v vs 0) 32) k1 k6 f6 kz_0_32)⟩
  refine ⟨(fun _ h => (by cases h)), [], trivial, ?_, (fun _ h => (by cases h))⟩
  rw [List.append_nil]
  exact List.forall_mem_cons.mpr ⟨⟨show (20 : Nat) < 100 from by decide, nf0⟩, List.forall_mem_cons.mpr ⟨⟨show (20 : Nat) < 100 from by decide, nf1⟩, List.forall_mem_cons.mpr ⟨⟨show (20 : Nat) < 100 from by decide, nf2⟩, List.forall_mem_cons.mpr ⟨⟨show (20 : Nat) < 100 from by decide, nf3⟩, List.forall_mem_cons.mpr ⟨⟨show (20 : Nat) < 100 from by decide, nf4⟩, (fun _ h => (by cases h))⟩⟩⟩⟩⟩
set_option maxHeartbeats 4000000 in
theorem vc_Mo_cut_3_0 (x3 : Int) (x5 : Int) (x8 : Int) (x9 : Int) (x10 : Int) (x11 : Int) (x13 : Int) (roundBegin_0 : Int → Int) (pt_0 : Int → Int) (ph_0 : Int → Int) (pm_0 : Int) (alive_0 : Int → Int) (roundDart_0 : Int → Int) (k3 : 0 ≤ x3 ∧ x3 ≤ 159) (k8 : 1 ≤ x8 ∧ x8 ≤ 160) (k9 : 4 ≤ x9 ∧ x9 ≤ 160) (k10 : 0 ≤ x10 ∧ x10 ≤ 160) (k11 : 4 ≤ x11 ∧ x11 ≤ 160) (k13 : 0 ≤ x13 ∧ x13 ≤ 0) (d1 : x3 + 1 ≤ x8 ∧ x8 ≤ x3 + 1) (f1 : x11 = x9 - x10) (h2 : x10 = roundBegin_0 (x3)) (h4 : x9 = roundBegin_0 (x8)) (kz_0_32 : 0 ≤ pm_0 ∧ pm_0 ≤ 80) : CT2 (pm_0) (pt_0) (ph_0) (alive_0) (roundBegin_0) (roundDart_0) (x3) (x11) (x13) := by
  first
    | exact ⟨⟨by rw [← (by omega : x8 = x3 + 1)]; omega, by omega⟩, fun t a b => by exfalso; omega⟩
    | (have e1 : x15 = nr x4 x5 := by
         rw [‹x15 = Int.tmod x14 x4›, Int.tmod_eq_emod_of_nonneg (by omega), show x14 = x5 + 1 by omega]; exact nr_m1 (by omega) (by omega)
       exact ct2_next (d := x11) (x := x17) (r := 0) ‹CT2 _ _ _ _ _ _ _ _ _› (by omega) (by rw [← (by omega : x10 = roundBegin_0 x3 + x5)]; assumption) (by rw [← e1, ← (by omega : x16 = roundBegin_0 x3 + x15)]; assumption) ‹DFR _ _ _ _› ‹DTO _ _ _ _› (Or.inl (by omega)))
    | (have e1 : x15 = nr x4 x5 := by
         rw [‹x15 = Int.tmod x14 x4›, Int.tmod_eq_emod_of_nonneg (by omega), show x14 = x5 + 1 by omega]; exact nr_m1 (by omega) (by omega)
       exact ct2_next (d := x11) (x := x17) ‹CT2 _ _ _ _ _ _ _ _ _› (by omega) (by rw [← (by omega : x10 = roundBegin_0 x3 + x5)]; assumption) (by rw [← e1, ← (by omega : x16 = roundBegin_0 x3 + x15)]; assumption) ‹DFR _ _ _ _› ‹DTO _ _ _ _› (Or.inr ⟨‹EOF _ _ _ _ _ _ _›, by omega⟩))
set_option maxHeartbeats 4000000 in
theorem vc_Mo_cut_3_1 (x3 : Int) (x5 : Int) (x8 : Int) (rounds_0 : Int) (k3 : 0 ≤ x3 ∧ x3 ≤ 159) (k5 : 1 ≤ x5 ∧ x5 ≤ 160) (k8 : 1 ≤ x8 ∧ x8 ≤ 160) (d1 : x3 + 1 ≤ x8 ∧ x8 ≤ x3 + 1) (d2 : x5 + (-4294967296) ≤ x8 ∧ x8 ≤ x5 + 0) (d3 : x5 + (-4294967296) ≤ x3 ∧ x3 ≤ x5 + (-1)) (g7 : x5 = rounds_0) (kz_0_53 : 0 ≤ rounds_0 ∧ rounds_0 ≤ 160) : 1 * x3 + ((-1) * rounds_0 + 0) ≤ (-1) := by
  first
    | omega
    | (have h := euler_m ‹GRI _ _ _ _ _ _ _› ‹CON _ _ _ _ _› (by omega) ‹GRD _ _ _ _ _ _ _ _ _ _›
       omega)
def o_Mo_cut_3 : or_T := (40, 14, [(0, (2, 0, 0, [165])), (3, (0, 0, 159, [])), (5, (0, 1, 160, [])), (8, (0, 1, 160, [])), (9, (0, 4, 160, [])), (10, (0, 0, 160, [])), (11, (0, 4, 160, [])), (13, (0, 0, 0, []))], [(2, [11, 9, 10], []), (10, [10, 6, 3], []), (9, [6, 2], [56]), (10, [9, 6, 8], []), (9, [5, 2], [53]), (24, [0, 2], [])], [], [], [(20, [2, 3, 11, 13], [60, 1, 5, 272, 32, 33, 34, 35, 56, 57]), (20, [3, 2], [30, -1, 1, 0, 0, -1, 1, 53])], [], [(8, 3, 1, 1), (8, 5, -4294967296, 0), (3, 5, -4294967296, -1)])
theorem oo_Mo_cut_3 {kA : Nat → ClassId} : or_ok PRD kA GG o_Mo_cut_3 := by
  refine or_mk fun A ta ws vs hD hth hl => ?_
  intro t0 r0 t3 k3 t5 k5 t8 k8 t9 k9 t10 k10 t11 k11 t13 k13 d1 d2 d3 f1 f2 f3 f4 f7 f15
  replace f1 := shm_14 f1
  replace f2 := shm_106 f2
  replace f3 := shm_1102 f3
  replace f4 := shm_106 f4
  replace f7 := shm_1101 f7
  replace f15 := shm_5 f15
  have q2 : n_v vs 2 = n_v vs 0 := f15.symm
  simp only [q2] at f3 f7
  have ad_6 : v_ad (n_v vs 6) = w_ar ws (n_v vs 0) 56 := congrArg v_ad f3
  simp only [ad_6] at f2
  have h2 : v_iv (n_v vs 10) = w_ei ws (w_ar ws (n_v vs 0) 56) (v_iv (n_v vs 3)) := f2
  simp only [ad_6] at f4
  have h4 : v_iv (n_v vs 9) = w_ei ws (w_ar ws (n_v vs 0) 56) (v_iv (n_v vs 8)) := f4
  have g7 : v_iv (n_v vs 5) = w_fi ws (n_v vs 0) 53 := congrArg v_iv f7
  have kz_0_32 := fdq_139 hD hth r0
  have kz_0_53 := fdq_267 hD hth r0
  have nf0 : fc_1 PRD (20, [2, 3, 11, 13], [60, 1, 5, 272, 32, 33, 34, 35, 56, 57]) ws (vs) := by
    refine ⟨nf_in hl rfl, sgq_1741 ?_⟩
    · show CT2 (w_fi ws (n_v vs 2) 32) (w_ei ws (w_ar ws (n_v vs 2) 33)) (w_ei ws (w_ar ws (n_v vs 2) 34)) (w_ei ws (w_ar ws (n_v vs 2) 35)) (w_ei ws (w_ar ws (n_v vs 2) 56)) (w_ei ws (w_ar ws (n_v vs 2) 57)) (v_iv (n_v vs 3)) (v_iv (n_v vs 11)) (v_iv (n_v vs 13))
      rw [q2]
      exact vc_Mo_cut_3_0 (v_iv (n_v vs 3)) (v_iv (n_v vs 5)) (v_iv (n_v vs 8)) (v_iv (n_v vs 9)) (v_iv (n_v vs 10)) (v_iv (n_v vs 11)) (v_iv (n_v vs 13)) (w_ei ws (w_ar ws (n_v vs 0) 56)) (w_ei ws (w_ar ws (n_v vs 0) 33)) (w_ei ws (w_ar ws (n_v vs 0) 34)) (w_fi ws (n_v vs 0) 32) (w_ei ws (w_ar ws (n_v vs 0) 35)) (w_ei ws (w_ar ws (n_v vs 0) 57)) k3 k8 k9 k10 k11 k13 d1 f1 h2 h4 kz_0_32
  have nf1 : fc_1 PRD (20, [3, 2], [30, -1, 1, 0, 0, -1, 1, 53]) ws (vs) := by
    refine ⟨nf_in hl rfl, sgq_1742 ?_⟩
    · show 1 * v_iv (n_v vs 3) + ((-1) * w_fi ws (n_v vs 2) 53 + 0) ≤ (-1)
      rw [q2]
      exact vc_Mo_cut_3_1 (v_iv (n_v vs 3)) (v_iv (n_v vs 5)) (v_iv (n_v vs 8)) (w_fi ws (n_v vs 0) 53) k3 k5 k8 d1 d2 d3 g7 kz_0_53
  refine ⟨(fun _ h => (by cases h)), [], trivial, ?_, (fun _ h => (by cases h))⟩
  rw [List.append_nil]
  exact List.forall_mem_cons.mpr ⟨⟨show (20 : Nat) < 100 from by decide, nf0⟩, List.forall_mem_cons.mpr ⟨⟨show (20 : Nat) < 100 from by decide, nf1⟩, (fun _ h => (by cases h))⟩⟩
set_option maxHeartbeats 4000000 in
theorem vc_Mo_cut_4_0 (x3 : Int) (x8 : Int) (x9 : Int) (x10 : Int) (x11 : Int) (x13 : Int) (roundBegin_0 : Int → Int) (k3 : 0 ≤ x3 ∧ x3 ≤ 159) (k8 : 1 ≤ x8 ∧ x8 ≤ 160) (k9 : 0 ≤ x9 ∧ x9 ≤ 160) (k10 : 0 ≤ x10 ∧ x10 ≤ 160) (k11 : (-160) ≤ x11 ∧ x11 ≤ 3) (k13 : 1 ≤ x13 ∧ x13 ≤ 160) (d0 : x3 + 1 ≤ x13 ∧ x13 ≤ x3 + 1) (d3 : x3 + 1 ≤ x8 ∧ x8 ≤ x3 + 1) (f2 : x11 = x9 - x10) (h3 : x10 = roundBegin_0 (x3)) (h5 : x9 = roundBegin_0 (x8)) (f15 : CT1 (roundBegin_0) (x3)) : CT1 (roundBegin_0) (x13) := by
  first
    | (intro g a b; exfalso; omega)
    | (intro g a b
       by_cases q : g = x3
       · rw [q, ← (by omega : x8 = x3 + 1)]; omega
       · exact ‹CT1 _ _› g a (by omega))
    | exact (ct2_no (f := x3) ‹GRI _ _ _ _ _ _ _› ‹CON _ _ _ _ _› (by omega) ‹GRD _ _ _ _ _ _ _ _ _ _› (by omega) (by omega) ‹CT2 _ _ _ _ _ _ _ _ _› (by omega)).elim
def o_Mo_cut_4 : or_T := (6, 14, [(3, (0, 0, 159, [])), (8, (0, 1, 160, [])), (9, (0, 0, 160, [])), (10, (0, 0, 160, [])), (11, (0, -160, 3, [])), (13, (0, 1, 160, []))], [(2, [11, 9, 10], []), (10, [10, 6, 3], []), (9, [6, 2], [56]), (10, [9, 6, 8], []), (20, [2, 3], [60, 0, 1, 271, 56]), (24, [0, 2], [])], [], [], [(20, [2, 13], [60, 0, 1, 271, 56])], [], [(13, 3, 1, 1), (8, 3, 1, 1)])
theorem oo_Mo_cut_4 {kA : Nat → ClassId} : or_ok PRD kA GG o_Mo_cut_4 := by
  refine or_mk fun A ta ws vs hD hth hl => ?_
  intro t3 k3 t8 k8 t9 k9 t10 k10 t11 k11 t13 k13 d0 d3 f2 f3 f4 f5 f15 f16
  replace f2 := shm_14 f2
  replace f3 := shm_106 f3
  replace f4 := shm_1102 f4
  replace f5 := shm_106 f5
  replace f15 := shm_1737 f15
  replace f16 := shm_5 f16
  have q2 : n_v vs 2 = n_v vs 0 := f16.symm
  simp only [q2] at f4 f15
  have ad_6 : v_ad (n_v vs 6) = w_ar ws (n_v vs 0) 56 := congrArg v_ad f4
  simp only [ad_6] at f3
  have h3 : v_iv (n_v vs 10) = w_ei ws (w_ar ws (n_v vs 0) 56) (v_iv (n_v vs 3)) := f3
  simp only [ad_6] at f5
  have h5 : v_iv (n_v vs 9) = w_ei ws (w_ar ws (n_v vs 0) 56) (v_iv (n_v vs 8)) := f5
  have nf0 : fc_1 PRD (20, [2, 13], [60, 0, 1, 271, 56]) ws (vs) := by
    refine ⟨nf_in hl rfl, sgq_1737 ?_⟩
    · show CT1 (w_ei ws (w_ar ws (n_v vs 2) 56)) (v_iv (n_v vs 13))
      rw [q2]
      exact vc_Mo_cut_4_0 (v_iv (n_v vs 3)) (v_iv (n_v vs 8)) (v_iv (n_v vs 9)) (v_iv (n_v vs 10)) (v_iv (n_v vs 11)) (v_iv (n_v vs 13)) (w_ei ws (w_ar ws (n_v vs 0) 56)) k3 k8 k9 k10 k11 k13 d0 d3 f2 h3 h5 f15
  refine ⟨(fun _ h => (by cases h)), [], trivial, ?_, (fun _ h => (by cases h))⟩
  rw [List.append_nil]
  exact List.forall_mem_cons.mpr ⟨⟨show (20 : Nat) < 100 from by decide, nf0⟩, (fun _ h => (by cases h))⟩
set_option maxHeartbeats 4000000 in
theorem vc_Mo_cut_5_0 (x3 : Int) (x4 : Int) (x5 : Int) (x7 : Int) (pt_0 : Int → Int) (ph_0 : Int → Int) (pn_0 : Int) (pm_0 : Int) (alive_0 : Int → Int) (rotMany_0 : Int → Int) (rot_0 : Int → Int) (roundOf_0 : Int → Int) (roundBegin_0 : Int → Int) (roundDart_0 : Int → Int) (rounds_0 : Int) (k3 : 0 ≤ x3 ∧ x3 ≤ 159) (k4 : 4 ≤ x4 ∧ x4 ≤ 160) (k5 : 4 ≤ x5 ∧ x5 ≤ 160) (k7 : 1 ≤ x7 ∧ x7 ≤ 160) (d0 : x3 + 1 ≤ x7 ∧ x7 ≤ x3 + 1) (f1 : x4 ≤ x5) (f3 : GRI (pn_0) (pm_0) (pt_0) (ph_0) (alive_0) (rotMany_0) (rot_0)) (f4 : CON (pn_0) (pm_0) (pt_0) (ph_0) (alive_0)) (f5 : 3 ≤ pn_0) (f7 : GRD (pm_0) (rounds_0) (pt_0) (ph_0) (alive_0) (rotMany_0) (rot_0) (roundOf_0) (roundBegin_0) (roundDart_0)) (f9 : CT2 (pm_0) (pt_0) (ph_0) (alive_0) (roundBegin_0) (roundDart_0) (x3) (x4) (x5)) (f10 : 1 * x3 + ((-1) * rounds_0 + 0) ≤ (-1)) (kz_0_31 : 0 ≤ pn_0 ∧ pn_0 ≤ 25) (kz_0_32 : 0 ≤ pm_0 ∧ pm_0 ≤ 80) (kz_0_53 : 0 ≤ rounds_0 ∧ rounds_0 ≤ 160) : CT1 (roundBegin_0) (x7) := by
  first
    | (intro g a b; exfalso; omega)
    | (intro g a b
       by_cases q : g = x3
       · rw [q, ← (by omega : x8 = x3 + 1)]; omega
       · exact ‹CT1 _ _› g a (by omega))
    | exact (ct2_no (f := x3) ‹GRI _ _ _ _ _ _ _› ‹CON _ _ _ _ _› (by omega) ‹GRD _ _ _ _ _ _ _ _ _ _› (by omega) (by omega) ‹CT2 _ _ _ _ _ _ _ _ _› (by omega)).elim
def o_Mo_cut_5 : or_T := (6, 8, [(0, (2, 0, 0, [165])), (3, (0, 0, 159, [])), (4, (0, 4, 160, [])), (5, (0, 4, 160, [])), (7, (0, 1, 160, []))], [(7, [5, 4], [3]), (20, [2], [60, 2, 5, 261, 31, 32, 33, 34, 35, 36, 37]), (20, [2], [60, 2, 3, 264, 31, 32, 33, 34, 35]), (20, [2], [50, 1, 0, 31, 0, 2, 0, 3, 2, 0, 31]), (20, [2], [60, 2, 8, 193, 32, 53, 33, 34, 35, 36, 37, 54, 56, 57]), (20, [2, 3, 4, 5], [60, 1, 5, 272, 32, 33, 34, 35, 56, 57]), (20, [3, 2], [30, -1, 1, 0, 0, -1, 1, 53]), (24, [0, 2], [])], [], [], [(20, [2, 7], [60, 0, 1, 271, 56])], [], [(7, 3, 1, 1)])
theorem oo_Mo_cut_5 {kA : Nat → ClassId} : or_ok PRD kA GG o_Mo_cut_5 := by
  refine or_mk fun A ta ws vs hD hth hl => ?_
  intro t0 r0 t3 k3 t4 k4 t5 k5 t7 k7 d0 f1 f3 f4 f5 f7 f9 f10 f11
  replace f1 := shm_2 f1
  replace f3 := shm_678 f3
  replace f4 := shm_643 f4
  replace f5 := shm_1736 f5
  replace f7 := shm_1103 f7
  replace f9 := shm_1741 f9
  replace f10 := shm_1742 f10
  replace f11 := shm_5 f11
  have q2 : n_v vs 2 = n_v vs 0 := f11.symm
  simp only [q2] at f3 f4 f5 f7 f9 f10
  have kz_0_31 := fdq_144 hD hth r0
  have kz_0_32 := fdq_139 hD hth r0
  have kz_0_53 := fdq_267 hD hth r0
  have nf0 : fc_1 PRD (20, [2, 7], [60, 0, 1, 271, 56]) ws (vs) := by
    refine ⟨nf_in hl rfl, sgq_1737 ?_⟩
    · show CT1 (w_ei ws (w_ar ws (n_v vs 2) 56)) (v_iv (n_v vs 7))
      rw [q2]
      exact vc_Mo_cut_5_0 (v_iv (n_v vs 3)) (v_iv (n_v vs 4)) (v_iv (n_v vs 5)) (v_iv (n_v vs 7)) (w_ei ws (w_ar ws (n_v vs 0) 33)) (w_ei ws (w_ar ws (n_v vs 0) 34)) (w_fi ws (n_v vs 0) 31) (w_fi ws (n_v vs 0) 32) (w_ei ws (w_ar ws (n_v vs 0) 35)) (w_ei ws (w_ar ws (n_v vs 0) 36)) (w_ei ws (w_ar ws (n_v vs 0) 37)) (w_ei ws (w_ar ws (n_v vs 0) 54)) (w_ei ws (w_ar ws (n_v vs 0) 56)) (w_ei ws (w_ar ws (n_v vs 0) 57)) (w_fi ws (n_v vs 0) 53) k3 k4 k5 k7 d0 f1 f3 f4 f5 f7 f9 f10 kz_0_31 kz_0_32 kz_0_53
  refine ⟨(fun _ h => (by cases h)), [], trivial, ?_, (fun _ h => (by cases h))⟩
  rw [List.append_nil]
  exact List.forall_mem_cons.mpr ⟨⟨show (20 : Nat) < 100 from by decide, nf0⟩, (fun _ h => (by cases h))⟩
set_option maxHeartbeats 4000000 in
theorem vc_Mo_cut_6_r0 (x1 : Int) (x3 : Int) (x4 : Int) (x5 : Int) (x9 : Int) (x10 : Int) (roundBegin_0 : Int → Int) (pt_0 : Int → Int) (ph_0 : Int → Int) (pn_0 : Int) (pm_0 : Int) (alive_0 : Int → Int) (rotMany_0 : Int → Int) (rot_0 : Int → Int) (roundOf_0 : Int → Int) (roundDart_0 : Int → Int) (rounds_0 : Int) (k1 : 0 ≤ x1 ∧ x1 ≤ 80) (k3 : 0 ≤ x3 ∧ x3 ≤ 159) (k4 : 4 ≤ x4 ∧ x4 ≤ 160) (k5 : 0 ≤ x5 ∧ x5 ≤ 159) (k9 : 0 ≤ x9 ∧ x9 ≤ 160) (k10 : 0 ≤ x10 ∧ x10 ≤ 319) (d3 : x4 + (-4294967296) ≤ x5 ∧ x5 ≤ x4 + (-1)) (f0 : x10 = x9 + x5) (h1 : x9 = roundBegin_0 (x3)) (f6 : GRI (pn_0) (pm_0) (pt_0) (ph_0) (alive_0) (rotMany_0) (rot_0)) (f7 : CON (pn_0) (pm_0) (pt_0) (ph_0) (alive_0)) (f8 : 3 ≤ pn_0) (f9 : pm_0 = x1) (f10 : GRD (pm_0) (rounds_0) (pt_0) (ph_0) (alive_0) (rotMany_0) (rot_0) (roundOf_0) (roundBegin_0) (roundDart_0)) (f12 : CT2 (pm_0) (pt_0) (ph_0) (alive_0) (roundBegin_0) (roundDart_0) (x3) (x4) (x5)) (f13 : 1 * x3 + ((-1) * rounds_0 + 0) ≤ (-1)) (kz_0_31 : 0 ≤ pn_0 ∧ pn_0 ≤ 25) (kz_0_32 : 0 ≤ pm_0 ∧ pm_0 ≤ 80) (kz_0_53 : 0 ≤ rounds_0 ∧ rounds_0 ≤ 160) : 0 ≤ x10 ∧ x10 ≤ 159 := by
  have h := rnd_3 (r := x3) ‹GRI _ _ _ _ _ _ _› ‹CON _ _ _ _ _› (by omega) ‹GRD _ _ _ _ _ _ _ _ _ _› (by omega) (by omega)
  have h1 := dst_le (m := pm_0) (by omega) ‹GRD _ _ _ _ _ _ _ _ _ _›.2.1
  have h2 := ‹CT2 _ _ _ _ _ _ _ _ _›.1.1
  omega
def o_Mo_cut_6 : or_T := (57, 11, [(0, (2, 0, 0, [165])), (1, (0, 0, 80, [])), (2, (2, 0, 0, [165])), (3, (0, 0, 159, [])), (4, (0, 4, 160, [])), (5, (0, 0, 159, [])), (7, (2, 0, 0, [199])), (8, (2, 0, 0, [198])), (9, (0, 0, 160, [])), (10, (0, 0, 319, []))], [(1, [10, 9, 5], []), (10, [9, 8, 3], []), (9, [8, 2], [56]), (9, [7, 2], [57]), (7, [5, 4], [2]), (20, [2], [60, 2, 2, 75, 31, 32, 33, 34]), (20, [2], [60, 2, 5, 261, 31, 32, 33, 34, 35, 36, 37]), (20, [2], [60, 2, 3, 264, 31, 32, 33, 34, 35]), (20, [2], [50, 1, 0, 31, 0, 2, 0, 3, 2, 0, 31]), (20, [2, 1], [50, 1, 0, 32, 1, 3, 2, 0, 32, 1, 1]), (20, [2], [60, 2, 8, 193, 32, 53, 33, 34, 35, 36, 37, 54, 56, 57]), (20, [2, 3], [60, 0, 1, 271, 56]), (20, [2, 3, 4, 5], [60, 1, 5, 272, 32, 33, 34, 35, 56, 57]), (20, [3, 2], [30, -1, 1, 0, 0, -1, 1, 53]), (24, [0, 2], [])], [(10, (0, 0, 159, []))], [], [], [], [(10, 5, 0, 160), (10, 4, -4294967296, 159), (10, 9, 0, 159), (5, 4, -4294967296, -1)])
theorem oo_Mo_cut_6 {kA : Nat → ClassId} : or_ok PRD kA GG o_Mo_cut_6 := by
  refine or_mk fun A ta ws vs hD hth hl => ?_
  intro t0 r0 t1 k1 t2 r2 t3 k3 t4 k4 t5 k5 t7 r7 t8 r8 t9 k9 t10 k10 d0 d1 d2 d3 f0 f1 f2 f3 f4 f5 f6 f7 f8 f9 f10 f11 f12 f13 f14
  replace f1 := shm_106 f1
  replace f2 := shm_1102 f2
  replace f6 := shm_678 f6
  replace f7 := shm_643 f7
  replace f8 := shm_1736 f8
  replace f9 := shm_644 f9
  replace f10 := shm_1103 f10
  replace f12 := shm_1741 f12
  replace f13 := shm_1742 f13
  replace f14 := shm_5 f14
  have q2 : n_v vs 2 = n_v vs 0 := f14.symm
  simp only [q2] at f2 f6 f7 f8 f9 f10 f12 f13
  have ad_8 : v_ad (n_v vs 8) = w_ar ws (n_v vs 0) 56 := congrArg v_ad f2
  simp only [ad_8] at f1
  have h1 : v_iv (n_v vs 9) = w_ei ws (w_ar ws (n_v vs 0) 56) (v_iv (n_v vs 3)) := f1
  have kz_0_31 := fdq_144 hD hth r0
  have kz_0_32 := fdq_139 hD hth r0
  have kz_0_53 := fdq_267 hD hth r0
  have hrf0 : 0 ≤ v_iv (n_v vs 10) ∧ v_iv (n_v vs 10) ≤ 159 := vc_Mo_cut_6_r0 (v_iv (n_v vs 1)) (v_iv (n_v vs 3)) (v_iv (n_v vs 4)) (v_iv (n_v vs 5)) (v_iv (n_v vs 9)) (v_iv (n_v vs 10)) (w_ei ws (w_ar ws (n_v vs 0) 56)) (w_ei ws (w_ar ws (n_v vs 0) 33)) (w_ei ws (w_ar ws (n_v vs 0) 34)) (w_fi ws (n_v vs 0) 31) (w_fi ws (n_v vs 0) 32) (w_ei ws (w_ar ws (n_v vs 0) 35)) (w_ei ws (w_ar ws (n_v vs 0) 36)) (w_ei ws (w_ar ws (n_v vs 0) 37)) (w_ei ws (w_ar ws (n_v vs 0) 54)) (w_ei ws (w_ar ws (n_v vs 0) 57)) (w_fi ws (n_v vs 0) 53) k1 k3 k4 k5 k9 k10 d3 (shm_12 f0) h1 f6 f7 f8 f9 f10 f12 f13 kz_0_31 kz_0_32 kz_0_53
  have rf10 : tv_ok ta (0, 0, 159, []) (n_v vs 10) := tv_in t10 (by first | omega | grind) (by first | omega | grind)
  refine ⟨List.forall_mem_cons.mpr ⟨rf10, (fun _ h => (by cases h))⟩, [], trivial, ?_, (fun _ h => (by cases h))⟩
  rw [List.append_nil]
  exact (fun _ h => (by cases h))
set_option maxHeartbeats 4000000 in
theorem vc_Mo_cut_7_r0 (x1 : Int) (x3 : Int) (x4 : Int) (x5 : Int) (x9 : Int) (x10 : Int) (x12 : Int) (x14 : Int) (x15 : Int) (x16 : Int) (roundBegin_0 : Int → Int) (roundDart_0 : Int → Int) (pt_0 : Int → Int) (ph_0 : Int → Int) (pn_0 : Int) (pm_0 : Int) (alive_0 : Int → Int) (rotMany_0 : Int → Int) (rot_0 : Int → Int) (roundOf_0 : Int → Int) (rounds_0 : Int) (k1 : 0 ≤ x1 ∧ x1 ≤ 80) (k3 : 0 ≤ x3 ∧ x3 ≤ 159) (k4 : 4 ≤ x4 ∧ x4 ≤ 160) (k5 : 0 ≤ x5 ∧ x5 ≤ 159) (k9 : 0 ≤ x9 ∧ x9 ≤ 160) (k10 : 0 ≤ x10 ∧ x10 ≤ 159) (k12 : 0 ≤ x12 ∧ x12 ≤ 160) (k14 : 1 ≤ x14 ∧ x14 ≤ 160) (k15 : 0 ≤ x15 ∧ x15 ≤ 159) (k16 : 0 ≤ x16 ∧ x16 ≤ 319) (d3 : x4 + (-4294967295) ≤ x15 ∧ x15 ≤ x4 + (-1)) (d4 : x5 + 1 ≤ x14 ∧ x14 ≤ x5 + 1) (d7 : x9 + 0 ≤ x10 ∧ x10 ≤ x9 + 159) (f0 : x16 = x12 + x15) (f1 : x15 = Int.tmod (x14) (x4)) (h3 : x12 = roundBegin_0 (x3)) (f7 : x10 = x9 + x5) (f9 : x5 < x4) (f11 : GRI (pn_0) (pm_0) (pt_0) (ph_0) (alive_0) (rotMany_0) (rot_0)) (f12 : CON (pn_0) (pm_0) (pt_0) (ph_0) (alive_0)) (f13 : 3 ≤ pn_0) (f14 : pm_0 = x1) (f15 : GRD (pm_0) (rounds_0) (pt_0) (ph_0) (alive_0) (rotMany_0) (rot_0) (roundOf_0) (roundBegin_0) (roundDart_0)) (f17 : CT2 (pm_0) (pt_0) (ph_0) (alive_0) (roundBegin_0) (roundDart_0) (x3) (x4) (x5)) (f18 : 1 * x3 + ((-1) * rounds_0 + 0) ≤ (-1)) (kz_0_31 : 0 ≤ pn_0 ∧ pn_0 ≤ 25) (kz_0_32 : 0 ≤ pm_0 ∧ pm_0 ≤ 80) (kz_0_53 : 0 ≤ rounds_0 ∧ rounds_0 ≤ 160) : 0 ≤ x16 ∧ x16 ≤ 159 := by
  have h := rnd_3 (r := x3) ‹GRI _ _ _ _ _ _ _› ‹CON _ _ _ _ _› (by omega) ‹GRD _ _ _ _ _ _ _ _ _ _› (by omega) (by omega)
  have h1 := dst_le (m := pm_0) (by omega) ‹GRD _ _ _ _ _ _ _ _ _ _›.2.1
  have h2 := ‹CT2 _ _ _ _ _ _ _ _ _›.1.1
  have e1 : x15 = nr x4 x5 := by
    rw [‹x15 = Int.tmod x14 x4›, Int.tmod_eq_emod_of_nonneg (by omega), show x14 = x5 + 1 by omega]; exact nr_m1 (by omega) (by omega)
  have e2 := nr_rng (L := x4) (k := x5) (by omega) (by omega)
  omega
def o_Mo_cut_7 : or_T := (76, 17, [(0, (2, 0, 0, [165])), (1, (0, 0, 80, [])), (2, (2, 0, 0, [165])), (3, (0, 0, 159, [])), (4, (0, 4, 160, [])), (5, (0, 0, 159, [])), (7, (2, 0, 0, [199])), (8, (2, 0, 0, [198])), (9, (0, 0, 160, [])), (10, (0, 0, 159, [])), (11, (0, 0, 159, [])), (12, (0, 0, 160, [])), (13, (0, 1, 1, [])), (14, (0, 1, 160, [])), (15, (0, 0, 159, [])), (16, (0, 0, 319, []))], [(1, [16, 12, 15], []), (5, [15, 14, 4], []), (1, [14, 5, 13], []), (10, [12, 8, 3], []), (9, [8, 2], [56]), (9, [7, 2], [57]), (10, [11, 7, 10], []), (1, [10, 9, 5], []), (10, [9, 8, 3], []), (7, [5, 4], [2]), (20, [2], [60, 2, 2, 75, 31, 32, 33, 34]), (20, [2], [60, 2, 5, 261, 31, 32, 33, 34, 35, 36, 37]), (20, [2], [60, 2, 3, 264, 31, 32, 33, 34, 35]), (20, [2], [50, 1, 0, 31, 0, 2, 0, 3, 2, 0, 31]), (20, [2, 1], [50, 1, 0, 32, 1, 3, 2, 0, 32, 1, 1]), (20, [2], [60, 2, 8, 193, 32, 53, 33, 34, 35, 36, 37, 54, 56, 57]), (20, [2, 3], [60, 0, 1, 271, 56]), (20, [2, 3, 4, 5], [60, 1, 5, 272, 32, 33, 34, 35, 56, 57]), (20, [3, 2], [30, -1, 1, 0, 0, -1, 1, 53]), (24, [0, 2], [])], [(16, (0, 0, 159, []))], [], [], [], [(16, 15, 0, 160), (16, 4, -4294967295, 159), (16, 12, 0, 159), (15, 4, -4294967295, -1), (14, 5, 1, 1), (14, 4, -4294967296, 0), (10, 5, 0, 160), (10, 9, 0, 159), (5, 4, -4294967296, -1)])
theorem oo_Mo_cut_7 {kA : Nat → ClassId} : or_ok PRD kA GG o_Mo_cut_7 := by
  refine or_mk fun A ta ws vs hD hth hl => ?_
  intro t0 r0 t1 k1 t2 r2 t3 k3 t4 k4 t5 k5 t7 r7 t8 r8 t9 k9 t10 k10 t11 k11 t12 k12 t13 k13 t14 k14 t15 k15 t16 k16 d0 d1 d2 d3 d4 d5 d6 d7 d8 f0 f1 f2 f3 f4 f5 f6 f7 f8 f9 f10 f11 f12 f13 f14 f15 f16 f17 f18 f19
  replace f3 := shm_106 f3
  replace f4 := shm_1102 f4
  replace f11 := shm_678 f11
  replace f12 := shm_643 f12
  replace f13 := shm_1736 f13
  replace f14 := shm_644 f14
  replace f15 := shm_1103 f15
  replace f17 := shm_1741 f17
  replace f18 := shm_1742 f18
  replace f19 := shm_5 f19
  have q2 : n_v vs 2 = n_v vs 0 := f19.symm
  simp only [q2] at f4 f11 f12 f13 f14 f15 f17 f18
  have ad_8 : v_ad (n_v vs 8) = w_ar ws (n_v vs 0) 56 := congrArg v_ad f4
  simp only [ad_8] at f3
  have h3 : v_iv (n_v vs 12) = w_ei ws (w_ar ws (n_v vs 0) 56) (v_iv (n_v vs 3)) := f3
  have kz_0_31 := fdq_144 hD hth r0
  have kz_0_32 := fdq_139 hD hth r0
  have kz_0_53 := fdq_267 hD hth r0
  have hrf0 : 0 ≤ v_iv (n_v vs 16) ∧ v_iv (n_v vs 16) ≤ 159 := vc_Mo_cut_7_r0 (v_iv (n_v vs 1)) (v_iv (n_v vs 3)) (v_iv (n_v vs 4)) (v_iv (n_v vs 5)) (v_iv (n_v vs 9)) (v_iv (n_v vs 10)) (v_iv (n_v vs 12)) (v_iv (n_v vs 14)) (v_iv (n_v vs 15)) (v_iv (n_v vs 16)) (w_ei ws (w_ar ws (n_v vs 0) 56)) (w_ei ws (w_ar ws (n_v vs 0) 57)) (w_ei ws (w_ar ws (n_v vs 0) 33)) (w_ei ws (w_ar ws (n_v vs 0) 34)) (w_fi ws (n_v vs 0) 31) (w_fi ws (n_v vs 0) 32) (w_ei ws (w_ar ws (n_v vs 0) 35)) (w_ei ws (w_ar ws (n_v vs 0) 36)) (w_ei ws (w_ar ws (n_v vs 0) 37)) (w_ei ws (w_ar ws (n_v vs 0) 54)) (w_fi ws (n_v vs 0) 53) k1 k3 k4 k5 k9 k10 k12 k14 k15 k16 d3 d4 d7 (shm_12 f0) (shm_462 f1) h3 (shm_12 f7) (shm_6 f9) f11 f12 f13 f14 f15 f17 f18 kz_0_31 kz_0_32 kz_0_53
  have rf16 : tv_ok ta (0, 0, 159, []) (n_v vs 16) := tv_in t16 (by first | omega | grind) (by first | omega | grind)
  refine ⟨List.forall_mem_cons.mpr ⟨rf16, (fun _ h => (by cases h))⟩, [], trivial, ?_, (fun _ h => (by cases h))⟩
  rw [List.append_nil]
  exact (fun _ h => (by cases h))
set_option maxHeartbeats 4000000 in
theorem vc_Mo_cut_8_0 (x3 : Int) (x4 : Int) (x5 : Int) (x9 : Int) (x10 : Int) (x11 : Int) (x12 : Int) (x14 : Int) (x15 : Int) (x16 : Int) (x17 : Int) (x18 : Int) (x19 : Int) (x20 : Int) (pt_0 : Int → Int) (ph_0 : Int → Int) (roundDart_0 : Int → Int) (roundBegin_0 : Int → Int) (pm_0 : Int) (alive_0 : Int → Int) (k3 : 0 ≤ x3 ∧ x3 ≤ 159) (k4 : 4 ≤ x4 ∧ x4 ≤ 160) (k5 : 0 ≤ x5 ∧ x5 ≤ 159) (k9 : 0 ≤ x9 ∧ x9 ≤ 160) (k10 : 0 ≤ x10 ∧ x10 ≤ 159) (k11 : 0 ≤ x11 ∧ x11 ≤ 159) (k12 : 0 ≤ x12 ∧ x12 ≤ 160) (k14 : 1 ≤ x14 ∧ x14 ≤ 160) (k15 : 0 ≤ x15 ∧ x15 ≤ 159) (k16 : 0 ≤ x16 ∧ x16 ≤ 159) (k17 : 0 ≤ x17 ∧ x17 ≤ 159) (k18 : 0 ≤ x18 ∧ x18 ≤ 24) (k19 : 0 ≤ x19 ∧ x19 ≤ 24) (k20 : 1 ≤ x20 ∧ x20 ≤ 160) (d0 : x5 + 1 ≤ x20 ∧ x20 ≤ x5 + 1) (d6 : x5 + 1 ≤ x14 ∧ x14 ≤ x5 + 1) (d9 : x9 + 0 ≤ x10 ∧ x10 ≤ x9 + 159) (f0 : x20 = x5 + 1) (f1 : x18 = x19) (f2 : DTO (pt_0) (ph_0) (x17) (x19)) (f3 : DFR (pt_0) (ph_0) (x11) (x18)) (h4 : x17 = roundDart_0 (x16)) (f5 : x16 = x12 + x15) (f6 : x15 = Int.tmod (x14) (x4)) (h8 : x12 = roundBegin_0 (x3)) (h11 : x11 = roundDart_0 (x10)) (f12 : x10 = x9 + x5) (h13 : x9 = roundBegin_0 (x3)) (f14 : x5 < x4) (f22 : CT2 (pm_0) (pt_0) (ph_0) (alive_0) (roundBegin_0) (roundDart_0) (x3) (x4) (x5)) (kz_0_32 : 0 ≤ pm_0 ∧ pm_0 ≤ 80) : CT2 (pm_0) (pt_0) (ph_0) (alive_0) (roundBegin_0) (roundDart_0) (x3) (x4) (x20) := by
  first
    | exact ⟨⟨by rw [← (by omega : x8 = x3 + 1)]; omega, by omega⟩, fun t a b => by exfalso; omega⟩
    | (have e1 : x15 = nr x4 x5 := by
         rw [‹x15 = Int.tmod x14 x4›, Int.tmod_eq_emod_of_nonneg (by omega), show x14 = x5 + 1 by omega]; exact nr_m1 (by omega) (by omega)
       exact ct2_next (d := x11) (x := x17) (r := 0) ‹CT2 _ _ _ _ _ _ _ _ _› (by omega) (by rw [← (by omega : x10 = roundBegin_0 x3 + x5)]; assumption) (by rw [← e1, ← (by omega : x16 = roundBegin_0 x3 + x15)]; assumption) ‹DFR _ _ _ _› ‹DTO _ _ _ _› (Or.inl (by omega)))
    | (have e1 : x15 = nr x4 x5 := by
         rw [‹x15 = Int.tmod x14 x4›, Int.tmod_eq_emod_of_nonneg (by omega), show x14 = x5 + 1 by omega]; exact nr_m1 (by omega) (by omega)
       exact ct2_next (d := x11) (x := x17) ‹CT2 _ _ _ _ _ _ _ _ _› (by omega) (by rw [← (by omega : x10 = roundBegin_0 x3 + x5)]; assumption) (by rw [← e1, ← (by omega : x16 = roundBegin_0 x3 + x15)]; assumption) ‹DFR _ _ _ _› ‹DTO _ _ _ _› (Or.inr ⟨‹EOF _ _ _ _ _ _ _›, by omega⟩))
def o_Mo_cut_8 : or_T := (40, 21, [(0, (2, 0, 0, [165])), (3, (0, 0, 159, [])), (4, (0, 4, 160, [])), (5, (0, 0, 159, [])), (9, (0, 0, 160, [])), (10, (0, 0, 159, [])), (11, (0, 0, 159, [])), (12, (0, 0, 160, [])), (14, (0, 1, 160, [])), (15, (0, 0, 159, [])), (16, (0, 0, 159, [])), (17, (0, 0, 159, [])), (18, (0, 0, 24, [])), (19, (0, 0, 24, [])), (20, (0, 1, 160, []))], [(6, [20, 5], [1]), (7, [18, 19], [0]), (20, [2, 17, 19], [60, 0, 2, 186, 33, 34]), (20, [2, 11, 18], [60, 0, 2, 185, 33, 34]), (10, [17, 7, 16], []), (1, [16, 12, 15], []), (5, [15, 14, 4], []), (10, [12, 8, 3], []), (9, [8, 2], [56]), (9, [7, 2], [57]), (10, [11, 7, 10], []), (1, [10, 9, 5], []), (10, [9, 8, 3], []), (7, [5, 4], [2]), (20, [2, 3, 4, 5], [60, 1, 5, 272, 32, 33, 34, 35, 56, 57]), (24, [0, 2], [])], [], [], [(20, [2, 3, 4, 20], [60, 1, 5, 272, 32, 33, 34, 35, 56, 57])], [], [(20, 5, 1, 1), (14, 5, 1, 1), (10, 9, 0, 159)])
theorem oo_Mo_cut_8 {kA : Nat → ClassId} : or_ok PRD kA GG o_Mo_cut_8 := by
  refine or_mk fun A ta ws vs hD hth hl => ?_
  intro t0 r0 t3 k3 t4 k4 t5 k5 t9 k9 t10 k10 t11 k11 t12 k12 t14 k14 t15 k15 t16 k16 t17 k17 t18 k18 t19 k19 t20 k20 d0 d6 d9 f0 f1 f2 f3 f4 f5 f6 f8 f9 f10 f11 f12 f13 f14 f22 f24
  replace f0 := shm_4 f0
  replace f1 := shm_37 f1
  replace f2 := shm_736 f2
  replace f3 := shm_574 f3
  replace f4 := shm_106 f4
  replace f5 := shm_12 f5
  replace f6 := shm_462 f6
  replace f8 := shm_106 f8
  replace f9 := shm_1102 f9
  replace f10 := shm_1107 f10
  replace f11 := shm_106 f11
  replace f12 := shm_12 f12
  replace f13 := shm_106 f13
  replace f14 := shm_6 f14
  replace f22 := shm_1741 f22
  replace f24 := shm_5 f24
  have q2 : n_v vs 2 = n_v vs 0 := f24.symm
  simp only [q2] at f2 f3 f9 f10 f22
  have ad_8 : v_ad (n_v vs 8) = w_ar ws (n_v vs 0) 56 := congrArg v_ad f9
  have ad_7 : v_ad (n_v vs 7) = w_ar ws (n_v vs 0) 57 := congrArg v_ad f10
  simp only [ad_7] at f4
  have h4 : v_iv (n_v vs 17) = w_ei ws (w_ar ws (n_v vs 0) 57) (v_iv (n_v vs 16)) := f4
  simp only [ad_8] at f8
  have h8 : v_iv (n_v vs 12) = w_ei ws (w_ar ws (n_v vs 0) 56) (v_iv (n_v vs 3)) := f8
  simp only [ad_7] at f11
  have h11 : v_iv (n_v vs 11) = w_ei ws (w_ar ws (n_v vs 0) 57) (v_iv (n_v vs 10)) := f11
  simp only [ad_8] at f13
  have h13 : v_iv (n_v vs 9) = w_ei ws (w_ar ws (n_v vs 0) 56) (v_iv (n_v vs 3)) := f13
  have kz_0_32 := fdq_139 hD hth r0
  have nf0 : fc_1 PRD (20, [2, 3, 4, 20], [60, 1, 5, 272, 32, 33, 34, 35, 56, 57]) ws (vs) := by
    refine ⟨nf_in hl rfl, sgq_1741 ?_⟩
    · show CT2 (w_fi ws (n_v vs 2) 32) (w_ei ws (w_ar ws (n_v vs 2) 33)) (w_ei ws (w_ar ws (n_v vs 2) 34)) (w_ei ws (w_ar ws (n_v vs 2) 35)) (w_ei ws (w_ar ws (n_v vs 2) 56)) (w_ei ws (w_ar ws (n_v vs 2) 57)) (v_iv (n_v vs 3)) (v_iv (n_v vs 4)) (v_iv (n_v vs 20))
      rw [q2]
      exact vc_Mo_cut_8_0 (v_iv (n_v vs 3)) (v_iv (n_v vs 4)) (v_iv (n_v vs 5)) (v_iv (n_v vs 9)) (v_iv (n_v vs 10)) (v_iv (n_v vs 11)) (v_iv (n_v vs 12)) (v_iv (n_v vs 14)) (v_iv (n_v vs 15)) (v_iv (n_v vs 16)) (v_iv (n_v vs 17)) (v_iv (n_v vs 18)) (v_iv (n_v vs 19)) (v_iv (n_v vs 20)) (w_ei ws (w_ar ws (n_v vs 0) 33)) (w_ei ws (w_ar ws (n_v vs 0) 34)) (w_ei ws (w_ar ws (n_v vs 0) 57)) (w_ei ws (w_ar ws (n_v vs 0) 56)) (w_fi ws (n_v vs 0) 32) (w_ei ws (w_ar ws (n_v vs 0) 35)) k3 k4 k5 k9 k10 k11 k12 k14 k15 k16 k17 k18 k19 k20 d0 d6 d9 f0 f1 f2 f3 h4 f5 f6 h8 h11 f12 h13 f14 f22 kz_0_32
  refine ⟨(fun _ h => (by cases h)), [], trivial, ?_, (fun _ h => (by cases h))⟩
  rw [List.append_nil]
  exact List.forall_mem_cons.mpr ⟨⟨show (20 : Nat) < 100 from by decide, nf0⟩, (fun _ h => (by cases h))⟩
set_option maxHeartbeats 4000000 in
theorem vc_Mo_cut_9_0 (x10 : Int) (x11 : Int) (roundDart_0 : Int → Int) (gx : Int) (k10 : 0 ≤ x10 ∧ x10 ≤ 159) (k11 : 0 ≤ x11 ∧ x11 ≤ 159) (h12 : x11 = roundDart_0 (x10)) (ex2 : gx = x11) : 1 * gx + ((-1) * x11 + 0) ≤ 0 := by
  first
    | omega
    | (have h := euler_m ‹GRI _ _ _ _ _ _ _› ‹CON _ _ _ _ _› (by omega) ‹GRD _ _ _ _ _ _ _ _ _ _›
       omega)
set_option maxHeartbeats 4000000 in
theorem vc_Mo_cut_9_1 (x10 : Int) (x11 : Int) (roundDart_0 : Int → Int) (gx : Int) (k10 : 0 ≤ x10 ∧ x10 ≤ 159) (k11 : 0 ≤ x11 ∧ x11 ≤ 159) (h12 : x11 = roundDart_0 (x10)) (ex2 : gx = x11) : (-1) * gx + (1 * x11 + 0) ≤ 0 := by
  first
    | omega
    | (have h := euler_m ‹GRI _ _ _ _ _ _ _› ‹CON _ _ _ _ _› (by omega) ‹GRD _ _ _ _ _ _ _ _ _ _›
       omega)
set_option maxHeartbeats 4000000 in
theorem vc_Mo_cut_9_2 (x16 : Int) (x17 : Int) (roundDart_0 : Int → Int) (gy : Int) (k16 : 0 ≤ x16 ∧ x16 ≤ 159) (k17 : 0 ≤ x17 ∧ x17 ≤ 159) (h5 : x17 = roundDart_0 (x16)) (ey2 : gy = x17) : 1 * gy + ((-1) * x17 + 0) ≤ 0 := by
  first
    | omega
    | (have h := euler_m ‹GRI _ _ _ _ _ _ _› ‹CON _ _ _ _ _› (by omega) ‹GRD _ _ _ _ _ _ _ _ _ _›
       omega)
set_option maxHeartbeats 4000000 in
theorem vc_Mo_cut_9_3 (x16 : Int) (x17 : Int) (roundDart_0 : Int → Int) (gy : Int) (k16 : 0 ≤ x16 ∧ x16 ≤ 159) (k17 : 0 ≤ x17 ∧ x17 ≤ 159) (h5 : x17 = roundDart_0 (x16)) (ey2 : gy = x17) : (-1) * gy + (1 * x17 + 0) ≤ 0 := by
  first
    | omega
    | (have h := euler_m ‹GRI _ _ _ _ _ _ _› ‹CON _ _ _ _ _› (by omega) ‹GRD _ _ _ _ _ _ _ _ _ _›
       omega)
set_option maxHeartbeats 4000000 in
theorem vc_Mo_cut_9_4 (x1 : Int) (pm_0 : Int) (gu : Int) (k1 : 0 ≤ x1 ∧ x1 ≤ 80) (f20 : pm_0 = x1) (kz_0_32 : 0 ≤ pm_0 ∧ pm_0 ≤ 80) (eu2 : gu = x1) : 1 * gu + ((-1) * x1 + 0) ≤ 0 := by
  first
    | omega
    | (have h := euler_m ‹GRI _ _ _ _ _ _ _› ‹CON _ _ _ _ _› (by omega) ‹GRD _ _ _ _ _ _ _ _ _ _›
       omega)
set_option maxHeartbeats 4000000 in
theorem vc_Mo_cut_9_5 (x1 : Int) (pm_0 : Int) (gu : Int) (k1 : 0 ≤ x1 ∧ x1 ≤ 80) (f20 : pm_0 = x1) (kz_0_32 : 0 ≤ pm_0 ∧ pm_0 ≤ 80) (eu2 : gu = x1) : (-1) * gu + (1 * x1 + 0) ≤ 0 := by
  first
    | omega
    | (have h := euler_m ‹GRI _ _ _ _ _ _ _› ‹CON _ _ _ _ _› (by omega) ‹GRD _ _ _ _ _ _ _ _ _ _›
       omega)
set_option maxHeartbeats 4000000 in
theorem vc_Mo_cut_9_6 (x1 : Int) (pt_0 : Int → Int) (ph_0 : Int → Int) (alive_0 : Int → Int) (pm_0 : Int) (roundDart_0 : Int → Int) (roundBegin_0 : Int → Int) (pn_0 : Int) (rotMany_0 : Int → Int) (rot_0 : Int → Int) (roundOf_0 : Int → Int) (rounds_0 : Int) (gu : Int) (k1 : 0 ≤ x1 ∧ x1 ≤ 80) (f17 : GRI (pn_0) (pm_0) (pt_0) (ph_0) (alive_0) (rotMany_0) (rot_0)) (f18 : CON (pn_0) (pm_0) (pt_0) (ph_0) (alive_0)) (f19 : 3 ≤ pn_0) (f20 : pm_0 = x1) (f21 : GRD (pm_0) (rounds_0) (pt_0) (ph_0) (alive_0) (rotMany_0) (rot_0) (roundOf_0) (roundBegin_0) (roundDart_0)) (kz_0_31 : 0 ≤ pn_0 ∧ pn_0 ≤ 25) (kz_0_32 : 0 ≤ pm_0 ∧ pm_0 ≤ 80) (kz_0_53 : 0 ≤ rounds_0 ∧ rounds_0 ≤ 160) (eu2 : gu = x1) : pm_0 ≤ 79 := by
  first
    | omega
    | (have h := euler_m ‹GRI _ _ _ _ _ _ _› ‹CON _ _ _ _ _› (by omega) ‹GRD _ _ _ _ _ _ _ _ _ _›
       omega)
set_option maxHeartbeats 4000000 in
theorem vc_Mo_cut_9_7 (x3 : Int) (x4 : Int) (x5 : Int) (x9 : Int) (x10 : Int) (x11 : Int) (x12 : Int) (x14 : Int) (x15 : Int) (x16 : Int) (x17 : Int) (x18 : Int) (x19 : Int) (x20 : Int) (pt_0 : Int → Int) (ph_0 : Int → Int) (alive_0 : Int → Int) (pm_0 : Int) (roundDart_0 : Int → Int) (roundBegin_0 : Int → Int) (pn_0 : Int) (rotMany_0 : Int → Int) (rot_0 : Int → Int) (roundOf_0 : Int → Int) (rounds_0 : Int) (gx : Int) (gy : Int) (k3 : 0 ≤ x3 ∧ x3 ≤ 159) (k4 : 4 ≤ x4 ∧ x4 ≤ 160) (k5 : 0 ≤ x5 ∧ x5 ≤ 159) (k9 : 0 ≤ x9 ∧ x9 ≤ 160) (k10 : 0 ≤ x10 ∧ x10 ≤ 159) (k11 : 0 ≤ x11 ∧ x11 ≤ 159) (k12 : 0 ≤ x12 ∧ x12 ≤ 160) (k14 : 1 ≤ x14 ∧ x14 ≤ 160) (k15 : 0 ≤ x15 ∧ x15 ≤ 159) (k16 : 0 ≤ x16 ∧ x16 ≤ 159) (k17 : 0 ≤ x17 ∧ x17 ≤ 159) (k18 : 0 ≤ x18 ∧ x18 ≤ 24) (k19 : 0 ≤ x19 ∧ x19 ≤ 24) (k20 : (-1) ≤ x20 ∧ x20 ≤ (-1)) (d3 : x5 + 1 ≤ x14 ∧ x14 ≤ x5 + 1) (d6 : x9 + 0 ≤ x10 ∧ x10 ≤ x9 + 159) (f0 : x20 < 0) (f1 : EOF (pm_0) (pt_0) (ph_0) (alive_0) (x18) (x19) (x20)) (f2 : x18 ≠ x19) (f3 : DTO (pt_0) (ph_0) (x17) (x19)) (f4 : DFR (pt_0) (ph_0) (x11) (x18)) (h5 : x17 = roundDart_0 (x16)) (f6 : x16 = x12 + x15) (f7 : x15 = Int.tmod (x14) (x4)) (h9 : x12 = roundBegin_0 (x3)) (h12 : x11 = roundDart_0 (x10)) (f13 : x10 = x9 + x5) (h14 : x9 = roundBegin_0 (x3)) (f15 : x5 < x4) (f17 : GRI (pn_0) (pm_0) (pt_0) (ph_0) (alive_0) (rotMany_0) (rot_0)) (f18 : CON (pn_0) (pm_0) (pt_0) (ph_0) (alive_0)) (f19 : 3 ≤ pn_0) (f21 : GRD (pm_0) (rounds_0) (pt_0) (ph_0) (alive_0) (rotMany_0) (rot_0) (roundOf_0) (roundBegin_0) (roundDart_0)) (f23 : CT2 (pm_0) (pt_0) (ph_0) (alive_0) (roundBegin_0) (roundDart_0) (x3) (x4) (x5)) (f24 : 1 * x3 + ((-1) * rounds_0 + 0) ≤ (-1)) (kz_0_31 : 0 ≤ pn_0 ∧ pn_0 ≤ 25) (kz_0_32 : 0 ≤ pm_0 ∧ pm_0 ≤ 80) (kz_0_53 : 0 ≤ rounds_0 ∧ rounds_0 ≤ 160) (ex2 : gx = x11) (ey2 : gy = x17) : PN3 (pn_0) (pm_0) (pt_0) (ph_0) (alive_0) (rotMany_0) (rot_0) (x18) (x19) (gx) (gy) := by
  rw [ex2, ey2]
  have e1 : x15 = nr x4 x5 := by
    rw [‹x15 = Int.tmod x14 x4›, Int.tmod_eq_emod_of_nonneg (by omega), show x14 = x5 + 1 by omega]; exact nr_m1 (by omega) (by omega)
  exact pn3_of (f := x3) (k := x5) (L := x4) ‹GRI _ _ _ _ _ _ _› ‹CON _ _ _ _ _› (by omega) ‹GRD _ _ _ _ _ _ _ _ _ _› (by omega) (by omega) (by omega) ‹CT2 _ _ _ _ _ _ _ _ _›.1.1 (by omega) (by rw [← (by omega : x10 = roundBegin_0 x3 + x5)]; assumption) (by rw [← e1, ← (by omega : x16 = roundBegin_0 x3 + x15)]; assumption) ‹DFR _ _ _ _› ‹DTO _ _ _ _› (by omega) ‹EOF _ _ _ _ _ _ _› (by omega)
set_option maxHeartbeats 4000000 in
theorem vc_Mo_cut_9_8 (pt_0 : Int → Int) (ph_0 : Int → Int) (alive_0 : Int → Int) (pm_0 : Int) (pn_0 : Int) (f18 : CON (pn_0) (pm_0) (pt_0) (ph_0) (alive_0)) (kz_0_31 : 0 ≤ pn_0 ∧ pn_0 ≤ 25) (kz_0_32 : 0 ≤ pm_0 ∧ pm_0 ≤ 80) : CON (pn_0) (pm_0) (pt_0) (ph_0) (alive_0) := by
  assumption
set_option maxHeartbeats 4000000 in
theorem vc_Mo_cut_9_9 (x1 : Int) (pm_0 : Int) (gu : Int) (k1 : 0 ≤ x1 ∧ x1 ≤ 80) (f20 : pm_0 = x1) (kz_0_32 : 0 ≤ pm_0 ∧ pm_0 ≤ 80) (eu2 : gu = x1) : pm_0 = gu := by
  first
    | omega
    | (have h := euler_m ‹GRI _ _ _ _ _ _ _› ‹CON _ _ _ _ _› (by omega) ‹GRD _ _ _ _ _ _ _ _ _ _›
       omega)
def o_Mo_cut_9 : or_T := (121, 21, [(0, (2, 0, 0, [165])), (1, (0, 0, 80, [])), (3, (0, 0, 159, [])), (4, (0, 4, 160, [])), (5, (0, 0, 159, [])), (9, (0, 0, 160, [])), (10, (0, 0, 159, [])), (11, (0, 0, 159, [])), (12, (0, 0, 160, [])), (14, (0, 1, 160, [])), (15, (0, 0, 159, [])), (16, (0, 0, 159, [])), (17, (0, 0, 159, [])), (18, (0, 0, 24, [])), (19, (0, 0, 24, [])), (20, (0, -1, -1, []))], [(8, [20], [2]), (20, [2, 18, 19, 20], [60, 1, 3, 85, 32, 33, 34, 35]), (7, [18, 19], [1]), (20, [2, 17, 19], [60, 0, 2, 186, 33, 34]), (20, [2, 11, 18], [60, 0, 2, 185, 33, 34]), (10, [17, 7, 16], []), (1, [16, 12, 15], []), (5, [15, 14, 4], []), (10, [12, 8, 3], []), (9, [8, 2], [56]), (9, [7, 2], [57]), (10, [11, 7, 10], []), (1, [10, 9, 5], []), (10, [9, 8, 3], []), (7, [5, 4], [2]), (20, [2], [60, 2, 5, 261, 31, 32, 33, 34, 35, 36, 37]), (20, [2], [60, 2, 3, 264, 31, 32, 33, 34, 35]), (20, [2], [50, 1, 0, 31, 0, 2, 0, 3, 2, 0, 31]), (20, [2, 1], [50, 1, 0, 32, 1, 3, 2, 0, 32, 1, 1]), (20, [2], [60, 2, 8, 193, 32, 53, 33, 34, 35, 36, 37, 54, 56, 57]), (20, [2, 3, 4, 5], [60, 1, 5, 272, 32, 33, 34, 35, 56, 57]), (20, [3, 2], [30, -1, 1, 0, 0, -1, 1, 53]), (24, [0, 2], [])], [], [(0, 0, 159, []), (0, 0, 159, []), (0, 0, 80, [])], [(23, [21, 11], [0, 1, -1]), (23, [21, 11], [0, -1, 1]), (23, [22, 17], [0, 1, -1]), (23, [22, 17], [0, -1, 1]), (23, [23, 1], [0, 1, -1]), (23, [23, 1], [0, -1, 1]), (20, [2], [50, 1, 0, 32, 0, 3, 2, 0, 32, 0, 79]), (20, [2, 18, 19, 21, 22], [60, 2, 5, 246, 31, 32, 33, 34, 35, 36, 37]), (20, [2], [60, 2, 3, 264, 31, 32, 33, 34, 35]), (20, [2, 23], [50, 1, 0, 32, 1, 3, 2, 0, 32, 1, 1])], [], [(14, 5, 1, 1), (10, 9, 0, 159)])
theorem oo_Mo_cut_9 {kA : Nat → ClassId} : or_ok PRD kA GG o_Mo_cut_9 := by
  refine or_mk fun A ta ws vs hD hth hl => ?_
  intro t0 r0 t1 k1 t3 k3 t4 k4 t5 k5 t9 k9 t10 k10 t11 k11 t12 k12 t14 k14 t15 k15 t16 k16 t17 k17 t18 k18 t19 k19 t20 k20 d3 d6 f0 f1 f2 f3 f4 f5 f6 f7 f9 f10 f11 f12 f13 f14 f15 f17 f18 f19 f20 f21 f23 f24 f25
  replace f0 := shm_39 f0
  replace f1 := shm_962 f1
  replace f2 := shm_40 f2
  replace f3 := shm_736 f3
  replace f4 := shm_574 f4
  replace f5 := shm_106 f5
  replace f6 := shm_12 f6
  replace f7 := shm_462 f7
  replace f9 := shm_106 f9
  replace f10 := shm_1102 f10
  replace f11 := shm_1107 f11
  replace f12 := shm_106 f12
  replace f13 := shm_12 f13
  replace f14 := shm_106 f14
  replace f15 := shm_6 f15
  replace f17 := shm_678 f17
  replace f18 := shm_643 f18
  replace f19 := shm_1736 f19
  replace f20 := shm_644 f20
  replace f21 := shm_1103 f21
  replace f23 := shm_1741 f23
  replace f24 := shm_1742 f24
  replace f25 := shm_5 f25
  have q2 : n_v vs 2 = n_v vs 0 := f25.symm
  simp only [q2] at f1 f3 f4 f10 f11 f17 f18 f19 f20 f21 f23 f24
  have ad_8 : v_ad (n_v vs 8) = w_ar ws (n_v vs 0) 56 := congrArg v_ad f10
  have ad_7 : v_ad (n_v vs 7) = w_ar ws (n_v vs 0) 57 := congrArg v_ad f11
  simp only [ad_7] at f5
  have h5 : v_iv (n_v vs 17) = w_ei ws (w_ar ws (n_v vs 0) 57) (v_iv (n_v vs 16)) := f5
  simp only [ad_8] at f9
  have h9 : v_iv (n_v vs 12) = w_ei ws (w_ar ws (n_v vs 0) 56) (v_iv (n_v vs 3)) := f9
  simp only [ad_7] at f12
  have h12 : v_iv (n_v vs 11) = w_ei ws (w_ar ws (n_v vs 0) 57) (v_iv (n_v vs 10)) := f12
  simp only [ad_8] at f14
  have h14 : v_iv (n_v vs 9) = w_ei ws (w_ar ws (n_v vs 0) 56) (v_iv (n_v vs 3)) := f14
  have kz_0_31 := fdq_144 hD hth r0
  have kz_0_32 := fdq_139 hD hth r0
  have kz_0_53 := fdq_267 hD hth r0
  obtain ⟨x, ex, hx⟩ := iv_ex (ta := ta) (lo := 0) (hi := 159) (z := v_iv (n_v vs 11)) (by omega) (by omega) (by omega) (by omega)
  have ex2 : v_iv (Value.int x) = v_iv (n_v vs 11) := ex
  have ex3 : 0 ≤ v_iv (Value.int x) ∧ v_iv (Value.int x) ≤ 159 := tv_rng hx
  obtain ⟨y, ey, hy⟩ := iv_ex (ta := ta) (lo := 0) (hi := 159) (z := v_iv (n_v vs 17)) (by omega) (by omega) (by omega) (by omega)
  have ey2 : v_iv (Value.int y) = v_iv (n_v vs 17) := ey
  have ey3 : 0 ≤ v_iv (Value.int y) ∧ v_iv (Value.int y) ≤ 159 := tv_rng hy
  obtain ⟨u, eu, hu⟩ := iv_ex (ta := ta) (lo := 0) (hi := 80) (z := v_iv (n_v vs 1)) (by omega) (by omega) (by omega) (by omega)
  have eu2 : v_iv (Value.int u) = v_iv (n_v vs 1) := eu
  have eu3 : 0 ≤ v_iv (Value.int u) ∧ v_iv (Value.int u) ≤ 80 := tv_rng hu
  have e_1 : n_v (vs ++ [Value.int x, Value.int y, Value.int u]) 1 = n_v vs 1 := n_v_old (by rw [hl]; decide)
  have e_2 : n_v (vs ++ [Value.int x, Value.int y, Value.int u]) 2 = n_v vs 2 := n_v_old (by rw [hl]; decide)
  have e_11 : n_v (vs ++ [Value.int x, Value.int y, Value.int u]) 11 = n_v vs 11 := n_v_old (by rw [hl]; decide)
  have e_17 : n_v (vs ++ [Value.int x, Value.int y, Value.int u]) 17 = n_v vs 17 := n_v_old (by rw [hl]; decide)
  have e_18 : n_v (vs ++ [Value.int x, Value.int y, Value.int u]) 18 = n_v vs 18 := n_v_old (by rw [hl]; decide)
  have e_19 : n_v (vs ++ [Value.int x, Value.int y, Value.int u]) 19 = n_v vs 19 := n_v_old (by rw [hl]; decide)
  have e_21 : n_v (vs ++ [Value.int x, Value.int y, Value.int u]) 21 = Value.int x := n_v_newk (k := 0) hl rfl
  have e_22 : n_v (vs ++ [Value.int x, Value.int y, Value.int u]) 22 = Value.int y := n_v_newk (k := 1) hl rfl
  have e_23 : n_v (vs ++ [Value.int x, Value.int y, Value.int u]) 23 = Value.int u := n_v_newk (k := 2) hl rfl
  have nf0 : fc_1 PRD (23, [21, 11], [0, 1, -1]) ws (vs ++ [Value.int x, Value.int y, Value.int u]) := by
    refine ⟨nf_inA hl rfl, sgq_7 ?_⟩
    · show 1 * v_iv (n_v (vs ++ [Value.int x, Value.int y, Value.int u]) 21) + ((-1) * v_iv (n_v (vs ++ [Value.int x, Value.int y, Value.int u]) 11) + 0) ≤ 0
      simp only [e_11, e_21]
      exact vc_Mo_cut_9_0 (v_iv (n_v vs 10)) (v_iv (n_v vs 11)) (w_ei ws (w_ar ws (n_v vs 0) 57)) (v_iv (Value.int x)) k10 k11 h12 ex2
  have nf1 : fc_1 PRD (23, [21, 11], [0, -1, 1]) ws (vs ++ [Value.int x, Value.int y, Value.int u]) := by
    refine ⟨nf_inA hl rfl, sgq_22 ?_⟩
    · show (-1) * v_iv (n_v (vs ++ [Value.int x, Value.int y, Value.int u]) 21) + (1 * v_iv (n_v (vs ++ [Value.int x, Value.int y, Value.int u]) 11) + 0) ≤ 0
      simp only [e_11, e_21]
      exact vc_Mo_cut_9_1 (v_iv (n_v vs 10)) (v_iv (n_v vs 11)) (w_ei ws (w_ar ws (n_v vs 0) 57)) (v_iv (Value.int x)) k10 k11 h12 ex2
  have nf2 : fc_1 PRD (23, [22, 17], [0, 1, -1]) ws (vs ++ [Value.int x, Value.int y, Value.int u]) := by
    refine ⟨nf_inA hl rfl, sgq_7 ?_⟩
    · show 1 * v_iv (n_v (vs ++ [Value.int x, Value.int y, Value.int u]) 22) + ((-1) * v_iv (n_v (vs ++ [Value.int x, Value.int y, Value.int u]) 17) + 0) ≤ 0
      simp only [e_17, e_22]
      exact vc_Mo_cut_9_2 (v_iv (n_v vs 16)) (v_iv (n_v vs 17)) (w_ei ws (w_ar ws (n_v vs 0) 57)) (v_iv (Value.int y)) k16 k17 h5 ey2
  have nf3 : fc_1 PRD (23, [22, 17], [0, -1, 1]) ws (vs ++ [Value.int x, Value.int y, Value.int u]) := by
    refine ⟨nf_inA hl rfl, sgq_22 ?_⟩
    · show (-1) * v_iv (n_v (vs ++ [Value.int x, Value.int y, Value.int u]) 22) + (1 * v_iv (n_v (vs ++ [Value.int x, Value.int y, Value.int u]) 17) + 0) ≤ 0
      simp only [e_17, e_22]
      exact vc_Mo_cut_9_3 (v_iv (n_v vs 16)) (v_iv (n_v vs 17)) (w_ei ws (w_ar ws (n_v vs 0) 57)) (v_iv (Value.int y)) k16 k17 h5 ey2
  have nf4 : fc_1 PRD (23, [23, 1], [0, 1, -1]) ws (vs ++ [Value.int x, Value.int y, Value.int u]) := by
    refine ⟨nf_inA hl rfl, sgq_7 ?_⟩
    · show 1 * v_iv (n_v (vs ++ [Value.int x, Value.int y, Value.int u]) 23) + ((-1) * v_iv (n_v (vs ++ [Value.int x, Value.int y, Value.int u]) 1) + 0) ≤ 0
      simp only [e_1, e_23]
      exact vc_Mo_cut_9_4 (v_iv (n_v vs 1)) (w_fi ws (n_v vs 0) 32) (v_iv (Value.int u)) k1 f20 kz_0_32 eu2
  have nf5 : fc_1 PRD (23, [23, 1], [0, -1, 1]) ws (vs ++ [Value.int x, Value.int y, Value.int u]) := by
    refine ⟨nf_inA hl rfl, sgq_22 ?_⟩
    · show (-1) * v_iv (n_v (vs ++ [Value.int x, Value.int y, Value.int u]) 23) + (1 * v_iv (n_v (vs ++ [Value.int x, Value.int y, Value.int u]) 1) + 0) ≤ 0
      simp only [e_1, e_23]
      exact vc_Mo_cut_9_5 (v_iv (n_v vs 1)) (w_fi ws (n_v vs 0) 32) (v_iv (Value.int u)) k1 f20 kz_0_32 eu2
  have nf6 : fc_1 PRD (20, [2], [50, 1, 0, 32, 0, 3, 2, 0, 32, 0, 79]) ws (vs ++ [Value.int x, Value.int y, Value.int u]) := by
    refine ⟨nf_inA hl rfl, sgq_635 ?_⟩
    · show w_fi ws (n_v (vs ++ [Value.int x, Value.int y, Value.int u]) 2) 32 ≤ 79
      simp only [e_2, q2]
      exact vc_Mo_cut_9_6 (v_iv (n_v vs 1)) (w_ei ws (w_ar ws (n_v vs 0) 33)) (w_ei ws (w_ar ws (n_v vs 0) 34)) (w_ei ws (w_ar ws (n_v vs 0) 35)) (w_fi ws (n_v vs 0) 32) (w_ei ws (w_ar ws (n_v vs 0) 57)) (w_ei ws (w_ar ws (n_v vs 0) 56)) (w_fi ws (n_v vs 0) 31) (w_ei ws (w_ar ws (n_v vs 0) 36)) (w_ei ws (w_ar ws (n_v vs 0) 37)) (w_ei ws (w_ar ws (n_v vs 0) 54)) (w_fi ws (n_v vs 0) 53) (v_iv (Value.int u)) k1 f17 f18 f19 f20 f21 kz_0_31 kz_0_32 kz_0_53 eu2
  have nf7 : fc_1 PRD (20, [2, 18, 19, 21, 22], [60, 2, 5, 246, 31, 32, 33, 34, 35, 36, 37]) ws (vs ++ [Value.int x, Value.int y, Value.int u]) := by
    refine ⟨nf_inA hl rfl, sgq_642 ?_⟩
    · show PN3 (w_fi ws (n_v (vs ++ [Value.int x, Value.int y, Value.int u]) 2) 31) (w_fi ws (n_v (vs ++ [Value.int x, Value.int y, Value.int u]) 2) 32) (w_ei ws (w_ar ws (n_v (vs ++ [Value.int x, Value.int y, Value.int u]) 2) 33)) (w_ei ws (w_ar ws (n_v (vs ++ [Value.int x, Value.int y, Value.int u]) 2) 34)) (w_ei ws (w_ar ws (n_v (vs ++ [Value.int x, Value.int y, Value.int u]) 2) 35)) (w_ei ws (w_ar ws (n_v (vs ++ [Value.int x, Value.int y, Value.int u]) 2) 36)) (w_ei ws (w_ar ws (n_v (vs ++ [Value.int x, Value.int y, Value.int u]) 2) 37)) (v_iv (n_v (vs ++ [Value.int x, Value.int y, Value.int u]) 18)) (v_iv (n_v (vs ++ [Value.int x, Value.int y, Value.int u]) 19)) (v_iv (n_v (vs ++ [Value.int x, Value.int y, Value.int u]) 21)) (v_iv (n_v (vs ++ [Value.int x, Value.int y, Value.int u]) 22))
      simp only [e_2, e_18, e_19, e_21, e_22, q2]
      exact vc_Mo_cut_9_7 (v_iv (n_v vs 3)) (v_iv (n_v vs 4)) (v_iv (n_v vs 5)) (v_iv (n_v vs 9)) (v_iv (n_v vs 10)) (v_iv (n_v vs 11)) (v_iv (n_v vs 12)) (v_iv (n_v vs 14)) (v_iv (n_v vs 15)) (v_iv (n_v vs 16)) (v_iv (n_v vs 17)) (v_iv (n_v vs 18)) (v_iv (n_v vs 19)) (v_iv (n_v vs 20)) (w_ei ws (w_ar ws (n_v vs 0) 33)) (w_ei ws (w_ar ws (n_v vs 0) 34)) (w_ei ws (w_ar ws (n_v vs 0) 35)) (w_fi ws (n_v vs 0) 32) (w_ei ws (w_ar ws (n_v vs 0) 57)) (w_ei ws (w_ar ws (n_v vs 0) 56)) (w_fi ws (n_v vs 0) 31) (w_ei ws (w_ar ws (n_v vs 0) 36)) (w_ei ws (w_ar ws (n_v vs 0) 37)) (w_ei ws (w_ar ws (n_v vs 0) 54)) (w_fi ws (n_v vs 0) 53) (v_iv (Value.int x)) (v_iv (Value.int y)) k3 k4 k5 k9 k10 k11 k12 k14 k15 k16 k17 k18 k19 k20 d3 d6 f0 f1 f2 f3 f4 h5 f6 f7 h9 h12 f13 h14 f15 f17 f18 f19 f21 f23 f24 kz_0_31 kz_0_32 kz_0_53 ex2 ey2
  have nf8 : fc_1 PRD (20, [2], [60, 2, 3, 264, 31, 32, 33, 34, 35]) ws (vs ++ [Value.int x, Value.int y, Value.int u]) := by
    refine ⟨nf_inA hl rfl, sgq_643 ?_⟩
    · show CON (w_fi ws (n_v (vs ++ [Value.int x, Value.int y, Value.int u]) 2) 31) (w_fi ws (n_v (vs ++ [Value.int x, Value.int y, Value.int u]) 2) 32) (w_ei ws (w_ar ws (n_v (vs ++ [Value.int x, Value.int y, Value.int u]) 2) 33)) (w_ei ws (w_ar ws (n_v (vs ++ [Value.int x, Value.int y, Value.int u]) 2) 34)) (w_ei ws (w_ar ws (n_v (vs ++ [Value.int x, Value.int y, Value.int u]) 2) 35))
      simp only [e_2, q2]
      exact vc_Mo_cut_9_8 (w_ei ws (w_ar ws (n_v vs 0) 33)) (w_ei ws (w_ar ws (n_v vs 0) 34)) (w_ei ws (w_ar ws (n_v vs 0) 35)) (w_fi ws (n_v vs 0) 32) (w_fi ws (n_v vs 0) 31) f18 kz_0_31 kz_0_32
  have nf9 : fc_1 PRD (20, [2, 23], [50, 1, 0, 32, 1, 3, 2, 0, 32, 1, 1]) ws (vs ++ [Value.int x, Value.int y, Value.int u]) := by
    refine ⟨nf_inA hl rfl, sgq_644 ?_⟩
    · show w_fi ws (n_v (vs ++ [Value.int x, Value.int y, Value.int u]) 2) 32 = v_iv (n_v (vs ++ [Value.int x, Value.int y, Value.int u]) 23)
      simp only [e_2, e_23, q2]
      exact vc_Mo_cut_9_9 (v_iv (n_v vs 1)) (w_fi ws (n_v vs 0) 32) (v_iv (Value.int u)) k1 f20 kz_0_32 eu2
  exact ⟨(fun _ h => (by cases h)), [Value.int x, Value.int y, Value.int u], ag_three hx hy hu, List.forall_mem_cons.mpr ⟨⟨show (23 : Nat) < 100 from by decide, nf0⟩, List.forall_mem_cons.mpr ⟨⟨show (23 : Nat) < 100 from by decide, nf1⟩, List.forall_mem_cons.mpr ⟨⟨show (23 : Nat) < 100 from by decide, nf2⟩, List.forall_mem_cons.mpr ⟨⟨show (23 : Nat) < 100 from by decide, nf3⟩, List.forall_mem_cons.mpr ⟨⟨show (23 : Nat) < 100 from by decide, nf4⟩, List.forall_mem_cons.mpr ⟨⟨show (23 : Nat) < 100 from by decide, nf5⟩, List.forall_mem_cons.mpr ⟨⟨show (20 : Nat) < 100 from by decide, nf6⟩, List.forall_mem_cons.mpr ⟨⟨show (20 : Nat) < 100 from by decide, nf7⟩, List.forall_mem_cons.mpr ⟨⟨show (20 : Nat) < 100 from by decide, nf8⟩, List.forall_mem_cons.mpr ⟨⟨show (20 : Nat) < 100 from by decide, nf9⟩, (fun _ h => (by cases h))⟩⟩⟩⟩⟩⟩⟩⟩⟩⟩, (fun _ h => (by cases h))⟩
set_option maxHeartbeats 4000000 in
theorem vc_Mo_cut_10_0 (x19 : Int) (gx : Int) (k19 : 0 ≤ x19 ∧ x19 ≤ 24) (ex2 : gx = x19) : 1 * gx + ((-1) * x19 + 0) ≤ 0 := by
  first
    | omega
    | (have h := euler_m ‹GRI _ _ _ _ _ _ _› ‹CON _ _ _ _ _› (by omega) ‹GRD _ _ _ _ _ _ _ _ _ _›
       omega)
set_option maxHeartbeats 4000000 in
theorem vc_Mo_cut_10_1 (x19 : Int) (gx : Int) (k19 : 0 ≤ x19 ∧ x19 ≤ 24) (ex2 : gx = x19) : (-1) * gx + (1 * x19 + 0) ≤ 0 := by
  first
    | omega
    | (have h := euler_m ‹GRI _ _ _ _ _ _ _› ‹CON _ _ _ _ _› (by omega) ‹GRD _ _ _ _ _ _ _ _ _ _›
       omega)
set_option maxHeartbeats 4000000 in
theorem vc_Mo_cut_10_2 (x11 : Int) (x21 : Int) (gy : Int) (k11 : 0 ≤ x11 ∧ x11 ≤ 159) (k21 : 0 ≤ x21 ∧ x21 ≤ 159) (f2 : 1 * x21 + ((-1) * x11 + 0) ≤ 0) (f3 : (-1) * x21 + (1 * x11 + 0) ≤ 0) (ey2 : gy = x11) : 1 * gy + ((-1) * x11 + 0) ≤ 0 := by
  first
    | omega
    | (have h := euler_m ‹GRI _ _ _ _ _ _ _› ‹CON _ _ _ _ _› (by omega) ‹GRD _ _ _ _ _ _ _ _ _ _›
       omega)
set_option maxHeartbeats 4000000 in
theorem vc_Mo_cut_10_3 (x11 : Int) (x21 : Int) (gy : Int) (k11 : 0 ≤ x11 ∧ x11 ≤ 159) (k21 : 0 ≤ x21 ∧ x21 ≤ 159) (f2 : 1 * x21 + ((-1) * x11 + 0) ≤ 0) (f3 : (-1) * x21 + (1 * x11 + 0) ≤ 0) (ey2 : gy = x11) : (-1) * gy + (1 * x11 + 0) ≤ 0 := by
  first
    | omega
    | (have h := euler_m ‹GRI _ _ _ _ _ _ _› ‹CON _ _ _ _ _› (by omega) ‹GRD _ _ _ _ _ _ _ _ _ _›
       omega)
set_option maxHeartbeats 4000000 in
theorem vc_Mo_cut_10_4 (x17 : Int) (x22 : Int) (gu : Int) (k17 : 0 ≤ x17 ∧ x17 ≤ 159) (k22 : 0 ≤ x22 ∧ x22 ≤ 159) (f4 : 1 * x22 + ((-1) * x17 + 0) ≤ 0) (f5 : (-1) * x22 + (1 * x17 + 0) ≤ 0) (eu2 : gu = x17) : 1 * gu + ((-1) * x17 + 0) ≤ 0 := by
  first
    | omega
    | (have h := euler_m ‹GRI _ _ _ _ _ _ _› ‹CON _ _ _ _ _› (by omega) ‹GRD _ _ _ _ _ _ _ _ _ _›
       omega)
set_option maxHeartbeats 4000000 in
theorem vc_Mo_cut_10_5 (x17 : Int) (x22 : Int) (gu : Int) (k17 : 0 ≤ x17 ∧ x17 ≤ 159) (k22 : 0 ≤ x22 ∧ x22 ≤ 159) (f4 : 1 * x22 + ((-1) * x17 + 0) ≤ 0) (f5 : (-1) * x22 + (1 * x17 + 0) ≤ 0) (eu2 : gu = x17) : (-1) * gu + (1 * x17 + 0) ≤ 0 := by
  first
    | omega
    | (have h := euler_m ‹GRI _ _ _ _ _ _ _› ‹CON _ _ _ _ _› (by omega) ‹GRD _ _ _ _ _ _ _ _ _ _›
       omega)
set_option maxHeartbeats 4000000 in
theorem vc_Mo_cut_10_6 (x11 : Int) (x17 : Int) (x18 : Int) (x19 : Int) (x21 : Int) (x22 : Int) (x24 : Int) (x27 : Int) (pn_0 : Int) (pt_0 : Int → Int) (ph_0 : Int → Int) (alive_0 : Int → Int) (rotMany_0 : Int → Int) (rot_0 : Int → Int) (pm_0 : Int) (gx : Int) (gy : Int) (gu : Int) (k11 : 0 ≤ x11 ∧ x11 ≤ 159) (k17 : 0 ≤ x17 ∧ x17 ≤ 159) (k18 : 0 ≤ x18 ∧ x18 ≤ 24) (k19 : 0 ≤ x19 ∧ x19 ≤ 24) (k21 : 0 ≤ x21 ∧ x21 ≤ 159) (k22 : 0 ≤ x22 ∧ x22 ≤ 159) (k24 : 0 ≤ x24 ∧ x24 ≤ 79) (k27 : 0 ≤ x27 ∧ x27 ≤ 79) (f0 : x27 = x11 / 2) (f2 : 1 * x21 + ((-1) * x11 + 0) ≤ 0) (f3 : (-1) * x21 + (1 * x11 + 0) ≤ 0) (f4 : 1 * x22 + ((-1) * x17 + 0) ≤ 0) (f5 : (-1) * x22 + (1 * x17 + 0) ≤ 0) (f12 : PUc (pn_0) (pm_0) (pt_0) (ph_0) (alive_0) (rotMany_0) (rot_0) (x18) (x19) (x21) (x22) (x24)) (kz_0_31 : 0 ≤ pn_0 ∧ pn_0 ≤ 25) (kz_0_32 : 0 ≤ pm_0 ∧ pm_0 ≤ 80) (ex2 : gx = x19) (ey2 : gy = x11) (eu2 : gu = x17) : PHA (pn_0) (pm_0) (pt_0) (ph_0) (alive_0) (rotMany_0) (rot_0) (x18) (x24) (x27) (gx) (gy) (gu) := by
  rw [ex2, ey2, eu2]
  refine ⟨?_, by omega⟩
  rw [show x11 = x21 by omega, show x17 = x22 by omega]; exact ‹PUc _ _ _ _ _ _ _ _ _ _ _ _›
def o_Mo_cut_10 : or_T := (135, 28, [(0, (2, 0, 0, [165])), (11, (0, 0, 159, [])), (17, (0, 0, 159, [])), (18, (0, 0, 24, [])), (19, (0, 0, 24, [])), (21, (0, 0, 159, [])), (22, (0, 0, 159, [])), (24, (0, 0, 79, [])), (27, (0, 0, 79, []))], [(11, [27, 11], [2]), (23, [21, 11], [0, 1, -1]), (23, [21, 11], [0, -1, 1]), (23, [22, 17], [0, 1, -1]), (23, [22, 17], [0, -1, 1]), (24, [0, 2], []), (20, [2, 18, 19, 21, 22, 24], [60, 2, 5, 249, 31, 32, 33, 34, 35, 36, 37])], [], [(0, 0, 24, []), (0, 0, 159, []), (0, 0, 159, [])], [(23, [28, 19], [0, 1, -1]), (23, [28, 19], [0, -1, 1]), (23, [29, 11], [0, 1, -1]), (23, [29, 11], [0, -1, 1]), (23, [30, 17], [0, 1, -1]), (23, [30, 17], [0, -1, 1]), (20, [2, 18, 24, 27, 28, 29, 30], [60, 2, 5, 259, 31, 32, 33, 34, 35, 36, 37])], [], [])
theorem oo_Mo_cut_10 {kA : Nat → ClassId} : or_ok PRD kA GG o_Mo_cut_10 := by
  refine or_mk fun A ta ws vs hD hth hl => ?_
  intro t0 r0 t11 k11 t17 k17 t18 k18 t19 k19 t21 k21 t22 k22 t24 k24 t27 k27 f0 f2 f3 f4 f5 f11 f12
  replace f0 := shm_573 f0
  replace f2 := shm_7 f2
  replace f3 := shm_22 f3
  replace f4 := shm_7 f4
  replace f5 := shm_22 f5
  replace f11 := shm_5 f11
  replace f12 := shm_645 f12
  have q2 : n_v vs 2 = n_v vs 0 := f11.symm
  simp only [q2] at f12
  have kz_0_31 := fdq_144 hD hth r0
  have kz_0_32 := fdq_139 hD hth r0
  obtain ⟨x, ex, hx⟩ := iv_ex (ta := ta) (lo := 0) (hi := 24) (z := v_iv (n_v vs 19)) (by omega) (by omega) (by omega) (by omega)
  have ex2 : v_iv (Value.int x) = v_iv (n_v vs 19) := ex
  have ex3 : 0 ≤ v_iv (Value.int x) ∧ v_iv (Value.int x) ≤ 24 := tv_rng hx
  obtain ⟨y, ey, hy⟩ := iv_ex (ta := ta) (lo := 0) (hi := 159) (z := v_iv (n_v vs 11)) (by omega) (by omega) (by omega) (by omega)
  have ey2 : v_iv (Value.int y) = v_iv (n_v vs 11) := ey
  have ey3 : 0 ≤ v_iv (Value.int y) ∧ v_iv (Value.int y) ≤ 159 := tv_rng hy
  obtain ⟨u, eu, hu⟩ := iv_ex (ta := ta) (lo := 0) (hi := 159) (z := v_iv (n_v vs 17)) (by omega) (by omega) (by omega) (by omega)
  have eu2 : v_iv (Value.int u) = v_iv (n_v vs 17) := eu
  have eu3 : 0 ≤ v_iv (Value.int u) ∧ v_iv (Value.int u) ≤ 159 := tv_rng hu
  have e_2 : n_v (vs ++ [Value.int x, Value.int y, Value.int u]) 2 = n_v vs 2 := n_v_old (by rw [hl]; decide)
  have e_11 : n_v (vs ++ [Value.int x, Value.int y, Value.int u]) 11 = n_v vs 11 := n_v_old (by rw [hl]; decide)
  have e_17 : n_v (vs ++ [Value.int x, Value.int y, Value.int u]) 17 = n_v vs 17 := n_v_old (by rw [hl]; decide)
  have e_18 : n_v (vs ++ [Value.int x, Value.int y, Value.int u]) 18 = n_v vs 18 := n_v_old (by rw [hl]; decide)
  have e_19 : n_v (vs ++ [Value.int x, Value.int y, Value.int u]) 19 = n_v vs 19 := n_v_old (by rw [hl]; decide)
  have e_24 : n_v (vs ++ [Value.int x, Value.int y, Value.int u]) 24 = n_v vs 24 := n_v_old (by rw [hl]; decide)
  have e_27 : n_v (vs ++ [Value.int x, Value.int y, Value.int u]) 27 = n_v vs 27 := n_v_old (by rw [hl]; decide)
  have e_28 : n_v (vs ++ [Value.int x, Value.int y, Value.int u]) 28 = Value.int x := n_v_newk (k := 0) hl rfl
  have e_29 : n_v (vs ++ [Value.int x, Value.int y, Value.int u]) 29 = Value.int y := n_v_newk (k := 1) hl rfl
  have e_30 : n_v (vs ++ [Value.int x, Value.int y, Value.int u]) 30 = Value.int u := n_v_newk (k := 2) hl rfl
  have nf0 : fc_1 PRD (23, [28, 19], [0, 1, -1]) ws (vs ++ [Value.int x, Value.int y, Value.int u]) := by
    refine ⟨nf_inA hl rfl, sgq_7 ?_⟩
    · show 1 * v_iv (n_v (vs ++ [Value.int x, Value.int y, Value.int u]) 28) + ((-1) * v_iv (n_v (vs ++ [Value.int x, Value.int y, Value.int u]) 19) + 0) ≤ 0
      simp only [e_19, e_28]
      exact vc_Mo_cut_10_0 (v_iv (n_v vs 19)) (v_iv (Value.int x)) k19 ex2
  have nf1 : fc_1 PRD (23, [28, 19], [0, -1, 1]) ws (vs ++ [Value.int x, Value.int y, Value.int u]) := by
    refine ⟨nf_inA hl rfl, sgq_22 ?_⟩
    · show (-1) * v_iv (n_v (vs ++ [Value.int x, Value.int y, Value.int u]) 28) + (1 * v_iv (n_v (vs ++ [Value.int x, Value.int y, Value.int u]) 19) + 0) ≤ 0
      simp only [e_19, e_28]
      exact vc_Mo_cut_10_1 (v_iv (n_v vs 19)) (v_iv (Value.int x)) k19 ex2
  have nf2 : fc_1 PRD (23, [29, 11], [0, 1, -1]) ws (vs ++ [Value.int x, Value.int y, Value.int u]) := by
    refine ⟨nf_inA hl rfl, sgq_7 ?_⟩
    · show 1 * v_iv (n_v (vs ++ [Value.int x, Value.int y, Value.int u]) 29) + ((-1) * v_iv (n_v (vs ++ [Value.int x, Value.int y, Value.int u]) 11) + 0) ≤ 0
      simp only [e_11, e_29]
      exact vc_Mo_cut_10_2 (v_iv (n_v vs 11)) (v_iv (n_v vs 21)) (v_iv (Value.int y)) k11 k21 f2 f3 ey2
  have nf3 : fc_1 PRD (23, [29, 11], [0, -1, 1]) ws (vs ++ [Value.int x, Value.int y, Value.int u]) := by
    refine ⟨nf_inA hl rfl, sgq_22 ?_⟩
    · show (-1) * v_iv (n_v (vs ++ [Value.int x, Value.int y, Value.int u]) 29) + (1 * v_iv (n_v (vs ++ [Value.int x, Value.int y, Value.int u]) 11) + 0) ≤ 0
      simp only [e_11, e_29]
      exact vc_Mo_cut_10_3 (v_iv (n_v vs 11)) (v_iv (n_v vs 21)) (v_iv (Value.int y)) k11 k21 f2 f3 ey2
  have nf4 : fc_1 PRD (23, [30, 17], [0, 1, -1]) ws (vs ++ [Value.int x, Value.int y, Value.int u]) := by
    refine ⟨nf_inA hl rfl, sgq_7 ?_⟩
    · show 1 * v_iv (n_v (vs ++ [Value.int x, Value.int y, Value.int u]) 30) + ((-1) * v_iv (n_v (vs ++ [Value.int x, Value.int y, Value.int u]) 17) + 0) ≤ 0
      simp only [e_17, e_30]
      exact vc_Mo_cut_10_4 (v_iv (n_v vs 17)) (v_iv (n_v vs 22)) (v_iv (Value.int u)) k17 k22 f4 f5 eu2
  have nf5 : fc_1 PRD (23, [30, 17], [0, -1, 1]) ws (vs ++ [Value.int x, Value.int y, Value.int u]) := by
    refine ⟨nf_inA hl rfl, sgq_22 ?_⟩
    · show (-1) * v_iv (n_v (vs ++ [Value.int x, Value.int y, Value.int u]) 30) + (1 * v_iv (n_v (vs ++ [Value.int x, Value.int y, Value.int u]) 17) + 0) ≤ 0
      simp only [e_17, e_30]
      exact vc_Mo_cut_10_5 (v_iv (n_v vs 17)) (v_iv (n_v vs 22)) (v_iv (Value.int u)) k17 k22 f4 f5 eu2
  have nf6 : fc_1 PRD (20, [2, 18, 24, 27, 28, 29, 30], [60, 2, 5, 259, 31, 32, 33, 34, 35, 36, 37]) ws (vs ++ [Value.int x, Value.int y, Value.int u]) := by
    refine ⟨nf_inA hl rfl, sgq_986 ?_⟩
    · show PHA (w_fi ws (n_v (vs ++ [Value.int x, Value.int y, Value.int u]) 2) 31) (w_fi ws (n_v (vs ++ [Value.int x, Value.int y, Value.int u]) 2) 32) (w_ei ws (w_ar ws (n_v (vs ++ [Value.int x, Value.int y, Value.int u]) 2) 33)) (w_ei ws (w_ar ws (n_v (vs ++ [Value.int x, Value.int y, Value.int u]) 2) 34)) (w_ei ws (w_ar ws (n_v (vs ++ [Value.int x, Value.int y, Value.int u]) 2) 35)) (w_ei ws (w_ar ws (n_v (vs ++ [Value.int x, Value.int y, Value.int u]) 2) 36)) (w_ei ws (w_ar ws (n_v (vs ++ [Value.int x, Value.int y, Value.int u]) 2) 37)) (v_iv (n_v (vs ++ [Value.int x, Value.int y, Value.int u]) 18)) (v_iv (n_v (vs ++ [Value.int x, Value.int y, Value.int u]) 24)) (v_iv (n_v (vs ++ [Value.int x, Value.int y, Value.int u]) 27)) (v_iv (n_v (vs ++ [Value.int x, Value.int y, Value.int u]) 28)) (v_iv (n_v (vs ++ [Value.int x, Value.int y, Value.int u]) 29)) (v_iv (n_v (vs ++ [Value.int x, Value.int y, Value.int u]) 30))
      simp only [e_2, e_18, e_24, e_27, e_28, e_29, e_30, q2]
      exact vc_Mo_cut_10_6 (v_iv (n_v vs 11)) (v_iv (n_v vs 17)) (v_iv (n_v vs 18)) (v_iv (n_v vs 19)) (v_iv (n_v vs 21)) (v_iv (n_v vs 22)) (v_iv (n_v vs 24)) (v_iv (n_v vs 27)) (w_fi ws (n_v vs 0) 31) (w_ei ws (w_ar ws (n_v vs 0) 33)) (w_ei ws (w_ar ws (n_v vs 0) 34)) (w_ei ws (w_ar ws (n_v vs 0) 35)) (w_ei ws (w_ar ws (n_v vs 0) 36)) (w_ei ws (w_ar ws (n_v vs 0) 37)) (w_fi ws (n_v vs 0) 32) (v_iv (Value.int x)) (v_iv (Value.int y)) (v_iv (Value.int u)) k11 k17 k18 k19 k21 k22 k24 k27 f0 f2 f3 f4 f5 f12 kz_0_31 kz_0_32 ex2 ey2 eu2
  exact ⟨(fun _ h => (by cases h)), [Value.int x, Value.int y, Value.int u], ag_three hx hy hu, List.forall_mem_cons.mpr ⟨⟨show (23 : Nat) < 100 from by decide, nf0⟩, List.forall_mem_cons.mpr ⟨⟨show (23 : Nat) < 100 from by decide, nf1⟩, List.forall_mem_cons.mpr ⟨⟨show (23 : Nat) < 100 from by decide, nf2⟩, List.forall_mem_cons.mpr ⟨⟨show (23 : Nat) < 100 from by decide, nf3⟩, List.forall_mem_cons.mpr ⟨⟨show (23 : Nat) < 100 from by decide, nf4⟩, List.forall_mem_cons.mpr ⟨⟨show (23 : Nat) < 100 from by decide, nf5⟩, List.forall_mem_cons.mpr ⟨⟨show (20 : Nat) < 100 from by decide, nf6⟩, (fun _ h => (by cases h))⟩⟩⟩⟩⟩⟩⟩, (fun _ h => (by cases h))⟩
set_option maxHeartbeats 4000000 in
theorem vc_Mo_cut_11_0 (x18 : Int) (gx : Int) (k18 : 0 ≤ x18 ∧ x18 ≤ 24) (ex2 : gx = x18) : 1 * gx + ((-1) * x18 + 0) ≤ 0 := by
  first
    | omega
    | (have h := euler_m ‹GRI _ _ _ _ _ _ _› ‹CON _ _ _ _ _› (by omega) ‹GRD _ _ _ _ _ _ _ _ _ _›
       omega)
set_option maxHeartbeats 4000000 in
theorem vc_Mo_cut_11_1 (x18 : Int) (gx : Int) (k18 : 0 ≤ x18 ∧ x18 ≤ 24) (ex2 : gx = x18) : (-1) * gx + (1 * x18 + 0) ≤ 0 := by
  first
    | omega
    | (have h := euler_m ‹GRI _ _ _ _ _ _ _› ‹CON _ _ _ _ _› (by omega) ‹GRD _ _ _ _ _ _ _ _ _ _›
       omega)
set_option maxHeartbeats 4000000 in
theorem vc_Mo_cut_11_2 (x11 : Int) (x29 : Int) (gy : Int) (k11 : 0 ≤ x11 ∧ x11 ≤ 159) (k29 : 0 ≤ x29 ∧ x29 ≤ 159) (f4 : 1 * x29 + ((-1) * x11 + 0) ≤ 0) (f5 : (-1) * x29 + (1 * x11 + 0) ≤ 0) (ey2 : gy = x11) : 1 * gy + ((-1) * x11 + 0) ≤ 0 := by
  first
    | omega
    | (have h := euler_m ‹GRI _ _ _ _ _ _ _› ‹CON _ _ _ _ _› (by omega) ‹GRD _ _ _ _ _ _ _ _ _ _›
       omega)
set_option maxHeartbeats 4000000 in
theorem vc_Mo_cut_11_3 (x11 : Int) (x29 : Int) (gy : Int) (k11 : 0 ≤ x11 ∧ x11 ≤ 159) (k29 : 0 ≤ x29 ∧ x29 ≤ 159) (f4 : 1 * x29 + ((-1) * x11 + 0) ≤ 0) (f5 : (-1) * x29 + (1 * x11 + 0) ≤ 0) (ey2 : gy = x11) : (-1) * gy + (1 * x11 + 0) ≤ 0 := by
  first
    | omega
    | (have h := euler_m ‹GRI _ _ _ _ _ _ _› ‹CON _ _ _ _ _› (by omega) ‹GRD _ _ _ _ _ _ _ _ _ _›
       omega)
set_option maxHeartbeats 4000000 in
theorem vc_Mo_cut_11_4 (x17 : Int) (x30 : Int) (gu : Int) (k17 : 0 ≤ x17 ∧ x17 ≤ 159) (k30 : 0 ≤ x30 ∧ x30 ≤ 159) (f6 : 1 * x30 + ((-1) * x17 + 0) ≤ 0) (f7 : (-1) * x30 + (1 * x17 + 0) ≤ 0) (eu2 : gu = x17) : 1 * gu + ((-1) * x17 + 0) ≤ 0 := by
  first
    | omega
    | (have h := euler_m ‹GRI _ _ _ _ _ _ _› ‹CON _ _ _ _ _› (by omega) ‹GRD _ _ _ _ _ _ _ _ _ _›
       omega)
set_option maxHeartbeats 4000000 in
theorem vc_Mo_cut_11_5 (x17 : Int) (x30 : Int) (gu : Int) (k17 : 0 ≤ x17 ∧ x17 ≤ 159) (k30 : 0 ≤ x30 ∧ x30 ≤ 159) (f6 : 1 * x30 + ((-1) * x17 + 0) ≤ 0) (f7 : (-1) * x30 + (1 * x17 + 0) ≤ 0) (eu2 : gu = x17) : (-1) * gu + (1 * x17 + 0) ≤ 0 := by
  first
    | omega
    | (have h := euler_m ‹GRI _ _ _ _ _ _ _› ‹CON _ _ _ _ _› (by omega) ‹GRD _ _ _ _ _ _ _ _ _ _›
       omega)
set_option maxHeartbeats 4000000 in
theorem vc_Mo_cut_11_6 (x11 : Int) (x17 : Int) (x18 : Int) (x19 : Int) (x24 : Int) (x28 : Int) (x29 : Int) (x30 : Int) (x32 : Int) (pn_0 : Int) (pt_0 : Int → Int) (ph_0 : Int → Int) (alive_0 : Int → Int) (pm_0 : Int) (rotMany_0 : Int → Int) (rot_0 : Int → Int) (gx : Int) (gy : Int) (gu : Int) (k11 : 0 ≤ x11 ∧ x11 ≤ 159) (k17 : 0 ≤ x17 ∧ x17 ≤ 159) (k18 : 0 ≤ x18 ∧ x18 ≤ 24) (k19 : 0 ≤ x19 ∧ x19 ≤ 24) (k24 : 0 ≤ x24 ∧ x24 ≤ 79) (k28 : 0 ≤ x28 ∧ x28 ≤ 24) (k29 : 0 ≤ x29 ∧ x29 ≤ 159) (k30 : 0 ≤ x30 ∧ x30 ≤ 159) (k32 : 0 ≤ x32 ∧ x32 ≤ 79) (f0 : x32 = x17 / 2) (f2 : 1 * x28 + ((-1) * x19 + 0) ≤ 0) (f3 : (-1) * x28 + (1 * x19 + 0) ≤ 0) (f4 : 1 * x29 + ((-1) * x11 + 0) ≤ 0) (f5 : (-1) * x29 + (1 * x11 + 0) ≤ 0) (f6 : 1 * x30 + ((-1) * x17 + 0) ≤ 0) (f7 : (-1) * x30 + (1 * x17 + 0) ≤ 0) (f20 : PUd (pn_0) (pm_0) (pt_0) (ph_0) (alive_0) (rotMany_0) (rot_0) (x18) (x28) (x29) (x30) (x24)) (kz_0_31 : 0 ≤ pn_0 ∧ pn_0 ≤ 25) (kz_0_32 : 0 ≤ pm_0 ∧ pm_0 ≤ 80) (ex2 : gx = x18) (ey2 : gy = x11) (eu2 : gu = x17) : PHB (pn_0) (pm_0) (pt_0) (ph_0) (alive_0) (rotMany_0) (rot_0) (x19) (x24) (x32) (gx) (gy) (gu) := by
  rw [ex2, ey2, eu2]
  refine ⟨?_, by omega⟩
  rw [show x19 = x28 by omega, show x11 = x29 by omega, show x17 = x30 by omega]; exact ‹PUd _ _ _ _ _ _ _ _ _ _ _ _›
def o_Mo_cut_11 : or_T := (147, 33, [(0, (2, 0, 0, [165])), (11, (0, 0, 159, [])), (17, (0, 0, 159, [])), (18, (0, 0, 24, [])), (19, (0, 0, 24, [])), (24, (0, 0, 79, [])), (28, (0, 0, 24, [])), (29, (0, 0, 159, [])), (30, (0, 0, 159, [])), (32, (0, 0, 79, []))], [(11, [32, 17], [2]), (23, [28, 19], [0, 1, -1]), (23, [28, 19], [0, -1, 1]), (23, [29, 11], [0, 1, -1]), (23, [29, 11], [0, -1, 1]), (23, [30, 17], [0, 1, -1]), (23, [30, 17], [0, -1, 1]), (24, [0, 2], []), (20, [2, 18, 28, 29, 30, 24], [60, 2, 5, 250, 31, 32, 33, 34, 35, 36, 37])], [], [(0, 0, 24, []), (0, 0, 159, []), (0, 0, 159, [])], [(23, [33, 18], [0, 1, -1]), (23, [33, 18], [0, -1, 1]), (23, [34, 11], [0, 1, -1]), (23, [34, 11], [0, -1, 1]), (23, [35, 17], [0, 1, -1]), (23, [35, 17], [0, -1, 1]), (20, [2, 19, 24, 32, 33, 34, 35], [60, 2, 5, 260, 31, 32, 33, 34, 35, 36, 37])], [], [])
theorem oo_Mo_cut_11 {kA : Nat → ClassId} : or_ok PRD kA GG o_Mo_cut_11 := by
  refine or_mk fun A ta ws vs hD hth hl => ?_
  intro t0 r0 t11 k11 t17 k17 t18 k18 t19 k19 t24 k24 t28 k28 t29 k29 t30 k30 t32 k32 f0 f2 f3 f4 f5 f6 f7 f17 f20
  replace f0 := shm_573 f0
  replace f2 := shm_7 f2
  replace f3 := shm_22 f3
  replace f4 := shm_7 f4
  replace f5 := shm_22 f5
  replace f6 := shm_7 f6
  replace f7 := shm_22 f7
  replace f17 := shm_5 f17
  replace f20 := shm_681 f20
  have q2 : n_v vs 2 = n_v vs 0 := f17.symm
  simp only [q2] at f20
  have kz_0_31 := fdq_144 hD hth r0
  have kz_0_32 := fdq_139 hD hth r0
  obtain ⟨x, ex, hx⟩ := iv_ex (ta := ta) (lo := 0) (hi := 24) (z := v_iv (n_v vs 18)) (by omega) (by omega) (by omega) (by omega)
  have ex2 : v_iv (Value.int x) = v_iv (n_v vs 18) := ex
  have ex3 : 0 ≤ v_iv (Value.int x) ∧ v_iv (Value.int x) ≤ 24 := tv_rng hx
  obtain ⟨y, ey, hy⟩ := iv_ex (ta := ta) (lo := 0) (hi := 159) (z := v_iv (n_v vs 11)) (by omega) (by omega) (by omega) (by omega)
  have ey2 : v_iv (Value.int y) = v_iv (n_v vs 11) := ey
  have ey3 : 0 ≤ v_iv (Value.int y) ∧ v_iv (Value.int y) ≤ 159 := tv_rng hy
  obtain ⟨u, eu, hu⟩ := iv_ex (ta := ta) (lo := 0) (hi := 159) (z := v_iv (n_v vs 17)) (by omega) (by omega) (by omega) (by omega)
  have eu2 : v_iv (Value.int u) = v_iv (n_v vs 17) := eu
  have eu3 : 0 ≤ v_iv (Value.int u) ∧ v_iv (Value.int u) ≤ 159 := tv_rng hu
  have e_2 : n_v (vs ++ [Value.int x, Value.int y, Value.int u]) 2 = n_v vs 2 := n_v_old (by rw [hl]; decide)
  have e_11 : n_v (vs ++ [Value.int x, Value.int y, Value.int u]) 11 = n_v vs 11 := n_v_old (by rw [hl]; decide)
  have e_17 : n_v (vs ++ [Value.int x, Value.int y, Value.int u]) 17 = n_v vs 17 := n_v_old (by rw [hl]; decide)
  have e_18 : n_v (vs ++ [Value.int x, Value.int y, Value.int u]) 18 = n_v vs 18 := n_v_old (by rw [hl]; decide)
  have e_19 : n_v (vs ++ [Value.int x, Value.int y, Value.int u]) 19 = n_v vs 19 := n_v_old (by rw [hl]; decide)
  have e_24 : n_v (vs ++ [Value.int x, Value.int y, Value.int u]) 24 = n_v vs 24 := n_v_old (by rw [hl]; decide)
  have e_32 : n_v (vs ++ [Value.int x, Value.int y, Value.int u]) 32 = n_v vs 32 := n_v_old (by rw [hl]; decide)
  have e_33 : n_v (vs ++ [Value.int x, Value.int y, Value.int u]) 33 = Value.int x := n_v_newk (k := 0) hl rfl
  have e_34 : n_v (vs ++ [Value.int x, Value.int y, Value.int u]) 34 = Value.int y := n_v_newk (k := 1) hl rfl
  have e_35 : n_v (vs ++ [Value.int x, Value.int y, Value.int u]) 35 = Value.int u := n_v_newk (k := 2) hl rfl
  have nf0 : fc_1 PRD (23, [33, 18], [0, 1, -1]) ws (vs ++ [Value.int x, Value.int y, Value.int u]) := by
    refine ⟨nf_inA hl rfl, sgq_7 ?_⟩
    · show 1 * v_iv (n_v (vs ++ [Value.int x, Value.int y, Value.int u]) 33) + ((-1) * v_iv (n_v (vs ++ [Value.int x, Value.int y, Value.int u]) 18) + 0) ≤ 0
      simp only [e_18, e_33]
      exact vc_Mo_cut_11_0 (v_iv (n_v vs 18)) (v_iv (Value.int x)) k18 ex2
  have nf1 : fc_1 PRD (23, [33, 18], [0, -1, 1]) ws (vs ++ [Value.int x, Value.int y, Value.int u]) := by
    refine ⟨nf_inA hl rfl, sgq_22 ?_⟩
    · show (-1) * v_iv (n_v (vs ++ [Value.int x, Value.int y, Value.int u]) 33) + (1 * v_iv (n_v (vs ++ [Value.int x, Value.int y, Value.int u]) 18) + 0) ≤ 0
      simp only [e_18, e_33]
      exact vc_Mo_cut_11_1 (v_iv (n_v vs 18)) (v_iv (Value.int x)) k18 ex2
  have nf2 : fc_1 PRD (23, [34, 11], [0, 1, -1]) ws (vs ++ [Value.int x, Value.int y, Value.int u]) := by
    refine ⟨nf_inA hl rfl, sgq_7 ?_⟩
    · show 1 * v_iv (n_v (vs ++ [Value.int x, Value.int y, Value.int u]) 34) + ((-1) * v_iv (n_v (vs ++ [Value.int x, Value.int y, Value.int u]) 11) + 0) ≤ 0
      simp only [e_11, e_34]
      exact vc_Mo_cut_11_2 (v_iv (n_v vs 11)) (v_iv (n_v vs 29)) (v_iv (Value.int y)) k11 k29 f4 f5 ey2
  have nf3 : fc_1 PRD (23, [34, 11], [0, -1, 1]) ws (vs ++ [Value.int x, Value.int y, Value.int u]) := by
    refine ⟨nf_inA hl rfl, sgq_22 ?_⟩
    · show (-1) * v_iv (n_v (vs ++ [Value.int x, Value.int y, Value.int u]) 34) + (1 * v_iv (n_v (vs ++ [Value.int x, Value.int y, Value.int u]) 11) + 0) ≤ 0
      simp only [e_11, e_34]
      exact vc_Mo_cut_11_3 (v_iv (n_v vs 11)) (v_iv (n_v vs 29)) (v_iv (Value.int y)) k11 k29 f4 f5 ey2
  have nf4 : fc_1 PRD (23, [35, 17], [0, 1, -1]) ws (vs ++ [Value.int x, Value.int y, Value.int u]) := by
    refine ⟨nf_inA hl rfl, sgq_7 ?_⟩
    · show 1 * v_iv (n_v (vs ++ [Value.int x, Value.int y, Value.int u]) 35) + ((-1) * v_iv (n_v (vs ++ [Value.int x, Value.int y, Value.int u]) 17) + 0) ≤ 0
      simp only [e_17, e_35]
      exact vc_Mo_cut_11_4 (v_iv (n_v vs 17)) (v_iv (n_v vs 30)) (v_iv (Value.int u)) k17 k30 f6 f7 eu2
  have nf5 : fc_1 PRD (23, [35, 17], [0, -1, 1]) ws (vs ++ [Value.int x, Value.int y, Value.int u]) := by
    refine ⟨nf_inA hl rfl, sgq_22 ?_⟩
    · show (-1) * v_iv (n_v (vs ++ [Value.int x, Value.int y, Value.int u]) 35) + (1 * v_iv (n_v (vs ++ [Value.int x, Value.int y, Value.int u]) 17) + 0) ≤ 0
      simp only [e_17, e_35]
      exact vc_Mo_cut_11_5 (v_iv (n_v vs 17)) (v_iv (n_v vs 30)) (v_iv (Value.int u)) k17 k30 f6 f7 eu2
  have nf6 : fc_1 PRD (20, [2, 19, 24, 32, 33, 34, 35], [60, 2, 5, 260, 31, 32, 33, 34, 35, 36, 37]) ws (vs ++ [Value.int x, Value.int y, Value.int u]) := by
    refine ⟨nf_inA hl rfl, sgq_988 ?_⟩
    · show PHB (w_fi ws (n_v (vs ++ [Value.int x, Value.int y, Value.int u]) 2) 31) (w_fi ws (n_v (vs ++ [Value.int x, Value.int y, Value.int u]) 2) 32) (w_ei ws (w_ar ws (n_v (vs ++ [Value.int x, Value.int y, Value.int u]) 2) 33)) (w_ei ws (w_ar ws (n_v (vs ++ [Value.int x, Value.int y, Value.int u]) 2) 34)) (w_ei ws (w_ar ws (n_v (vs ++ [Value.int x, Value.int y, Value.int u]) 2) 35)) (w_ei ws (w_ar ws (n_v (vs ++ [Value.int x, Value.int y, Value.int u]) 2) 36)) (w_ei ws (w_ar ws (n_v (vs ++ [Value.int x, Value.int y, Value.int u]) 2) 37)) (v_iv (n_v (vs ++ [Value.int x, Value.int y, Value.int u]) 19)) (v_iv (n_v (vs ++ [Value.int x, Value.int y, Value.int u]) 24)) (v_iv (n_v (vs ++ [Value.int x, Value.int y, Value.int u]) 32)) (v_iv (n_v (vs ++ [Value.int x, Value.int y, Value.int u]) 33)) (v_iv (n_v (vs ++ [Value.int x, Value.int y, Value.int u]) 34)) (v_iv (n_v (vs ++ [Value.int x, Value.int y, Value.int u]) 35))
      simp only [e_2, e_19, e_24, e_32, e_33, e_34, e_35, q2]
      exact vc_Mo_cut_11_6 (v_iv (n_v vs 11)) (v_iv (n_v vs 17)) (v_iv (n_v vs 18)) (v_iv (n_v vs 19)) (v_iv (n_v vs 24)) (v_iv (n_v vs 28)) (v_iv (n_v vs 29)) (v_iv (n_v vs 30)) (v_iv (n_v vs 32)) (w_fi ws (n_v vs 0) 31) (w_ei ws (w_ar ws (n_v vs 0) 33)) (w_ei ws (w_ar ws (n_v vs 0) 34)) (w_ei ws (w_ar ws (n_v vs 0) 35)) (w_fi ws (n_v vs 0) 32) (w_ei ws (w_ar ws (n_v vs 0) 36)) (w_ei ws (w_ar ws (n_v vs 0) 37)) (v_iv (Value.int x)) (v_iv (Value.int y)) (v_iv (Value.int u)) k11 k17 k18 k19 k24 k28 k29 k30 k32 f0 f2 f3 f4 f5 f6 f7 f20 kz_0_31 kz_0_32 ex2 ey2 eu2
  exact ⟨(fun _ h => (by cases h)), [Value.int x, Value.int y, Value.int u], ag_three hx hy hu, List.forall_mem_cons.mpr ⟨⟨show (23 : Nat) < 100 from by decide, nf0⟩, List.forall_mem_cons.mpr ⟨⟨show (23 : Nat) < 100 from by decide, nf1⟩, List.forall_mem_cons.mpr ⟨⟨show (23 : Nat) < 100 from by decide, nf2⟩, List.forall_mem_cons.mpr ⟨⟨show (23 : Nat) < 100 from by decide, nf3⟩, List.forall_mem_cons.mpr ⟨⟨show (23 : Nat) < 100 from by decide, nf4⟩, List.forall_mem_cons.mpr ⟨⟨show (23 : Nat) < 100 from by decide, nf5⟩, List.forall_mem_cons.mpr ⟨⟨show (20 : Nat) < 100 from by decide, nf6⟩, (fun _ h => (by cases h))⟩⟩⟩⟩⟩⟩⟩, (fun _ h => (by cases h))⟩
set_option maxHeartbeats 4000000 in
theorem vc_Mo_cut_12_0 (pn_0 : Int) (pt_0 : Int → Int) (ph_0 : Int → Int) (alive_0 : Int → Int) (pm_0 : Int) (rotMany_0 : Int → Int) (rot_0 : Int → Int) (f8 : GRI (pn_0) (pm_0) (pt_0) (ph_0) (alive_0) (rotMany_0) (rot_0)) (kz_0_31 : 0 ≤ pn_0 ∧ pn_0 ≤ 25) (kz_0_32 : 0 ≤ pm_0 ∧ pm_0 ≤ 80) : GRI (pn_0) (pm_0) (pt_0) (ph_0) (alive_0) (rotMany_0) (rot_0) := by
  assumption
set_option maxHeartbeats 4000000 in
theorem vc_Mo_cut_12_1 (pn_0 : Int) (pt_0 : Int → Int) (ph_0 : Int → Int) (alive_0 : Int → Int) (pm_0 : Int) (f6 : CON (pn_0) (pm_0) (pt_0) (ph_0) (alive_0)) (kz_0_31 : 0 ≤ pn_0 ∧ pn_0 ≤ 25) (kz_0_32 : 0 ≤ pm_0 ∧ pm_0 ≤ 80) : CON (pn_0) (pm_0) (pt_0) (ph_0) (alive_0) := by
  assumption
set_option maxHeartbeats 4000000 in
theorem vc_Mo_cut_12_2 (x36 : Int) (pt_0 : Int → Int) (ph_0 : Int → Int) (alive_0 : Int → Int) (pm_0 : Int) (rotMany_0 : Int → Int) (rot_0 : Int → Int) (k36 : 1 ≤ x36 ∧ x36 ≤ 1) (kz_0_32 : 0 ≤ pm_0 ∧ pm_0 ≤ 80) : CUA (pm_0) (pt_0) (ph_0) (alive_0) (rotMany_0) (rot_0) (x36) := by
  first
    | exact fun _ => ftr_of ‹GRI _ _ _ _ _ _ _› ‹CON _ _ _ _ _› (by omega) ‹GRD _ _ _ _ _ _ _ _ _ _› ‹CT1 _ _› (by omega)
    | (intro z; exfalso; omega)
set_option maxHeartbeats 4000000 in
theorem vc_Mo_cut_12_3 (x1 : Int) (x23 : Int) (x36 : Int) (pm_0 : Int) (k1 : 0 ≤ x1 ∧ x1 ≤ 80) (k23 : 0 ≤ x23 ∧ x23 ≤ 80) (k36 : 1 ≤ x36 ∧ x36 ≤ 1) (f0 : 1 * x23 + ((-1) * x1 + 0) ≤ 0) (f1 : (-1) * x23 + (1 * x1 + 0) ≤ 0) (f7 : pm_0 = (x23 + 1)) (kz_0_32 : 0 ≤ pm_0 ∧ pm_0 ≤ 80) : (x36 ≠ 0) → (pm_0 = (x1 + 1)) := by
  first
    | omega
    | (have h := euler_m ‹GRI _ _ _ _ _ _ _› ‹CON _ _ _ _ _› (by omega) ‹GRD _ _ _ _ _ _ _ _ _ _›
       omega)
set_option maxHeartbeats 4000000 in
theorem vc_Mo_cut_12_4 (x1 : Int) (x36 : Int) (pm_0 : Int) (k1 : 0 ≤ x1 ∧ x1 ≤ 80) (k36 : 1 ≤ x36 ∧ x36 ≤ 1) (kz_0_32 : 0 ≤ pm_0 ∧ pm_0 ≤ 80) : (x36 = 0) → (pm_0 = x1) := by
  first
    | omega
    | (have h := euler_m ‹GRI _ _ _ _ _ _ _› ‹CON _ _ _ _ _› (by omega) ‹GRD _ _ _ _ _ _ _ _ _ _›
       omega)
def o_Mo_cut_12 : or_T := (151, 37, [(0, (2, 0, 0, [165])), (1, (0, 0, 80, [])), (23, (0, 0, 80, [])), (36, (0, 1, 1, []))], [(23, [23, 1], [0, 1, -1]), (23, [23, 1], [0, -1, 1]), (24, [0, 2], []), (20, [2], [60, 2, 3, 264, 31, 32, 33, 34, 35]), (20, [2, 23], [50, 1, 0, 32, 1, 3, 2, 0, 32, 4, 2, 1, 1, 0, 1]), (20, [2], [60, 2, 5, 261, 31, 32, 33, 34, 35, 36, 37])], [], [], [(20, [0], [60, 2, 5, 261, 31, 32, 33, 34, 35, 36, 37]), (20, [0], [60, 2, 3, 264, 31, 32, 33, 34, 35]), (20, [0, 36], [60, 1, 5, 273, 32, 33, 34, 35, 36, 37]), (20, [36, 0, 1], [50, 1, 0, 1032, 4, 6, 7, 2, 1, 0, 0, 0, 1, 3, 2, 1, 32, 4, 2, 1, 2, 0, 1]), (20, [36, 0, 1], [50, 1, 0, 1032, 4, 6, 1, 2, 1, 0, 0, 0, 1, 3, 2, 1, 32, 1, 2])], [], [])
theorem oo_Mo_cut_12 {kA : Nat → ClassId} : or_ok PRD kA GG o_Mo_cut_12 := by
  refine or_mk fun A ta ws vs hD hth hl => ?_
  intro t0 r0 t1 k1 t23 k23 t36 k36 f0 f1 f5 f6 f7 f8
  replace f5 := shm_5 f5
  replace f6 := shm_643 f6
  replace f7 := shm_646 f7
  replace f8 := shm_678 f8
  have q2 : n_v vs 2 = n_v vs 0 := f5.symm
  simp only [q2] at f6 f7 f8
  have kz_0_31 := fdq_144 hD hth r0
  have kz_0_32 := fdq_139 hD hth r0
  have nf0 : fc_1 PRD (20, [0], [60, 2, 5, 261, 31, 32, 33, 34, 35, 36, 37]) ws (vs) := ⟨nf_in hl rfl, sgq_678 (vc_Mo_cut_12_0 (w_fi ws (n_v vs 0) 31) (w_ei ws (w_ar ws (n_v vs 0) 33)) (w_ei ws (w_ar ws (n_v vs 0) 34)) (w_ei ws (w_ar ws (n_v vs 0) 35)) (w_fi ws (n_v vs 0) 32) (w_ei ws (w_ar ws (n_v vs 0) 36)) (w_ei ws (w_ar ws (n_v vs 0) 37)) f8 kz_0_31 kz_0_32)⟩
  have nf1 : fc_1 PRD (20, [0], [60, 2, 3, 264, 31, 32, 33, 34, 35]) ws (vs) := ⟨nf_in hl rfl, sgq_643 (vc_Mo_cut_12_1 (w_fi ws (n_v vs 0) 31) (w_ei ws (w_ar ws (n_v vs 0) 33)) (w_ei ws (w_ar ws (n_v vs 0) 34)) (w_ei ws (w_ar ws (n_v vs 0) 35)) (w_fi ws (n_v vs 0) 32) f6 kz_0_31 kz_0_32)⟩
  have nf2 : fc_1 PRD (20, [0, 36], [60, 1, 5, 273, 32, 33, 34, 35, 36, 37]) ws (vs) := ⟨nf_in hl rfl, sgq_1738 (vc_Mo_cut_12_2 (v_iv (n_v vs 36)) (w_ei ws (w_ar ws (n_v vs 0) 33)) (w_ei ws (w_ar ws (n_v vs 0) 34)) (w_ei ws (w_ar ws (n_v vs 0) 35)) (w_fi ws (n_v vs 0) 32) (w_ei ws (w_ar ws (n_v vs 0) 36)) (w_ei ws (w_ar ws (n_v vs 0) 37)) k36 kz_0_32)⟩
  have nf3 : fc_1 PRD (20, [36, 0, 1], [50, 1, 0, 1032, 4, 6, 7, 2, 1, 0, 0, 0, 1, 3, 2, 1, 32, 4, 2, 1, 2, 0, 1]) ws (vs) := ⟨nf_in hl rfl, sgq_1739 (vc_Mo_cut_12_3 (v_iv (n_v vs 1)) (v_iv (n_v vs 23)) (v_iv (n_v vs 36)) (w_fi ws (n_v vs 0) 32) k1 k23 k36 (shm_7 f0) (shm_22 f1) f7 kz_0_32)⟩
  have nf4 : fc_1 PRD (20, [36, 0, 1], [50, 1, 0, 1032, 4, 6, 1, 2, 1, 0, 0, 0, 1, 3, 2, 1, 32, 1, 2]) ws (vs) := ⟨nf_in hl rfl, sgq_1740 (vc_Mo_cut_12_4 (v_iv (n_v vs 1)) (v_iv (n_v vs 36)) (w_fi ws (n_v vs 0) 32) k1 k36 kz_0_32)⟩
  refine ⟨(fun _ h => (by cases h)), [], trivial, ?_, (fun _ h => (by cases h))⟩
  rw [List.append_nil]
  exact List.forall_mem_cons.mpr ⟨⟨show (20 : Nat) < 100 from by decide, nf0⟩, List.forall_mem_cons.mpr ⟨⟨show (20 : Nat) < 100 from by decide, nf1⟩, List.forall_mem_cons.mpr ⟨⟨show (20 : Nat) < 100 from by decide, nf2⟩, List.forall_mem_cons.mpr ⟨⟨show (20 : Nat) < 100 from by decide, nf3⟩, List.forall_mem_cons.mpr ⟨⟨show (20 : Nat) < 100 from by decide, nf4⟩, (fun _ h => (by cases h))⟩⟩⟩⟩⟩
set_option maxHeartbeats 4000000 in
theorem vc_Mo_cut_13_0 (x3 : Int) (x4 : Int) (x5 : Int) (x9 : Int) (x10 : Int) (x11 : Int) (x12 : Int) (x14 : Int) (x15 : Int) (x16 : Int) (x17 : Int) (x18 : Int) (x19 : Int) (x20 : Int) (x21 : Int) (pt_0 : Int → Int) (ph_0 : Int → Int) (alive_0 : Int → Int) (pm_0 : Int) (roundDart_0 : Int → Int) (roundBegin_0 : Int → Int) (k3 : 0 ≤ x3 ∧ x3 ≤ 159) (k4 : 4 ≤ x4 ∧ x4 ≤ 160) (k5 : 0 ≤ x5 ∧ x5 ≤ 159) (k9 : 0 ≤ x9 ∧ x9 ≤ 160) (k10 : 0 ≤ x10 ∧ x10 ≤ 159) (k11 : 0 ≤ x11 ∧ x11 ≤ 159) (k12 : 0 ≤ x12 ∧ x12 ≤ 160) (k14 : 1 ≤ x14 ∧ x14 ≤ 160) (k15 : 0 ≤ x15 ∧ x15 ≤ 159) (k16 : 0 ≤ x16 ∧ x16 ≤ 159) (k17 : 0 ≤ x17 ∧ x17 ≤ 159) (k18 : 0 ≤ x18 ∧ x18 ≤ 24) (k19 : 0 ≤ x19 ∧ x19 ≤ 24) (k20 : 0 ≤ x20 ∧ x20 ≤ 79) (k21 : 1 ≤ x21 ∧ x21 ≤ 160) (d0 : x5 + 1 ≤ x21 ∧ x21 ≤ x5 + 1) (d5 : x5 + 1 ≤ x14 ∧ x14 ≤ x5 + 1) (f0 : x21 = x5 + 1) (f1 : 0 ≤ x20) (f2 : EOF (pm_0) (pt_0) (ph_0) (alive_0) (x18) (x19) (x20)) (f4 : DTO (pt_0) (ph_0) (x17) (x19)) (f5 : DFR (pt_0) (ph_0) (x11) (x18)) (h6 : x17 = roundDart_0 (x16)) (f7 : x16 = x12 + x15) (f8 : x15 = Int.tmod (x14) (x4)) (h10 : x12 = roundBegin_0 (x3)) (h13 : x11 = roundDart_0 (x10)) (f14 : x10 = x9 + x5) (h15 : x9 = roundBegin_0 (x3)) (f16 : x5 < x4) (f24 : CT2 (pm_0) (pt_0) (ph_0) (alive_0) (roundBegin_0) (roundDart_0) (x3) (x4) (x5)) (kz_0_32 : 0 ≤ pm_0 ∧ pm_0 ≤ 80) : CT2 (pm_0) (pt_0) (ph_0) (alive_0) (roundBegin_0) (roundDart_0) (x3) (x4) (x21) := by
  first
    | exact ⟨⟨by rw [← (by omega : x8 = x3 + 1)]; omega, by omega⟩, fun t a b => by exfalso; omega⟩
    | (have e1 : x15 = nr x4 x5 := by
         rw [‹x15 = Int.tmod x14 x4›, Int.tmod_eq_emod_of_nonneg (by omega), show x14 = x5 + 1 by omega]; exact nr_m1 (by omega) (by omega)
       exact ct2_next (d := x11) (x := x17) (r := 0) ‹CT2 _ _ _ _ _ _ _ _ _› (by omega) (by rw [← (by omega : x10 = roundBegin_0 x3 + x5)]; assumption) (by rw [← e1, ← (by omega : x16 = roundBegin_0 x3 + x15)]; assumption) ‹DFR _ _ _ _› ‹DTO _ _ _ _› (Or.inl (by omega)))
    | (have e1 : x15 = nr x4 x5 := by
         rw [‹x15 = Int.tmod x14 x4›, Int.tmod_eq_emod_of_nonneg (by omega), show x14 = x5 + 1 by omega]; exact nr_m1 (by omega) (by omega)
       exact ct2_next (d := x11) (x := x17) ‹CT2 _ _ _ _ _ _ _ _ _› (by omega) (by rw [← (by omega : x10 = roundBegin_0 x3 + x5)]; assumption) (by rw [← e1, ← (by omega : x16 = roundBegin_0 x3 + x15)]; assumption) ‹DFR _ _ _ _› ‹DTO _ _ _ _› (Or.inr ⟨‹EOF _ _ _ _ _ _ _›, by omega⟩))
def o_Mo_cut_13 : or_T := (40, 22, [(0, (2, 0, 0, [165])), (3, (0, 0, 159, [])), (4, (0, 4, 160, [])), (5, (0, 0, 159, [])), (9, (0, 0, 160, [])), (10, (0, 0, 159, [])), (11, (0, 0, 159, [])), (12, (0, 0, 160, [])), (14, (0, 1, 160, [])), (15, (0, 0, 159, [])), (16, (0, 0, 159, [])), (17, (0, 0, 159, [])), (18, (0, 0, 24, [])), (19, (0, 0, 24, [])), (20, (0, 0, 79, [])), (21, (0, 1, 160, []))], [(6, [21, 5], [1]), (8, [20], [3]), (20, [2, 18, 19, 20], [60, 1, 3, 85, 32, 33, 34, 35]), (20, [2, 17, 19], [60, 0, 2, 186, 33, 34]), (20, [2, 11, 18], [60, 0, 2, 185, 33, 34]), (10, [17, 7, 16], []), (1, [16, 12, 15], []), (5, [15, 14, 4], []), (10, [12, 8, 3], []), (9, [8, 2], [56]), (9, [7, 2], [57]), (10, [11, 7, 10], []), (1, [10, 9, 5], []), (10, [9, 8, 3], []), (7, [5, 4], [2]), (20, [2, 3, 4, 5], [60, 1, 5, 272, 32, 33, 34, 35, 56, 57]), (24, [0, 2], [])], [], [], [(20, [2, 3, 4, 21], [60, 1, 5, 272, 32, 33, 34, 35, 56, 57])], [], [(21, 5, 1, 1), (14, 5, 1, 1)])
theorem oo_Mo_cut_13 {kA : Nat → ClassId} : or_ok PRD kA GG o_Mo_cut_13 := by
  refine or_mk fun A ta ws vs hD hth hl => ?_
  intro t0 r0 t3 k3 t4 k4 t5 k5 t9 k9 t10 k10 t11 k11 t12 k12 t14 k14 t15 k15 t16 k16 t17 k17 t18 k18 t19 k19 t20 k20 t21 k21 d0 d5 f0 f1 f2 f4 f5 f6 f7 f8 f10 f11 f12 f13 f14 f15 f16 f24 f26
  replace f0 := shm_4 f0
  replace f1 := shm_32 f1
  replace f2 := shm_962 f2
  replace f4 := shm_736 f4
  replace f5 := shm_574 f5
  replace f6 := shm_106 f6
  replace f7 := shm_12 f7
  replace f8 := shm_462 f8
  replace f10 := shm_106 f10
  replace f11 := shm_1102 f11
  replace f12 := shm_1107 f12
  replace f13 := shm_106 f13
  replace f14 := shm_12 f14
  replace f15 := shm_106 f15
  replace f16 := shm_6 f16
  replace f24 := shm_1741 f24
  replace f26 := shm_5 f26
  have q2 : n_v vs 2 = n_v vs 0 := f26.symm
  simp only [q2] at f2 f4 f5 f11 f12 f24
  have ad_8 : v_ad (n_v vs 8) = w_ar ws (n_v vs 0) 56 := congrArg v_ad f11
  have ad_7 : v_ad (n_v vs 7) = w_ar ws (n_v vs 0) 57 := congrArg v_ad f12
  simp only [ad_7] at f6
  have h6 : v_iv (n_v vs 17) = w_ei ws (w_ar ws (n_v vs 0) 57) (v_iv (n_v vs 16)) := f6
  simp only [ad_8] at f10
  have h10 : v_iv (n_v vs 12) = w_ei ws (w_ar ws (n_v vs 0) 56) (v_iv (n_v vs 3)) := f10
  simp only [ad_7] at f13
  have h13 : v_iv (n_v vs 11) = w_ei ws (w_ar ws (n_v vs 0) 57) (v_iv (n_v vs 10)) := f13
  simp only [ad_8] at f15
  have h15 : v_iv (n_v vs 9) = w_ei ws (w_ar ws (n_v vs 0) 56) (v_iv (n_v vs 3)) := f15
  have kz_0_32 := fdq_139 hD hth r0
  have nf0 : fc_1 PRD (20, [2, 3, 4, 21], [60, 1, 5, 272, 32, 33, 34, 35, 56, 57]) ws (vs) := by
    refine ⟨nf_in hl rfl, sgq_1741 ?_⟩
    · show CT2 (w_fi ws (n_v vs 2) 32) (w_ei ws (w_ar ws (n_v vs 2) 33)) (w_ei ws (w_ar ws (n_v vs 2) 34)) (w_ei ws (w_ar ws (n_v vs 2) 35)) (w_ei ws (w_ar ws (n_v vs 2) 56)) (w_ei ws (w_ar ws (n_v vs 2) 57)) (v_iv (n_v vs 3)) (v_iv (n_v vs 4)) (v_iv (n_v vs 21))
      rw [q2]
      exact vc_Mo_cut_13_0 (v_iv (n_v vs 3)) (v_iv (n_v vs 4)) (v_iv (n_v vs 5)) (v_iv (n_v vs 9)) (v_iv (n_v vs 10)) (v_iv (n_v vs 11)) (v_iv (n_v vs 12)) (v_iv (n_v vs 14)) (v_iv (n_v vs 15)) (v_iv (n_v vs 16)) (v_iv (n_v vs 17)) (v_iv (n_v vs 18)) (v_iv (n_v vs 19)) (v_iv (n_v vs 20)) (v_iv (n_v vs 21)) (w_ei ws (w_ar ws (n_v vs 0) 33)) (w_ei ws (w_ar ws (n_v vs 0) 34)) (w_ei ws (w_ar ws (n_v vs 0) 35)) (w_fi ws (n_v vs 0) 32) (w_ei ws (w_ar ws (n_v vs 0) 57)) (w_ei ws (w_ar ws (n_v vs 0) 56)) k3 k4 k5 k9 k10 k11 k12 k14 k15 k16 k17 k18 k19 k20 k21 d0 d5 f0 f1 f2 f4 f5 h6 f7 f8 h10 h13 f14 h15 f16 f24 kz_0_32
  refine ⟨(fun _ h => (by cases h)), [], trivial, ?_, (fun _ h => (by cases h))⟩
  rw [List.append_nil]
  exact List.forall_mem_cons.mpr ⟨⟨show (20 : Nat) < 100 from by decide, nf0⟩, (fun _ h => (by cases h))⟩
def n_Mo_cut_an : List an_T := [(6, [(0, (2, 0, 0, [165])), (1, (0, 0, 160, []))], [], (0, 0), [(0, 0, 99994), (1, 3, 160), (0, 0, 100000), (0, 0, 0), (0, 0, 0)], [], [((0, 32), (0, 0, 80, []))], [(2, 0, 0, [165]), (0, 0, 80, [])], 0, [], [(20, [2], [60, 2, 2, 75, 31, 32, 33, 34]), (20, [2], [60, 2, 5, 261, 31, 32, 33, 34, 35, 36, 37]), (20, [2], [60, 2, 3, 264, 31, 32, 33, 34, 35]), (20, [2], [50, 1, 0, 31, 0, 2, 0, 3, 2, 0, 31]), (20, [2, 1], [50, 1, 0, 32, 1, 3, 2, 0, 32, 1, 1]), (20, [2], [60, 2, 8, 193, 32, 53, 33, 34, 35, 36, 37, 54, 56, 57]), (20, [2, 3], [60, 0, 1, 271, 56]), (24, [0, 2], [])]), (40, [(0, (2, 0, 0, [165])), (1, (0, 0, 159, [])), (2, (0, 4, 160, [])), (3, (0, 0, 160, []))], [], (0, 0), [(0, 0, 99994), (1, 3, 160), (0, 0, 99960), (1, 5, 160), (0, 0, 100000)], [], [((0, 32), (0, 0, 80, []))], [(2, 0, 0, [165]), (0, 0, 80, [])], 0, [], [(20, [2], [60, 2, 2, 75, 31, 32, 33, 34]), (20, [2], [60, 2, 5, 261, 31, 32, 33, 34, 35, 36, 37]), (20, [2], [60, 2, 3, 264, 31, 32, 33, 34, 35]), (20, [2], [50, 1, 0, 31, 0, 2, 0, 3, 2, 0, 31]), (20, [2, 1], [50, 1, 0, 32, 1, 3, 2, 0, 32, 1, 1]), (20, [2], [60, 2, 8, 193, 32, 53, 33, 34, 35, 36, 37, 54, 56, 57]), (20, [2, 3], [60, 0, 1, 271, 56]), (20, [2, 3, 4, 5], [60, 1, 5, 272, 32, 33, 34, 35, 56, 57]), (20, [3, 2], [30, (Int.negSucc 0), 1, 0, 0, (Int.negSucc 0), 1, 53]), (24, [0, 2], [])])]
def t_Mo_cut_ct : ct_L := [(1, 646, e_Mo_edgeOf), (1, 680, e_Mo_toOf), (1, 707, e_Mo_goRound), (1, 713, e_Mo_fromOf), (1, 898, e_Mo_putAhead), (1, 901, e_Mo_putBehind), (367, 886, e_Mo_newLine_at_g3)]
set_option maxRecDepth 100000 in
theorem c_Mo_cut {l : Launch} {D : va_G} {kA : Nat → ClassId} (h_Mo_edgeOf : ct_ok PRD l D kA GG y_Mo_edgeOf z_Mo_edgeOf e_Mo_edgeOf) (h_Mo_fromOf : ct_ok PRD l D kA GG y_Mo_fromOf z_Mo_fromOf e_Mo_fromOf) (h_Mo_goRound : ct_ok PRD l D kA GG y_Mo_goRound z_Mo_goRound e_Mo_goRound) (h_Mo_newLine_at_g3 : ct_ok PRD l D kA GG y_Mo_newLine_at_g3 z_Mo_newLine_at_g3 e_Mo_newLine_at_g3) (h_Mo_putAhead : ct_ok PRD l D kA GG y_Mo_putAhead z_Mo_putAhead e_Mo_putAhead) (h_Mo_putBehind : ct_ok PRD l D kA GG y_Mo_putBehind z_Mo_putBehind e_Mo_putBehind) (h_Mo_toOf : ct_ok PRD l D kA GG y_Mo_toOf z_Mo_toOf e_Mo_toOf) : ct_ok PRD l D kA GG y_Mo_cut z_Mo_cut e_Mo_cut := chk_all_ok (FT := [(111, 13, 56), (114, 13, 57), (683, 13, 53)]) (PT := []) (CT := t_Mo_cut_ct) (KT := []) (NT := []) (AN := n_Mo_cut_an) (OT := [o_Mo_cut_0, o_Mo_cut_1, o_Mo_cut_2, o_Mo_cut_3, o_Mo_cut_4, o_Mo_cut_5, o_Mo_cut_6, o_Mo_cut_7, o_Mo_cut_8, o_Mo_cut_9, o_Mo_cut_10, o_Mo_cut_11, o_Mo_cut_12, o_Mo_cut_13]) 5 404 (List.forall_mem_cons.mpr ⟨oo_Mo_cut_0, List.forall_mem_cons.mpr ⟨oo_Mo_cut_1, List.forall_mem_cons.mpr ⟨oo_Mo_cut_2, List.forall_mem_cons.mpr ⟨oo_Mo_cut_3, List.forall_mem_cons.mpr ⟨oo_Mo_cut_4, List.forall_mem_cons.mpr ⟨oo_Mo_cut_5, List.forall_mem_cons.mpr ⟨oo_Mo_cut_6, List.forall_mem_cons.mpr ⟨oo_Mo_cut_7, List.forall_mem_cons.mpr ⟨oo_Mo_cut_8, List.forall_mem_cons.mpr ⟨oo_Mo_cut_9, List.forall_mem_cons.mpr ⟨oo_Mo_cut_10, List.forall_mem_cons.mpr ⟨oo_Mo_cut_11, List.forall_mem_cons.mpr ⟨oo_Mo_cut_12, List.forall_mem_cons.mpr ⟨oo_Mo_cut_13, List.forall_mem_nil _⟩⟩⟩⟩⟩⟩⟩⟩⟩⟩⟩⟩⟩⟩) (by decide +kernel) ⟨List.forall_mem_cons.mpr ⟨gf_Mo_111, List.forall_mem_cons.mpr ⟨gf_Mo_114, List.forall_mem_cons.mpr ⟨gf_Mo_683, List.forall_mem_nil _⟩⟩⟩, List.forall_mem_nil _, List.forall_mem_cons.mpr ⟨cl_virtual (y := y_Mo_edgeOf) (ci := 13) rfl rfl ⟨_, _, rfl⟩ (by decide +kernel) h_Mo_edgeOf wm_3195 wm_9 wm_3192 wm_3194 wv_15_7 ⟨by decide, by decide, by decide +kernel⟩ (by decide), List.forall_mem_cons.mpr ⟨cl_virtual (y := y_Mo_toOf) (ci := 13) rfl rfl ⟨_, _, rfl⟩ (by decide +kernel) h_Mo_toOf wm_3263 wm_9 wm_3260 wm_3262 wv_16_8 ⟨by decide, by decide, by decide +kernel⟩ (by decide), List.forall_mem_cons.mpr ⟨cl_virtual (y := y_Mo_goRound) (ci := 13) rfl rfl ⟨_, _, rfl⟩ (by decide +kernel) h_Mo_goRound wm_3255 wm_9 wm_3252 wm_3254 wv_16_6 ⟨by decide, by decide, by decide +kernel⟩ (by decide), List.forall_mem_cons.mpr ⟨cl_virtual (y := y_Mo_fromOf) (ci := 13) rfl rfl ⟨_, _, rfl⟩ (by decide +kernel) h_Mo_fromOf wm_3275 wm_9 wm_3272 wm_3274 wv_16_10 ⟨by decide, by decide, by decide +kernel⟩ (by decide), List.forall_mem_cons.mpr ⟨cl_virtual (y := y_Mo_putAhead) (ci := 13) rfl rfl ⟨_, _, rfl⟩ (by decide +kernel) h_Mo_putAhead wm_3498 wm_9 wm_3495 wm_3497 wv_19_10 ⟨by decide, by decide, by decide +kernel⟩ (by decide), List.forall_mem_cons.mpr ⟨cl_virtual (y := y_Mo_putBehind) (ci := 13) rfl rfl ⟨_, _, rfl⟩ (by decide +kernel) h_Mo_putBehind wm_3502 wm_9 wm_3499 wm_3501 wv_19_11 ⟨by decide, by decide, by decide +kernel⟩ (by decide), List.forall_mem_cons.mpr ⟨cl_virtual (y := y_Mo_newLine_at_g3) (ci := 13) rfl rfl ⟨_, _, rfl⟩ (by decide +kernel) h_Mo_newLine_at_g3 wm_3486 wm_9 wm_3483 wm_3485 wv_19_7 ⟨by decide, by decide, by decide +kernel⟩ (by decide), List.forall_mem_nil _⟩⟩⟩⟩⟩⟩⟩, List.forall_mem_nil _, List.forall_mem_nil _, GG_pl⟩ (by decide +kernel)

set_option maxHeartbeats 4000000 in
theorem vc_Gr_alter_at_kx_0_0 (x9 : Int) (x11 : Int) (done_0 : Int) (past_0 : Int → Int) (k9 : 3782 ≤ x9 ∧ x9 ≤ 3782) (k11 : 0 ≤ x11 ∧ x11 ≤ 30) (g5 : x11 = done_0) (hT10 : ∀ j : Int, 0 ≤ j → j < x9 + 0 → 0 ≤ past_0 j ∧ past_0 j ≤ 0) (kz_0_17 : 0 ≤ done_0 ∧ done_0 ≤ 30) : PRO (past_0) (x11) := by
  first
    | exact pro_pdq ‹PDQ _ _ _› (by omega) (by omega)
    | exact pri_pro ‹PNI _ _› (by omega)
    | (have q := (‹MV2 _ _ _ _ _›); exact fun r a b => q r a (by omega))
    | exact pro_zero (by omega) (fun j a b => by have q := hT10 j a (by omega); omega)
  
def o_Gr_alter_at_kx_0 : or_T := (21, 12, [(0, (2, 0, 0, [3])), (9, (0, 3782, 3782, [])), (11, (0, 0, 30, []))], [(9, [10, 0], [16]), (9, [11, 0], [17]), (20, [10, 9], [8, 0, 0, 0])], [], [], [(20, [0, 11], [60, 0, 1, 737, 16])], [], [])
theorem oo_Gr_alter_at_kx_0 {kA : Nat → ClassId} : or_ok PRD kA GG o_Gr_alter_at_kx_0 := by
  refine or_mk fun A ta ws vs hD hth hl => ?_
  intro t0 r0 t9 k9 t11 k11 f0 f5 f10
  replace f0 := shm_188 f0
  replace f5 := shm_781 f5
  replace f10 := shm_0 f10
  have ad_10 : v_ad (n_v vs 10) = w_ar ws (n_v vs 0) 16 := congrArg v_ad f0
  have g5 : v_iv (n_v vs 11) = w_fi ws (n_v vs 0) 17 := congrArg v_iv f5
  have hT10 : ∀ j : Int, 0 ≤ j → j < v_iv (n_v vs 9) + 0 → 0 ≤ w_ei ws (w_ar ws (n_v vs 0) 16) j ∧ w_ei ws (w_ar ws (n_v vs 0) 16) j ≤ 0 := fun j h0 h1 => by have h2 := f10 j.toNat (by omega); rw [ad_10] at h2; exact h2
  have kz_0_17 := fdq_282 hD hth r0
  have nf0 : fc_1 PRD (20, [0, 11], [60, 0, 1, 737, 16]) ws (vs) := ⟨nf_in hl rfl, sgq_821 (vc_Gr_alter_at_kx_0_0 (v_iv (n_v vs 9)) (v_iv (n_v vs 11)) (w_fi ws (n_v vs 0) 17) (w_ei ws (w_ar ws (n_v vs 0) 16)) k9 k11 g5 hT10 kz_0_17)⟩
  refine ⟨(fun _ h => (by cases h)), [], trivial, ?_, (fun _ h => (by cases h))⟩
  rw [List.append_nil]
  exact List.forall_mem_cons.mpr ⟨⟨show (20 : Nat) < 100 from by decide, nf0⟩, (fun _ h => (by cases h))⟩
set_option maxHeartbeats 4000000 in
theorem vc_Gr_alter_at_kx_1_0 (x11 : Int) (past_0 : Int → Int) (k11 : 0 ≤ x11 ∧ x11 ≤ 30) (f9 : PRI (past_0) (x11)) : PNI (past_0) (x11) := by
  first
    | exact ‹PRI _ _›
  
def o_Gr_alter_at_kx_1 : or_T := (28, 12, [(11, (0, 0, 30, []))], [(9, [10, 0], [16]), (20, [0, 11], [60, 0, 1, 738, 16])], [], [], [(20, [10, 11], [61, 1, 762])], [], [])
theorem oo_Gr_alter_at_kx_1 {kA : Nat → ClassId} : or_ok PRD kA GG o_Gr_alter_at_kx_1 := by
  refine or_mk fun A ta ws vs hD hth hl => ?_
  intro t11 k11 f1 f9
  replace f1 := shm_188 f1
  replace f9 := shm_826 f9
  have ad_10 : v_ad (n_v vs 10) = w_ar ws (n_v vs 0) 16 := congrArg v_ad f1
  have nf0 : fc_1 PRD (20, [10, 11], [61, 1, 762]) ws (vs) := by
    refine ⟨nf_in hl rfl, sgq_1743 ?_⟩
    · show PNI (w_ei ws (v_ad (n_v vs 10))) (v_iv (n_v vs 11))
      rw [ad_10]
      exact vc_Gr_alter_at_kx_1_0 (v_iv (n_v vs 11)) (w_ei ws (w_ar ws (n_v vs 0) 16)) k11 f9
  refine ⟨(fun _ h => (by cases h)), [], trivial, ?_, (fun _ h => (by cases h))⟩
  rw [List.append_nil]
  exact List.forall_mem_cons.mpr ⟨⟨show (20 : Nat) < 100 from by decide, nf0⟩, (fun _ h => (by cases h))⟩
set_option maxHeartbeats 4000000 in
theorem vc_Gr_alter_at_kx_2_0 (x11 : Int) (x15 : Int) (nodes_0 : Int) (edges_0 : Int) (done_0 : Int) (past_0 : Int → Int) (near_0 : Int → Int) (tail_0 : Int → Int) (head_0 : Int → Int) (past_1 : Int → Int) (near_1 : Int → Int) (tail_1 : Int → Int) (head_1 : Int → Int) (nodes_1 : Int) (edges_1 : Int) (past_2 : Int → Int) (undone_2 : Int) (near_2 : Int → Int) (tail_2 : Int → Int) (head_2 : Int → Int) (nodes_2 : Int) (edges_2 : Int) (done_1 : Int) (undone_1 : Int) (k11 : 0 ≤ x11 ∧ x11 ≤ 29) (k15 : 1 ≤ x15 ∧ x15 ≤ 30) (d0 : x11 + 1 ≤ x15 ∧ x15 ≤ x11 + 1) (f18 : PNI (past_2) (x11)) (fe_0_0_1 : nodes_0 = nodes_1) (fe_0_1_1 : edges_0 = edges_1) (fe_0_17_1 : done_0 = done_1) (fe_0_0_2 : nodes_1 = nodes_2) (fe_0_1_2 : edges_1 = edges_2) (fe_0_18_2 : undone_1 = undone_2) (hE_0_7_1 : ∀ j : Int, tail_0 j = tail_1 j) (hE_0_7_2 : ∀ j : Int, tail_1 j = tail_2 j) (hE_0_8_1 : ∀ j : Int, head_0 j = head_1 j) (hE_0_8_2 : ∀ j : Int, head_1 j = head_2 j) (hE_0_14_1 : ∀ j : Int, near_0 j = near_1 j) (hE_0_14_2 : ∀ j : Int, near_1 j = near_2 j) (hE_0_16_1 : ∀ j : Int, past_0 j = past_1 j) (hE_0_16_2 : ∀ j : Int, past_1 j = past_2 j) (kz_0_0 : 0 ≤ nodes_0 ∧ nodes_0 ≤ 24) (kz_0_1 : 0 ≤ edges_0 ∧ edges_0 ≤ 48) (kz_0_17 : 0 ≤ done_0 ∧ done_0 ≤ 30) : PRO (past_0) (x15) := by
  subst fe_0_0_1
  subst fe_0_1_1
  subst fe_0_17_1
  subst fe_0_0_2
  subst fe_0_1_2
  subst fe_0_18_2
  have e_hE_0_7_1 := funext hE_0_7_1; subst e_hE_0_7_1
  have e_hE_0_7_2 := funext hE_0_7_2; subst e_hE_0_7_2
  have e_hE_0_8_1 := funext hE_0_8_1; subst e_hE_0_8_1
  have e_hE_0_8_2 := funext hE_0_8_2; subst e_hE_0_8_2
  have e_hE_0_14_1 := funext hE_0_14_1; subst e_hE_0_14_1
  have e_hE_0_14_2 := funext hE_0_14_2; subst e_hE_0_14_2
  have e_hE_0_16_1 := funext hE_0_16_1; subst e_hE_0_16_1
  have e_hE_0_16_2 := funext hE_0_16_2; subst e_hE_0_16_2
  first
    | exact pro_pdq ‹PDQ _ _ _› (by omega) (by omega)
    | exact pri_pro ‹PNI _ _› (by omega)
    | (have q := (‹MV2 _ _ _ _ _›); exact fun r a b => q r a (by omega))
    | exact pro_zero (by omega) (fun j a b => by have q := hT10 j a (by omega); omega)
  
def o_Gr_alter_at_kx_2 : or_T := (82, 17, [(0, (2, 0, 0, [3])), (5, (0, 0, 24, [])), (6, (0, 0, 48, [])), (7, (2, 0, 0, [52])), (8, (2, 0, 0, [53])), (10, (2, 0, 0, [61])), (11, (0, 0, 29, [])), (13, (0, 30, 30, [])), (14, (0, 1, 1, [])), (15, (0, 1, 30, [])), (16, (0, 0, 0, []))], [(9, [16, 0], [18]), (9, [5, 0], [0]), (9, [6, 0], [1]), (9, [7, 0], [7]), (9, [8, 0], [8]), (9, [10, 0], [16]), (9, [15, 0], [17]), (20, [10, 11], [61, 1, 762]), (20, [0], [60, 2, 3, 670, 0, 1, 14, 7, 8]), (20, [0], [60, 2, 2, 596, 0, 1, 7, 8]), (101, [0, 16], [18]), (20, [10, 11], [61, 1, 762]), (20, [0], [60, 2, 3, 670, 0, 1, 14, 7, 8]), (20, [0], [60, 2, 2, 596, 0, 1, 7, 8]), (101, [0, 15], [17]), (1, [15, 11, 14], []), (9, [11, 0], [17]), (7, [11, 13], [1]), (20, [10, 11], [61, 1, 762]), (20, [0], [50, 2, 0, 17, 18, 0, 8, 4, 3, 2, 0, 17, 2, 0, 18, 0, 30]), (20, [0], [60, 2, 3, 670, 0, 1, 14, 7, 8]), (20, [0], [60, 2, 2, 596, 0, 1, 7, 8]), (102, [11], [381944245562716141175333566576758405197150323812363046994276334253946495506784008380874752, 3000, 3001]), (102, [11], [2305843009213693952]), (101, [0, 10], [16])], [], [], [(20, [0, 15], [60, 0, 1, 737, 16])], [], [(15, 11, 1, 1)])
theorem oo_Gr_alter_at_kx_2 {kA : Nat → ClassId} : or_ok PRD kA GG o_Gr_alter_at_kx_2 := by
  refine or_mk fun A ta ws vs hD hth hl => ?_
  intro t0 r0 t5 k5 t6 k6 t7 r7 t8 r8 t10 r10 t11 k11 t13 k13 t14 k14 t15 k15 t16 k16 d0 f0 f1 f2 f3 f4 f5 f6 f7 f8 f9 ta1 w1 le1 s1 f11 f12 f13 ta2 w2 le2 s2 f15 f16 f17 f18 f19 f20 f21 ta3 w3 le3 s3 ta4 w4 le4 s4 ta5 w5 le5 s5
  replace f5 := shm_188 f5
  have s1 : (∀ b j, w_el ws b j = w_el w1 b j) ∧ ∀ b j, w_fd ws b j = if b = v_ad (n_v vs 0) ∧ j = 18 then n_v vs 16 else w_fd w1 b j := s1.2
  have s2 : (∀ b j, w_el w1 b j = w_el w2 b j) ∧ ∀ b j, w_fd w1 b j = if b = v_ad (n_v vs 0) ∧ j = 17 then n_v vs 15 else w_fd w2 b j := s2.2
  replace f18 := shm_1743 f18
  have ar_0_7_1 : w_ar w1 (n_v vs 0) 7 = w_ar ws (n_v vs 0) 7 := by show v_ad (w_fd w1 _ _) = v_ad (w_fd ws _ _); rw [s1.2, if_neg (fun e => absurd e.2 (by decide))]
  have ar_0_7_2 : w_ar w2 (n_v vs 0) 7 = w_ar ws (n_v vs 0) 7 := by rw [← ar_0_7_1]; show v_ad (w_fd w2 _ _) = v_ad (w_fd w1 _ _); rw [s2.2, if_neg (fun e => absurd e.2 (by decide))]
  have ar_0_8_1 : w_ar w1 (n_v vs 0) 8 = w_ar ws (n_v vs 0) 8 := by show v_ad (w_fd w1 _ _) = v_ad (w_fd ws _ _); rw [s1.2, if_neg (fun e => absurd e.2 (by decide))]
  have ar_0_8_2 : w_ar w2 (n_v vs 0) 8 = w_ar ws (n_v vs 0) 8 := by rw [← ar_0_8_1]; show v_ad (w_fd w2 _ _) = v_ad (w_fd w1 _ _); rw [s2.2, if_neg (fun e => absurd e.2 (by decide))]
  have ar_0_14_1 : w_ar w1 (n_v vs 0) 14 = w_ar ws (n_v vs 0) 14 := by show v_ad (w_fd w1 _ _) = v_ad (w_fd ws _ _); rw [s1.2, if_neg (fun e => absurd e.2 (by decide))]
  have ar_0_14_2 : w_ar w2 (n_v vs 0) 14 = w_ar ws (n_v vs 0) 14 := by rw [← ar_0_14_1]; show v_ad (w_fd w2 _ _) = v_ad (w_fd w1 _ _); rw [s2.2, if_neg (fun e => absurd e.2 (by decide))]
  have ad_10 : v_ad (n_v vs 10) = w_ar ws (n_v vs 0) 16 := congrArg v_ad f5
  simp only [ad_10, ar_0_7_2, ar_0_8_2, ar_0_14_2] at f18
  have fe_0_0_1 : w_fi ws (n_v vs 0) 0 = w_fi w1 (n_v vs 0) 0 := by show v_iv (w_fd _ _ _) = v_iv (w_fd _ _ _); rw [s1.2, if_neg (fun e => absurd e.2 (by decide))]
  have fe_0_1_1 : w_fi ws (n_v vs 0) 1 = w_fi w1 (n_v vs 0) 1 := by show v_iv (w_fd _ _ _) = v_iv (w_fd _ _ _); rw [s1.2, if_neg (fun e => absurd e.2 (by decide))]
  have fe_0_17_1 : w_fi ws (n_v vs 0) 17 = w_fi w1 (n_v vs 0) 17 := by show v_iv (w_fd _ _ _) = v_iv (w_fd _ _ _); rw [s1.2, if_neg (fun e => absurd e.2 (by decide))]
  have fe_0_0_2 : w_fi w1 (n_v vs 0) 0 = w_fi w2 (n_v vs 0) 0 := by show v_iv (w_fd _ _ _) = v_iv (w_fd _ _ _); rw [s2.2, if_neg (fun e => absurd e.2 (by decide))]
  have fe_0_1_2 : w_fi w1 (n_v vs 0) 1 = w_fi w2 (n_v vs 0) 1 := by show v_iv (w_fd _ _ _) = v_iv (w_fd _ _ _); rw [s2.2, if_neg (fun e => absurd e.2 (by decide))]
  have fe_0_18_2 : w_fi w1 (n_v vs 0) 18 = w_fi w2 (n_v vs 0) 18 := by show v_iv (w_fd _ _ _) = v_iv (w_fd _ _ _); rw [s2.2, if_neg (fun e => absurd e.2 (by decide))]
  have hE_0_7_1 : ∀ j : Int, w_ei ws (w_ar ws (n_v vs 0) 7) j = w_ei w1 (w_ar ws (n_v vs 0) 7) j := fun j => s1.1 _ _
  have hE_0_7_2 : ∀ j : Int, w_ei w1 (w_ar ws (n_v vs 0) 7) j = w_ei w2 (w_ar ws (n_v vs 0) 7) j := fun j => s2.1 _ _
  have hE_0_8_1 : ∀ j : Int, w_ei ws (w_ar ws (n_v vs 0) 8) j = w_ei w1 (w_ar ws (n_v vs 0) 8) j := fun j => s1.1 _ _
  have hE_0_8_2 : ∀ j : Int, w_ei w1 (w_ar ws (n_v vs 0) 8) j = w_ei w2 (w_ar ws (n_v vs 0) 8) j := fun j => s2.1 _ _
  have hE_0_14_1 : ∀ j : Int, w_ei ws (w_ar ws (n_v vs 0) 14) j = w_ei w1 (w_ar ws (n_v vs 0) 14) j := fun j => s1.1 _ _
  have hE_0_14_2 : ∀ j : Int, w_ei w1 (w_ar ws (n_v vs 0) 14) j = w_ei w2 (w_ar ws (n_v vs 0) 14) j := fun j => s2.1 _ _
  have hE_0_16_1 : ∀ j : Int, w_ei ws (w_ar ws (n_v vs 0) 16) j = w_ei w1 (w_ar ws (n_v vs 0) 16) j := fun j => s1.1 _ _
  have hE_0_16_2 : ∀ j : Int, w_ei w1 (w_ar ws (n_v vs 0) 16) j = w_ei w2 (w_ar ws (n_v vs 0) 16) j := fun j => s2.1 _ _
  have kz_0_0 := fdq_23 hD hth r0
  have kz_0_1 := fdq_38 hD hth r0
  have kz_0_17 := fdq_282 hD hth r0
  have nf0 : fc_1 PRD (20, [0, 15], [60, 0, 1, 737, 16]) ws (vs) := ⟨nf_in hl rfl, sgq_821 (vc_Gr_alter_at_kx_2_0 (v_iv (n_v vs 11)) (v_iv (n_v vs 15)) (w_fi ws (n_v vs 0) 0) (w_fi ws (n_v vs 0) 1) (w_fi ws (n_v vs 0) 17) (w_ei ws (w_ar ws (n_v vs 0) 16)) (w_ei ws (w_ar ws (n_v vs 0) 14)) (w_ei ws (w_ar ws (n_v vs 0) 7)) (w_ei ws (w_ar ws (n_v vs 0) 8)) (w_ei w1 (w_ar ws (n_v vs 0) 16)) (w_ei w1 (w_ar ws (n_v vs 0) 14)) (w_ei w1 (w_ar ws (n_v vs 0) 7)) (w_ei w1 (w_ar ws (n_v vs 0) 8)) (w_fi w1 (n_v vs 0) 0) (w_fi w1 (n_v vs 0) 1) (w_ei w2 (w_ar ws (n_v vs 0) 16)) (w_fi w2 (n_v vs 0) 18) (w_ei w2 (w_ar ws (n_v vs 0) 14)) (w_ei w2 (w_ar ws (n_v vs 0) 7)) (w_ei w2 (w_ar ws (n_v vs 0) 8)) (w_fi w2 (n_v vs 0) 0) (w_fi w2 (n_v vs 0) 1) (w_fi w1 (n_v vs 0) 17) (w_fi w1 (n_v vs 0) 18) k11 k15 d0 f18 fe_0_0_1 fe_0_1_1 fe_0_17_1 fe_0_0_2 fe_0_1_2 fe_0_18_2 hE_0_7_1 hE_0_7_2 hE_0_8_1 hE_0_8_2 hE_0_14_1 hE_0_14_2 hE_0_16_1 hE_0_16_2 kz_0_0 kz_0_1 kz_0_17)⟩
  refine ⟨(fun _ h => (by cases h)), [], trivial, ?_, (fun _ h => (by cases h))⟩
  rw [List.append_nil]
  exact List.forall_mem_cons.mpr ⟨⟨show (20 : Nat) < 100 from by decide, nf0⟩, (fun _ h => (by cases h))⟩
set_option maxHeartbeats 4000000 in
theorem vc_Gr_alter_at_kx_3_0 (x11 : Int) (x15 : Int) (x16 : Int) (undone_0 : Int) (done_0 : Int) (k11 : 0 ≤ x11 ∧ x11 ≤ 29) (k15 : 1 ≤ x15 ∧ x15 ≤ 30) (k16 : 0 ≤ x16 ∧ x16 ≤ 0) (d0 : x11 + 1 ≤ x15 ∧ x15 ≤ x11 + 1) (g0 : x16 = undone_0) (g1 : x15 = done_0) (kz_0_17 : 0 ≤ done_0 ∧ done_0 ≤ 30) (kz_0_18 : 0 ≤ undone_0 ∧ undone_0 ≤ 30) : (done_0 + undone_0) ≤ 30 := by
  first
    | omega
  
set_option maxHeartbeats 4000000 in
theorem vc_Gr_alter_at_kx_3_1 (x15 : Int) (x16 : Int) (undone_0 : Int) (done_0 : Int) (past_0 : Int → Int) (k15 : 1 ≤ x15 ∧ x15 ≤ 30) (k16 : 0 ≤ x16 ∧ x16 ≤ 0) (g0 : x16 = undone_0) (g1 : x15 = done_0) (f8 : PRI (past_0) (x15)) (kz_0_17 : 0 ≤ done_0 ∧ done_0 ≤ 30) (kz_0_18 : 0 ≤ undone_0 ∧ undone_0 ≤ 30) : PDQ (done_0) (undone_0) (past_0) := by
  first
    | assumption
    | exact pri_pdq ‹PRI _ _› (by omega) (by omega)
  
def o_Gr_alter_at_kx_3 : or_T := (87, 17, [(0, (2, 0, 0, [3])), (5, (0, 0, 24, [])), (6, (0, 0, 48, [])), (7, (2, 0, 0, [52])), (8, (2, 0, 0, [53])), (10, (2, 0, 0, [61])), (11, (0, 0, 29, [])), (13, (0, 30, 30, [])), (14, (0, 1, 1, [])), (15, (0, 1, 30, [])), (16, (0, 0, 0, []))], [(9, [16, 0], [18]), (9, [15, 0], [17]), (9, [5, 0], [0]), (9, [6, 0], [1]), (9, [7, 0], [7]), (9, [8, 0], [8]), (9, [10, 0], [16]), (20, [0], [60, 2, 3, 670, 0, 1, 14, 7, 8]), (20, [0, 15], [60, 0, 1, 738, 16]), (20, [0], [60, 2, 2, 596, 0, 1, 7, 8]), (102, [16], [2305843009213693952]), (101, [0, 16], [18]), (101, [0, 15], [17]), (1, [15, 11, 14], []), (7, [11, 13], [1]), (102, [11], [381944245562716141175333566576758405197150323812363046994276334253946495506784008380874752, 3000, 3001]), (102, [11], [2305843009213693952]), (101, [0, 10], [16])], [], [], [(20, [0], [50, 2, 0, 17, 18, 0, 8, 4, 3, 2, 0, 17, 2, 0, 18, 0, 30]), (20, [0], [60, 2, 1, 739, 17, 18, 16])], [], [(15, 11, 1, 1)])
theorem oo_Gr_alter_at_kx_3 {kA : Nat → ClassId} : or_ok PRD kA GG o_Gr_alter_at_kx_3 := by
  refine or_mk fun A ta ws vs hD hth hl => ?_
  intro t0 r0 t5 k5 t6 k6 t7 r7 t8 r8 t10 r10 t11 k11 t13 k13 t14 k14 t15 k15 t16 k16 d0 f0 f1 f2 f3 f4 f5 f6 f7 f8 f9 ta1 w1 le1 s1 ta2 w2 le2 s2 ta3 w3 le3 s3 f13 f14 ta4 w4 le4 s4 ta5 w5 le5 s5 ta6 w6 le6 s6
  replace f0 := shm_785 f0
  replace f1 := shm_781 f1
  have g0 : v_iv (n_v vs 16) = w_fi ws (n_v vs 0) 18 := congrArg v_iv f0
  have g1 : v_iv (n_v vs 15) = w_fi ws (n_v vs 0) 17 := congrArg v_iv f1
  have kz_0_17 := fdq_282 hD hth r0
  have kz_0_18 := fdq_283 hD hth r0
  have nf0 : fc_1 PRD (20, [0], [50, 2, 0, 17, 18, 0, 8, 4, 3, 2, 0, 17, 2, 0, 18, 0, 30]) ws (vs) := ⟨nf_in hl rfl, sgq_1462 (vc_Gr_alter_at_kx_3_0 (v_iv (n_v vs 11)) (v_iv (n_v vs 15)) (v_iv (n_v vs 16)) (w_fi ws (n_v vs 0) 18) (w_fi ws (n_v vs 0) 17) k11 k15 k16 d0 g0 g1 kz_0_17 kz_0_18)⟩
  have nf1 : fc_1 PRD (20, [0], [60, 2, 1, 739, 17, 18, 16]) ws (vs) := ⟨nf_in hl rfl, sgq_1327 (vc_Gr_alter_at_kx_3_1 (v_iv (n_v vs 15)) (v_iv (n_v vs 16)) (w_fi ws (n_v vs 0) 18) (w_fi ws (n_v vs 0) 17) (w_ei ws (w_ar ws (n_v vs 0) 16)) k15 k16 g0 g1 (shm_826 f8) kz_0_17 kz_0_18)⟩
  refine ⟨(fun _ h => (by cases h)), [], trivial, ?_, (fun _ h => (by cases h))⟩
  rw [List.append_nil]
  exact List.forall_mem_cons.mpr ⟨⟨show (20 : Nat) < 100 from by decide, nf0⟩, List.forall_mem_cons.mpr ⟨⟨show (20 : Nat) < 100 from by decide, nf1⟩, (fun _ h => (by cases h))⟩⟩
set_option maxHeartbeats 4000000 in
theorem vc_Gr_alter_at_kx_4_0 (x14 : Int) (x16 : Int) (k14 : 122 ≤ x14 ∧ x14 ≤ 122) (k16 : 3660 ≤ x16 ∧ x16 ≤ 3660) : x14 + x16 ≤ 3782 := by
  first
    | omega
  
set_option maxHeartbeats 4000000 in
theorem vc_Gr_alter_at_kx_4_1 (x15 : Int) (x16 : Int) (k15 : 0 ≤ x15 ∧ x15 ≤ 0) (k16 : 3660 ≤ x16 ∧ x16 ≤ 3660) : x15 + x16 ≤ 3782 := by
  first
    | omega
  
set_option maxHeartbeats 4000000 in
theorem vc_Gr_alter_at_kx_4_2 (x11 : Int) (x14 : Int) (x15 : Int) (x16 : Int) (a10_0 : Int → Int) (k11 : 30 ≤ x11 ∧ x11 ≤ 30) (k14 : 122 ≤ x14 ∧ x14 ≤ 122) (k15 : 0 ≤ x15 ∧ x15 ≤ 0) (k16 : 3660 ≤ x16 ∧ x16 ≤ 3660) (f6 : PNI (a10_0) (x11)) : MV1 (a10_0) (a10_0) (x14) (x15) (x16) := by
  first
    | exact ⟨by omega, by omega, by omega, fun r a b => (‹PNI _ _›) r a (by omega)⟩
  
def o_Gr_alter_at_kx_4 : or_T := (56, 17, [(0, (2, 0, 0, [3])), (5, (0, 0, 24, [])), (6, (0, 0, 48, [])), (7, (2, 0, 0, [52])), (8, (2, 0, 0, [53])), (10, (2, 0, 0, [61])), (11, (0, 30, 30, [])), (13, (0, 30, 30, [])), (14, (0, 122, 122, [])), (15, (0, 0, 0, [])), (16, (0, 3660, 3660, []))], [(9, [5, 0], [0]), (9, [6, 0], [1]), (9, [7, 0], [7]), (9, [8, 0], [8]), (7, [11, 13], [0]), (9, [11, 0], [17]), (20, [10, 11], [61, 1, 762]), (20, [0], [50, 2, 0, 17, 18, 0, 8, 4, 3, 2, 0, 17, 2, 0, 18, 0, 30]), (20, [0], [60, 2, 3, 670, 0, 1, 14, 7, 8]), (20, [0], [60, 2, 2, 596, 0, 1, 7, 8])], [], [], [(21, [14, 16], [3782]), (21, [15, 16], [3782]), (20, [10, 10, 14, 15, 16], [61, 2, 763])], [], [])
theorem oo_Gr_alter_at_kx_4 {kA : Nat → ClassId} : or_ok PRD kA GG o_Gr_alter_at_kx_4 := by
  refine or_mk fun A ta ws vs hD hth hl => ?_
  intro t0 r0 t5 k5 t6 k6 t7 r7 t8 r8 t10 r10 t11 k11 t13 k13 t14 k14 t15 k15 t16 k16 f0 f1 f2 f3 f4 f5 f6 f7 f8 f9
  have nf0 : fc_1 PRD (21, [14, 16], [3782]) ws (vs) := ⟨nf_in hl rfl, sgq_1744 (vc_Gr_alter_at_kx_4_0 (v_iv (n_v vs 14)) (v_iv (n_v vs 16)) k14 k16)⟩
  have nf1 : fc_1 PRD (21, [15, 16], [3782]) ws (vs) := ⟨nf_in hl rfl, sgq_1744 (vc_Gr_alter_at_kx_4_1 (v_iv (n_v vs 15)) (v_iv (n_v vs 16)) k15 k16)⟩
  have nf2 : fc_1 PRD (20, [10, 10, 14, 15, 16], [61, 2, 763]) ws (vs) := ⟨nf_in hl rfl, sgq_1745 (vc_Gr_alter_at_kx_4_2 (v_iv (n_v vs 11)) (v_iv (n_v vs 14)) (v_iv (n_v vs 15)) (v_iv (n_v vs 16)) (w_ei ws (v_ad (n_v vs 10))) k11 k14 k15 k16 (shm_1743 f6))⟩
  refine ⟨(fun _ h => (by cases h)), [], trivial, ?_, (fun _ h => (by cases h))⟩
  rw [List.append_nil]
  exact List.forall_mem_cons.mpr ⟨⟨show (21 : Nat) < 100 from by decide, nf0⟩, List.forall_mem_cons.mpr ⟨⟨show (21 : Nat) < 100 from by decide, nf1⟩, List.forall_mem_cons.mpr ⟨⟨show (20 : Nat) < 100 from by decide, nf2⟩, (fun _ h => (by cases h))⟩⟩⟩
set_option maxHeartbeats 4000000 in
theorem vc_Gr_alter_at_kx_5_0 (x11 : Int) (x14 : Int) (x15 : Int) (x16 : Int) (nodes_0 : Int) (edges_0 : Int) (done_0 : Int) (near_0 : Int → Int) (tail_0 : Int → Int) (head_0 : Int → Int) (past_0 : Int → Int) (done_1 : Int) (near_1 : Int → Int) (tail_1 : Int → Int) (head_1 : Int → Int) (nodes_1 : Int) (edges_1 : Int) (past_1 : Int → Int) (k11 : 30 ≤ x11 ∧ x11 ≤ 30) (k14 : 122 ≤ x14 ∧ x14 ≤ 122) (k15 : 0 ≤ x15 ∧ x15 ≤ 0) (k16 : 3660 ≤ x16 ∧ x16 ≤ 3660) (f18 : MV2 (past_1) (past_1) (x14) (x15) (x16)) (fe_0_0_1 : nodes_0 = nodes_1) (fe_0_1_1 : edges_0 = edges_1) (fe_0_17_1 : done_0 = done_1) (hE_0_7_1 : ∀ j : Int, tail_0 j = tail_1 j) (hE_0_8_1 : ∀ j : Int, head_0 j = head_1 j) (hE_0_14_1 : ∀ j : Int, near_0 j = near_1 j) (hE_0_16_1 : ∀ j : Int, past_0 j = past_1 j) (kz_0_0 : 0 ≤ nodes_0 ∧ nodes_0 ≤ 24) (kz_0_1 : 0 ≤ edges_0 ∧ edges_0 ≤ 48) (kz_0_17 : 0 ≤ done_0 ∧ done_0 ≤ 30) : PRO (past_0) (x11) := by
  subst fe_0_0_1
  subst fe_0_1_1
  subst fe_0_17_1
  have e_hE_0_7_1 := funext hE_0_7_1; subst e_hE_0_7_1
  have e_hE_0_8_1 := funext hE_0_8_1; subst e_hE_0_8_1
  have e_hE_0_14_1 := funext hE_0_14_1; subst e_hE_0_14_1
  have e_hE_0_16_1 := funext hE_0_16_1; subst e_hE_0_16_1
  first
    | exact pro_pdq ‹PDQ _ _ _› (by omega) (by omega)
    | exact pri_pro ‹PNI _ _› (by omega)
    | (have q := (‹MV2 _ _ _ _ _›); exact fun r a b => q r a (by omega))
    | exact pro_zero (by omega) (fun j a b => by have q := hT10 j a (by omega); omega)
  
def o_Gr_alter_at_kx_5 : or_T := (82, 18, [(0, (2, 0, 0, [3])), (5, (0, 0, 24, [])), (6, (0, 0, 48, [])), (7, (2, 0, 0, [52])), (8, (2, 0, 0, [53])), (10, (2, 0, 0, [61])), (11, (0, 30, 30, [])), (13, (0, 30, 30, [])), (14, (0, 122, 122, [])), (15, (0, 0, 0, [])), (16, (0, 3660, 3660, [])), (17, (0, 0, 0, []))], [(9, [17, 0], [18]), (9, [5, 0], [0]), (9, [6, 0], [1]), (9, [7, 0], [7]), (9, [8, 0], [8]), (9, [10, 0], [16]), (9, [11, 0], [17]), (21, [14, 16], [3782]), (21, [15, 16], [3782]), (20, [0], [60, 2, 3, 670, 0, 1, 14, 7, 8]), (20, [0], [60, 2, 2, 596, 0, 1, 7, 8]), (20, [10, 10, 14, 15, 16], [61, 2, 764]), (101, [0, 17], [18]), (21, [14, 16], [3782]), (21, [15, 16], [3782]), (20, [0], [50, 2, 0, 17, 18, 0, 8, 4, 3, 2, 0, 17, 2, 0, 18, 0, 30]), (20, [0], [60, 2, 3, 670, 0, 1, 14, 7, 8]), (20, [0], [60, 2, 2, 596, 0, 1, 7, 8]), (20, [10, 10, 14, 15, 16], [61, 2, 764]), (102, [16], [2305843009213693952]), (21, [14, 16], [3782]), (21, [15, 16], [3782]), (7, [11, 13], [0]), (102, [11], [381944245562716141175333566576758405197150323812363046994276334253946495506784008380874752, 3000, 3001]), (102, [11], [2305843009213693952]), (101, [0, 10], [16])], [], [], [(20, [0, 11], [60, 0, 1, 737, 16])], [], [])
theorem oo_Gr_alter_at_kx_5 {kA : Nat → ClassId} : or_ok PRD kA GG o_Gr_alter_at_kx_5 := by
  refine or_mk fun A ta ws vs hD hth hl => ?_
  intro t0 r0 t5 k5 t6 k6 t7 r7 t8 r8 t10 r10 t11 k11 t13 k13 t14 k14 t15 k15 t16 k16 t17 k17 f0 f1 f2 f3 f4 f5 f6 f7 f8 f9 f10 f11 ta1 w1 le1 s1 f13 f14 f15 f16 f17 f18 ta2 w2 le2 s2 f20 f21 f22 ta3 w3 le3 s3 ta4 w4 le4 s4 ta5 w5 le5 s5
  replace f5 := shm_188 f5
  have s1 : (∀ b j, w_el ws b j = w_el w1 b j) ∧ ∀ b j, w_fd ws b j = if b = v_ad (n_v vs 0) ∧ j = 18 then n_v vs 17 else w_fd w1 b j := s1.2
  replace f18 := shm_1746 f18
  have ar_0_7_1 : w_ar w1 (n_v vs 0) 7 = w_ar ws (n_v vs 0) 7 := by show v_ad (w_fd w1 _ _) = v_ad (w_fd ws _ _); rw [s1.2, if_neg (fun e => absurd e.2 (by decide))]
  have ar_0_8_1 : w_ar w1 (n_v vs 0) 8 = w_ar ws (n_v vs 0) 8 := by show v_ad (w_fd w1 _ _) = v_ad (w_fd ws _ _); rw [s1.2, if_neg (fun e => absurd e.2 (by decide))]
  have ar_0_14_1 : w_ar w1 (n_v vs 0) 14 = w_ar ws (n_v vs 0) 14 := by show v_ad (w_fd w1 _ _) = v_ad (w_fd ws _ _); rw [s1.2, if_neg (fun e => absurd e.2 (by decide))]
  have ad_10 : v_ad (n_v vs 10) = w_ar ws (n_v vs 0) 16 := congrArg v_ad f5
  simp only [ad_10, ar_0_7_1, ar_0_8_1, ar_0_14_1] at f18
  have fe_0_0_1 : w_fi ws (n_v vs 0) 0 = w_fi w1 (n_v vs 0) 0 := by show v_iv (w_fd _ _ _) = v_iv (w_fd _ _ _); rw [s1.2, if_neg (fun e => absurd e.2 (by decide))]
  have fe_0_1_1 : w_fi ws (n_v vs 0) 1 = w_fi w1 (n_v vs 0) 1 := by show v_iv (w_fd _ _ _) = v_iv (w_fd _ _ _); rw [s1.2, if_neg (fun e => absurd e.2 (by decide))]
  have fe_0_17_1 : w_fi ws (n_v vs 0) 17 = w_fi w1 (n_v vs 0) 17 := by show v_iv (w_fd _ _ _) = v_iv (w_fd _ _ _); rw [s1.2, if_neg (fun e => absurd e.2 (by decide))]
  have hE_0_7_1 : ∀ j : Int, w_ei ws (w_ar ws (n_v vs 0) 7) j = w_ei w1 (w_ar ws (n_v vs 0) 7) j := fun j => s1.1 _ _
  have hE_0_8_1 : ∀ j : Int, w_ei ws (w_ar ws (n_v vs 0) 8) j = w_ei w1 (w_ar ws (n_v vs 0) 8) j := fun j => s1.1 _ _
  have hE_0_14_1 : ∀ j : Int, w_ei ws (w_ar ws (n_v vs 0) 14) j = w_ei w1 (w_ar ws (n_v vs 0) 14) j := fun j => s1.1 _ _
  have hE_0_16_1 : ∀ j : Int, w_ei ws (w_ar ws (n_v vs 0) 16) j = w_ei w1 (w_ar ws (n_v vs 0) 16) j := fun j => s1.1 _ _
  have kz_0_0 := fdq_23 hD hth r0
  have kz_0_1 := fdq_38 hD hth r0
  have kz_0_17 := fdq_282 hD hth r0
  have nf0 : fc_1 PRD (20, [0, 11], [60, 0, 1, 737, 16]) ws (vs) := ⟨nf_in hl rfl, sgq_821 (vc_Gr_alter_at_kx_5_0 (v_iv (n_v vs 11)) (v_iv (n_v vs 14)) (v_iv (n_v vs 15)) (v_iv (n_v vs 16)) (w_fi ws (n_v vs 0) 0) (w_fi ws (n_v vs 0) 1) (w_fi ws (n_v vs 0) 17) (w_ei ws (w_ar ws (n_v vs 0) 14)) (w_ei ws (w_ar ws (n_v vs 0) 7)) (w_ei ws (w_ar ws (n_v vs 0) 8)) (w_ei ws (w_ar ws (n_v vs 0) 16)) (w_fi w1 (n_v vs 0) 17) (w_ei w1 (w_ar ws (n_v vs 0) 14)) (w_ei w1 (w_ar ws (n_v vs 0) 7)) (w_ei w1 (w_ar ws (n_v vs 0) 8)) (w_fi w1 (n_v vs 0) 0) (w_fi w1 (n_v vs 0) 1) (w_ei w1 (w_ar ws (n_v vs 0) 16)) k11 k14 k15 k16 f18 fe_0_0_1 fe_0_1_1 fe_0_17_1 hE_0_7_1 hE_0_8_1 hE_0_14_1 hE_0_16_1 kz_0_0 kz_0_1 kz_0_17)⟩
  refine ⟨(fun _ h => (by cases h)), [], trivial, ?_, (fun _ h => (by cases h))⟩
  rw [List.append_nil]
  exact List.forall_mem_cons.mpr ⟨⟨show (20 : Nat) < 100 from by decide, nf0⟩, (fun _ h => (by cases h))⟩
set_option maxHeartbeats 4000000 in
theorem vc_Gr_alter_at_kx_6_0 (x11 : Int) (x17 : Int) (undone_0 : Int) (done_0 : Int) (k11 : 30 ≤ x11 ∧ x11 ≤ 30) (k17 : 0 ≤ x17 ∧ x17 ≤ 0) (g0 : x17 = undone_0) (g5 : x11 = done_0) (kz_0_17 : 0 ≤ done_0 ∧ done_0 ≤ 30) (kz_0_18 : 0 ≤ undone_0 ∧ undone_0 ≤ 30) : (done_0 + undone_0) ≤ 30 := by
  first
    | omega
  
set_option maxHeartbeats 4000000 in
theorem vc_Gr_alter_at_kx_6_1 (x11 : Int) (x17 : Int) (undone_0 : Int) (done_0 : Int) (past_0 : Int → Int) (k11 : 30 ≤ x11 ∧ x11 ≤ 30) (k17 : 0 ≤ x17 ∧ x17 ≤ 0) (g0 : x17 = undone_0) (g5 : x11 = done_0) (f8 : PRI (past_0) (x11)) (kz_0_17 : 0 ≤ done_0 ∧ done_0 ≤ 30) (kz_0_18 : 0 ≤ undone_0 ∧ undone_0 ≤ 30) : PDQ (done_0) (undone_0) (past_0) := by
  first
    | assumption
    | exact pri_pdq ‹PRI _ _› (by omega) (by omega)
  
def o_Gr_alter_at_kx_6 : or_T := (87, 18, [(0, (2, 0, 0, [3])), (5, (0, 0, 24, [])), (6, (0, 0, 48, [])), (7, (2, 0, 0, [52])), (8, (2, 0, 0, [53])), (10, (2, 0, 0, [61])), (11, (0, 30, 30, [])), (13, (0, 30, 30, [])), (17, (0, 0, 0, []))], [(9, [17, 0], [18]), (9, [5, 0], [0]), (9, [6, 0], [1]), (9, [7, 0], [7]), (9, [8, 0], [8]), (9, [11, 0], [17]), (9, [10, 0], [16]), (20, [0], [60, 2, 3, 670, 0, 1, 14, 7, 8]), (20, [0, 11], [60, 0, 1, 738, 16]), (20, [0], [60, 2, 2, 596, 0, 1, 7, 8]), (102, [17], [2305843009213693952]), (101, [0, 17], [18]), (102, [16], [2305843009213693952]), (7, [11, 13], [0]), (102, [11], [381944245562716141175333566576758405197150323812363046994276334253946495506784008380874752, 3000, 3001]), (102, [11], [2305843009213693952]), (101, [0, 10], [16])], [], [], [(20, [0], [50, 2, 0, 17, 18, 0, 8, 4, 3, 2, 0, 17, 2, 0, 18, 0, 30]), (20, [0], [60, 2, 1, 739, 17, 18, 16])], [], [])
theorem oo_Gr_alter_at_kx_6 {kA : Nat → ClassId} : or_ok PRD kA GG o_Gr_alter_at_kx_6 := by
  refine or_mk fun A ta ws vs hD hth hl => ?_
  intro t0 r0 t5 k5 t6 k6 t7 r7 t8 r8 t10 r10 t11 k11 t13 k13 t17 k17 f0 f1 f2 f3 f4 f5 f6 f7 f8 f9 ta1 w1 le1 s1 ta2 w2 le2 s2 ta3 w3 le3 s3 f13 ta4 w4 le4 s4 ta5 w5 le5 s5 ta6 w6 le6 s6
  replace f0 := shm_785 f0
  replace f5 := shm_781 f5
  have g0 : v_iv (n_v vs 17) = w_fi ws (n_v vs 0) 18 := congrArg v_iv f0
  have g5 : v_iv (n_v vs 11) = w_fi ws (n_v vs 0) 17 := congrArg v_iv f5
  have kz_0_17 := fdq_282 hD hth r0
  have kz_0_18 := fdq_283 hD hth r0
  have nf0 : fc_1 PRD (20, [0], [50, 2, 0, 17, 18, 0, 8, 4, 3, 2, 0, 17, 2, 0, 18, 0, 30]) ws (vs) := ⟨nf_in hl rfl, sgq_1462 (vc_Gr_alter_at_kx_6_0 (v_iv (n_v vs 11)) (v_iv (n_v vs 17)) (w_fi ws (n_v vs 0) 18) (w_fi ws (n_v vs 0) 17) k11 k17 g0 g5 kz_0_17 kz_0_18)⟩
  have nf1 : fc_1 PRD (20, [0], [60, 2, 1, 739, 17, 18, 16]) ws (vs) := ⟨nf_in hl rfl, sgq_1327 (vc_Gr_alter_at_kx_6_1 (v_iv (n_v vs 11)) (v_iv (n_v vs 17)) (w_fi ws (n_v vs 0) 18) (w_fi ws (n_v vs 0) 17) (w_ei ws (w_ar ws (n_v vs 0) 16)) k11 k17 g0 g5 (shm_826 f8) kz_0_17 kz_0_18)⟩
  refine ⟨(fun _ h => (by cases h)), [], trivial, ?_, (fun _ h => (by cases h))⟩
  rw [List.append_nil]
  exact List.forall_mem_cons.mpr ⟨⟨show (20 : Nat) < 100 from by decide, nf0⟩, List.forall_mem_cons.mpr ⟨⟨show (20 : Nat) < 100 from by decide, nf1⟩, (fun _ h => (by cases h))⟩⟩
set_option maxHeartbeats 4000000 in
theorem vc_Gr_alter_at_kx_7_0 (x11 : Int) (x15 : Int) (nodes_0 : Int) (edges_0 : Int) (done_0 : Int) (past_0 : Int → Int) (near_0 : Int → Int) (tail_0 : Int → Int) (head_0 : Int → Int) (past_1 : Int → Int) (near_1 : Int → Int) (tail_1 : Int → Int) (head_1 : Int → Int) (nodes_1 : Int) (edges_1 : Int) (past_2 : Int → Int) (undone_2 : Int) (near_2 : Int → Int) (tail_2 : Int → Int) (head_2 : Int → Int) (nodes_2 : Int) (edges_2 : Int) (done_1 : Int) (undone_1 : Int) (k11 : 0 ≤ x11 ∧ x11 ≤ 29) (k15 : 1 ≤ x15 ∧ x15 ≤ 30) (d0 : x11 + 1 ≤ x15 ∧ x15 ≤ x11 + 1) (f18 : PNI (past_2) (x11)) (fe_0_0_1 : nodes_0 = nodes_1) (fe_0_1_1 : edges_0 = edges_1) (fe_0_17_1 : done_0 = done_1) (fe_0_0_2 : nodes_1 = nodes_2) (fe_0_1_2 : edges_1 = edges_2) (fe_0_18_2 : undone_1 = undone_2) (hE_0_7_1 : ∀ j : Int, tail_0 j = tail_1 j) (hE_0_7_2 : ∀ j : Int, tail_1 j = tail_2 j) (hE_0_8_1 : ∀ j : Int, head_0 j = head_1 j) (hE_0_8_2 : ∀ j : Int, head_1 j = head_2 j) (hE_0_14_1 : ∀ j : Int, near_0 j = near_1 j) (hE_0_14_2 : ∀ j : Int, near_1 j = near_2 j) (hE_0_16_1 : ∀ j : Int, past_0 j = past_1 j) (hE_0_16_2 : ∀ j : Int, past_1 j = past_2 j) (kz_0_0 : 0 ≤ nodes_0 ∧ nodes_0 ≤ 24) (kz_0_1 : 0 ≤ edges_0 ∧ edges_0 ≤ 48) (kz_0_17 : 0 ≤ done_0 ∧ done_0 ≤ 30) : PRO (past_0) (x15) := by
  subst fe_0_0_1
  subst fe_0_1_1
  subst fe_0_17_1
  subst fe_0_0_2
  subst fe_0_1_2
  subst fe_0_18_2
  have e_hE_0_7_1 := funext hE_0_7_1; subst e_hE_0_7_1
  have e_hE_0_7_2 := funext hE_0_7_2; subst e_hE_0_7_2
  have e_hE_0_8_1 := funext hE_0_8_1; subst e_hE_0_8_1
  have e_hE_0_8_2 := funext hE_0_8_2; subst e_hE_0_8_2
  have e_hE_0_14_1 := funext hE_0_14_1; subst e_hE_0_14_1
  have e_hE_0_14_2 := funext hE_0_14_2; subst e_hE_0_14_2
  have e_hE_0_16_1 := funext hE_0_16_1; subst e_hE_0_16_1
  have e_hE_0_16_2 := funext hE_0_16_2; subst e_hE_0_16_2
  first
    | exact pro_pdq ‹PDQ _ _ _› (by omega) (by omega)
    | exact pri_pro ‹PNI _ _› (by omega)
    | (have q := (‹MV2 _ _ _ _ _›); exact fun r a b => q r a (by omega))
    | exact pro_zero (by omega) (fun j a b => by have q := hT10 j a (by omega); omega)
  
def o_Gr_alter_at_kx_7 : or_T := (82, 17, [(0, (2, 0, 0, [3])), (6, (0, 0, 48, [])), (7, (2, 0, 0, [52])), (8, (2, 0, 0, [53])), (10, (2, 0, 0, [61])), (11, (0, 0, 29, [])), (12, (0, 1, 24, [])), (13, (0, 30, 30, [])), (14, (0, 1, 1, [])), (15, (0, 1, 30, [])), (16, (0, 0, 0, []))], [(9, [16, 0], [18]), (9, [12, 0], [0]), (9, [6, 0], [1]), (9, [7, 0], [7]), (9, [8, 0], [8]), (9, [10, 0], [16]), (9, [15, 0], [17]), (20, [10, 11], [61, 1, 762]), (20, [0], [60, 2, 3, 670, 0, 1, 14, 7, 8]), (20, [0], [60, 2, 2, 596, 0, 1, 7, 8]), (101, [0, 16], [18]), (20, [10, 11], [61, 1, 762]), (20, [0], [60, 2, 3, 670, 0, 1, 14, 7, 8]), (20, [0], [60, 2, 2, 596, 0, 1, 7, 8]), (101, [0, 15], [17]), (1, [15, 11, 14], []), (9, [11, 0], [17]), (7, [11, 13], [1]), (20, [10, 11], [61, 1, 762]), (20, [0], [50, 2, 0, 17, 18, 0, 8, 4, 3, 2, 0, 17, 2, 0, 18, 0, 30]), (20, [0], [60, 2, 3, 670, 0, 1, 14, 7, 8]), (20, [0], [60, 2, 2, 596, 0, 1, 7, 8]), (102, [11], [381944245562716141175333566576758405197150323812363046994276334253946495506784008380874752, 3000, 3001]), (102, [11], [2305843009213693952]), (101, [0, 10], [16])], [], [], [(20, [0, 15], [60, 0, 1, 737, 16])], [], [(15, 11, 1, 1)])
theorem oo_Gr_alter_at_kx_7 {kA : Nat → ClassId} : or_ok PRD kA GG o_Gr_alter_at_kx_7 := by
  refine or_mk fun A ta ws vs hD hth hl => ?_
  intro t0 r0 t6 k6 t7 r7 t8 r8 t10 r10 t11 k11 t12 k12 t13 k13 t14 k14 t15 k15 t16 k16 d0 f0 f1 f2 f3 f4 f5 f6 f7 f8 f9 ta1 w1 le1 s1 f11 f12 f13 ta2 w2 le2 s2 f15 f16 f17 f18 f19 f20 f21 ta3 w3 le3 s3 ta4 w4 le4 s4 ta5 w5 le5 s5
  replace f5 := shm_188 f5
  have s1 : (∀ b j, w_el ws b j = w_el w1 b j) ∧ ∀ b j, w_fd ws b j = if b = v_ad (n_v vs 0) ∧ j = 18 then n_v vs 16 else w_fd w1 b j := s1.2
  have s2 : (∀ b j, w_el w1 b j = w_el w2 b j) ∧ ∀ b j, w_fd w1 b j = if b = v_ad (n_v vs 0) ∧ j = 17 then n_v vs 15 else w_fd w2 b j := s2.2
  replace f18 := shm_1743 f18
  have ar_0_7_1 : w_ar w1 (n_v vs 0) 7 = w_ar ws (n_v vs 0) 7 := by show v_ad (w_fd w1 _ _) = v_ad (w_fd ws _ _); rw [s1.2, if_neg (fun e => absurd e.2 (by decide))]
  have ar_0_7_2 : w_ar w2 (n_v vs 0) 7 = w_ar ws (n_v vs 0) 7 := by rw [← ar_0_7_1]; show v_ad (w_fd w2 _ _) = v_ad (w_fd w1 _ _); rw [s2.2, if_neg (fun e => absurd e.2 (by decide))]
  have ar_0_8_1 : w_ar w1 (n_v vs 0) 8 = w_ar ws (n_v vs 0) 8 := by show v_ad (w_fd w1 _ _) = v_ad (w_fd ws _ _); rw [s1.2, if_neg (fun e => absurd e.2 (by decide))]
  have ar_0_8_2 : w_ar w2 (n_v vs 0) 8 = w_ar ws (n_v vs 0) 8 := by rw [← ar_0_8_1]; show v_ad (w_fd w2 _ _) = v_ad (w_fd w1 _ _); rw [s2.2, if_neg (fun e => absurd e.2 (by decide))]
  have ar_0_14_1 : w_ar w1 (n_v vs 0) 14 = w_ar ws (n_v vs 0) 14 := by show v_ad (w_fd w1 _ _) = v_ad (w_fd ws _ _); rw [s1.2, if_neg (fun e => absurd e.2 (by decide))]
  have ar_0_14_2 : w_ar w2 (n_v vs 0) 14 = w_ar ws (n_v vs 0) 14 := by rw [← ar_0_14_1]; show v_ad (w_fd w2 _ _) = v_ad (w_fd w1 _ _); rw [s2.2, if_neg (fun e => absurd e.2 (by decide))]
  have ad_10 : v_ad (n_v vs 10) = w_ar ws (n_v vs 0) 16 := congrArg v_ad f5
  simp only [ad_10, ar_0_7_2, ar_0_8_2, ar_0_14_2] at f18
  have fe_0_0_1 : w_fi ws (n_v vs 0) 0 = w_fi w1 (n_v vs 0) 0 := by show v_iv (w_fd _ _ _) = v_iv (w_fd _ _ _); rw [s1.2, if_neg (fun e => absurd e.2 (by decide))]
  have fe_0_1_1 : w_fi ws (n_v vs 0) 1 = w_fi w1 (n_v vs 0) 1 := by show v_iv (w_fd _ _ _) = v_iv (w_fd _ _ _); rw [s1.2, if_neg (fun e => absurd e.2 (by decide))]
  have fe_0_17_1 : w_fi ws (n_v vs 0) 17 = w_fi w1 (n_v vs 0) 17 := by show v_iv (w_fd _ _ _) = v_iv (w_fd _ _ _); rw [s1.2, if_neg (fun e => absurd e.2 (by decide))]
  have fe_0_0_2 : w_fi w1 (n_v vs 0) 0 = w_fi w2 (n_v vs 0) 0 := by show v_iv (w_fd _ _ _) = v_iv (w_fd _ _ _); rw [s2.2, if_neg (fun e => absurd e.2 (by decide))]
  have fe_0_1_2 : w_fi w1 (n_v vs 0) 1 = w_fi w2 (n_v vs 0) 1 := by show v_iv (w_fd _ _ _) = v_iv (w_fd _ _ _); rw [s2.2, if_neg (fun e => absurd e.2 (by decide))]
  have fe_0_18_2 : w_fi w1 (n_v vs 0) 18 = w_fi w2 (n_v vs 0) 18 := by show v_iv (w_fd _ _ _) = v_iv (w_fd _ _ _); rw [s2.2, if_neg (fun e => absurd e.2 (by decide))]
  have hE_0_7_1 : ∀ j : Int, w_ei ws (w_ar ws (n_v vs 0) 7) j = w_ei w1 (w_ar ws (n_v vs 0) 7) j := fun j => s1.1 _ _
  have hE_0_7_2 : ∀ j : Int, w_ei w1 (w_ar ws (n_v vs 0) 7) j = w_ei w2 (w_ar ws (n_v vs 0) 7) j := fun j => s2.1 _ _
  have hE_0_8_1 : ∀ j : Int, w_ei ws (w_ar ws (n_v vs 0) 8) j = w_ei w1 (w_ar ws (n_v vs 0) 8) j := fun j => s1.1 _ _
  have hE_0_8_2 : ∀ j : Int, w_ei w1 (w_ar ws (n_v vs 0) 8) j = w_ei w2 (w_ar ws (n_v vs 0) 8) j := fun j => s2.1 _ _
  have hE_0_14_1 : ∀ j : Int, w_ei ws (w_ar ws (n_v vs 0) 14) j = w_ei w1 (w_ar ws (n_v vs 0) 14) j := fun j => s1.1 _ _
  have hE_0_14_2 : ∀ j : Int, w_ei w1 (w_ar ws (n_v vs 0) 14) j = w_ei w2 (w_ar ws (n_v vs 0) 14) j := fun j => s2.1 _ _
  have hE_0_16_1 : ∀ j : Int, w_ei ws (w_ar ws (n_v vs 0) 16) j = w_ei w1 (w_ar ws (n_v vs 0) 16) j := fun j => s1.1 _ _
  have hE_0_16_2 : ∀ j : Int, w_ei w1 (w_ar ws (n_v vs 0) 16) j = w_ei w2 (w_ar ws (n_v vs 0) 16) j := fun j => s2.1 _ _
  have kz_0_0 := fdq_23 hD hth r0
  have kz_0_1 := fdq_38 hD hth r0
  have kz_0_17 := fdq_282 hD hth r0
  have nf0 : fc_1 PRD (20, [0, 15], [60, 0, 1, 737, 16]) ws (vs) := ⟨nf_in hl rfl, sgq_821 (vc_Gr_alter_at_kx_7_0 (v_iv (n_v vs 11)) (v_iv (n_v vs 15)) (w_fi ws (n_v vs 0) 0) (w_fi ws (n_v vs 0) 1) (w_fi ws (n_v vs 0) 17) (w_ei ws (w_ar ws (n_v vs 0) 16)) (w_ei ws (w_ar ws (n_v vs 0) 14)) (w_ei ws (w_ar ws (n_v vs 0) 7)) (w_ei ws (w_ar ws (n_v vs 0) 8)) (w_ei w1 (w_ar ws (n_v vs 0) 16)) (w_ei w1 (w_ar ws (n_v vs 0) 14)) (w_ei w1 (w_ar ws (n_v vs 0) 7)) (w_ei w1 (w_ar ws (n_v vs 0) 8)) (w_fi w1 (n_v vs 0) 0) (w_fi w1 (n_v vs 0) 1) (w_ei w2 (w_ar ws (n_v vs 0) 16)) (w_fi w2 (n_v vs 0) 18) (w_ei w2 (w_ar ws (n_v vs 0) 14)) (w_ei w2 (w_ar ws (n_v vs 0) 7)) (w_ei w2 (w_ar ws (n_v vs 0) 8)) (w_fi w2 (n_v vs 0) 0) (w_fi w2 (n_v vs 0) 1) (w_fi w1 (n_v vs 0) 17) (w_fi w1 (n_v vs 0) 18) k11 k15 d0 f18 fe_0_0_1 fe_0_1_1 fe_0_17_1 fe_0_0_2 fe_0_1_2 fe_0_18_2 hE_0_7_1 hE_0_7_2 hE_0_8_1 hE_0_8_2 hE_0_14_1 hE_0_14_2 hE_0_16_1 hE_0_16_2 kz_0_0 kz_0_1 kz_0_17)⟩
  refine ⟨(fun _ h => (by cases h)), [], trivial, ?_, (fun _ h => (by cases h))⟩
  rw [List.append_nil]
  exact List.forall_mem_cons.mpr ⟨⟨show (20 : Nat) < 100 from by decide, nf0⟩, (fun _ h => (by cases h))⟩
set_option maxHeartbeats 4000000 in
theorem vc_Gr_alter_at_kx_8_0 (x15 : Int) (x16 : Int) (undone_0 : Int) (done_0 : Int) (k15 : 1 ≤ x15 ∧ x15 ≤ 30) (k16 : 0 ≤ x16 ∧ x16 ≤ 0) (g0 : x16 = undone_0) (g1 : x15 = done_0) (kz_0_17 : 0 ≤ done_0 ∧ done_0 ≤ 30) (kz_0_18 : 0 ≤ undone_0 ∧ undone_0 ≤ 30) : (done_0 + undone_0) ≤ 30 := by
  first
    | omega
  
set_option maxHeartbeats 4000000 in
theorem vc_Gr_alter_at_kx_8_1 (x15 : Int) (x16 : Int) (undone_0 : Int) (done_0 : Int) (past_0 : Int → Int) (k15 : 1 ≤ x15 ∧ x15 ≤ 30) (k16 : 0 ≤ x16 ∧ x16 ≤ 0) (g0 : x16 = undone_0) (g1 : x15 = done_0) (f8 : PRI (past_0) (x15)) (kz_0_17 : 0 ≤ done_0 ∧ done_0 ≤ 30) (kz_0_18 : 0 ≤ undone_0 ∧ undone_0 ≤ 30) : PDQ (done_0) (undone_0) (past_0) := by
  first
    | assumption
    | exact pri_pdq ‹PRI _ _› (by omega) (by omega)
  
def o_Gr_alter_at_kx_8 : or_T := (87, 17, [(0, (2, 0, 0, [3])), (6, (0, 0, 48, [])), (7, (2, 0, 0, [52])), (8, (2, 0, 0, [53])), (10, (2, 0, 0, [61])), (11, (0, 0, 29, [])), (12, (0, 1, 24, [])), (13, (0, 30, 30, [])), (14, (0, 1, 1, [])), (15, (0, 1, 30, [])), (16, (0, 0, 0, []))], [(9, [16, 0], [18]), (9, [15, 0], [17]), (9, [12, 0], [0]), (9, [6, 0], [1]), (9, [7, 0], [7]), (9, [8, 0], [8]), (9, [10, 0], [16]), (20, [0], [60, 2, 3, 670, 0, 1, 14, 7, 8]), (20, [0, 15], [60, 0, 1, 738, 16]), (20, [0], [60, 2, 2, 596, 0, 1, 7, 8]), (102, [16], [2305843009213693952]), (101, [0, 16], [18]), (101, [0, 15], [17]), (1, [15, 11, 14], []), (7, [11, 13], [1]), (102, [11], [381944245562716141175333566576758405197150323812363046994276334253946495506784008380874752, 3000, 3001]), (102, [11], [2305843009213693952]), (101, [0, 10], [16])], [], [], [(20, [0], [50, 2, 0, 17, 18, 0, 8, 4, 3, 2, 0, 17, 2, 0, 18, 0, 30]), (20, [0], [60, 2, 1, 739, 17, 18, 16])], [], [(15, 11, 1, 1)])
theorem oo_Gr_alter_at_kx_8 {kA : Nat → ClassId} : or_ok PRD kA GG o_Gr_alter_at_kx_8 := by
  refine or_mk fun A ta ws vs hD hth hl => ?_
  intro t0 r0 t6 k6 t7 r7 t8 r8 t10 r10 t11 k11 t12 k12 t13 k13 t14 k14 t15 k15 t16 k16 d0 f0 f1 f2 f3 f4 f5 f6 f7 f8 f9 ta1 w1 le1 s1 ta2 w2 le2 s2 ta3 w3 le3 s3 f13 f14 ta4 w4 le4 s4 ta5 w5 le5 s5 ta6 w6 le6 s6
  replace f0 := shm_785 f0
  replace f1 := shm_781 f1
  have g0 : v_iv (n_v vs 16) = w_fi ws (n_v vs 0) 18 := congrArg v_iv f0
  have g1 : v_iv (n_v vs 15) = w_fi ws (n_v vs 0) 17 := congrArg v_iv f1
  have kz_0_17 := fdq_282 hD hth r0
  have kz_0_18 := fdq_283 hD hth r0
  have nf0 : fc_1 PRD (20, [0], [50, 2, 0, 17, 18, 0, 8, 4, 3, 2, 0, 17, 2, 0, 18, 0, 30]) ws (vs) := ⟨nf_in hl rfl, sgq_1462 (vc_Gr_alter_at_kx_8_0 (v_iv (n_v vs 15)) (v_iv (n_v vs 16)) (w_fi ws (n_v vs 0) 18) (w_fi ws (n_v vs 0) 17) k15 k16 g0 g1 kz_0_17 kz_0_18)⟩
  have nf1 : fc_1 PRD (20, [0], [60, 2, 1, 739, 17, 18, 16]) ws (vs) := ⟨nf_in hl rfl, sgq_1327 (vc_Gr_alter_at_kx_8_1 (v_iv (n_v vs 15)) (v_iv (n_v vs 16)) (w_fi ws (n_v vs 0) 18) (w_fi ws (n_v vs 0) 17) (w_ei ws (w_ar ws (n_v vs 0) 16)) k15 k16 g0 g1 (shm_826 f8) kz_0_17 kz_0_18)⟩
  refine ⟨(fun _ h => (by cases h)), [], trivial, ?_, (fun _ h => (by cases h))⟩
  rw [List.append_nil]
  exact List.forall_mem_cons.mpr ⟨⟨show (20 : Nat) < 100 from by decide, nf0⟩, List.forall_mem_cons.mpr ⟨⟨show (20 : Nat) < 100 from by decide, nf1⟩, (fun _ h => (by cases h))⟩⟩
set_option maxHeartbeats 4000000 in
theorem vc_Gr_alter_at_kx_9_0 (x14 : Int) (x16 : Int) (k14 : 122 ≤ x14 ∧ x14 ≤ 122) (k16 : 3660 ≤ x16 ∧ x16 ≤ 3660) : x14 + x16 ≤ 3782 := by
  first
    | omega
  
set_option maxHeartbeats 4000000 in
theorem vc_Gr_alter_at_kx_9_1 (x15 : Int) (x16 : Int) (k15 : 0 ≤ x15 ∧ x15 ≤ 0) (k16 : 3660 ≤ x16 ∧ x16 ≤ 3660) : x15 + x16 ≤ 3782 := by
  first
    | omega
  
set_option maxHeartbeats 4000000 in
theorem vc_Gr_alter_at_kx_9_2 (x11 : Int) (x14 : Int) (x15 : Int) (x16 : Int) (a10_0 : Int → Int) (k11 : 30 ≤ x11 ∧ x11 ≤ 30) (k14 : 122 ≤ x14 ∧ x14 ≤ 122) (k15 : 0 ≤ x15 ∧ x15 ≤ 0) (k16 : 3660 ≤ x16 ∧ x16 ≤ 3660) (f6 : PNI (a10_0) (x11)) : MV1 (a10_0) (a10_0) (x14) (x15) (x16) := by
  first
    | exact ⟨by omega, by omega, by omega, fun r a b => (‹PNI _ _›) r a (by omega)⟩
  
def o_Gr_alter_at_kx_9 : or_T := (56, 17, [(0, (2, 0, 0, [3])), (6, (0, 0, 48, [])), (7, (2, 0, 0, [52])), (8, (2, 0, 0, [53])), (10, (2, 0, 0, [61])), (11, (0, 30, 30, [])), (12, (0, 1, 24, [])), (13, (0, 30, 30, [])), (14, (0, 122, 122, [])), (15, (0, 0, 0, [])), (16, (0, 3660, 3660, []))], [(9, [12, 0], [0]), (9, [6, 0], [1]), (9, [7, 0], [7]), (9, [8, 0], [8]), (7, [11, 13], [0]), (9, [11, 0], [17]), (20, [10, 11], [61, 1, 762]), (20, [0], [50, 2, 0, 17, 18, 0, 8, 4, 3, 2, 0, 17, 2, 0, 18, 0, 30]), (20, [0], [60, 2, 3, 670, 0, 1, 14, 7, 8]), (20, [0], [60, 2, 2, 596, 0, 1, 7, 8])], [], [], [(21, [14, 16], [3782]), (21, [15, 16], [3782]), (20, [10, 10, 14, 15, 16], [61, 2, 763])], [], [])
theorem oo_Gr_alter_at_kx_9 {kA : Nat → ClassId} : or_ok PRD kA GG o_Gr_alter_at_kx_9 := by
  refine or_mk fun A ta ws vs hD hth hl => ?_
  intro t0 r0 t6 k6 t7 r7 t8 r8 t10 r10 t11 k11 t12 k12 t13 k13 t14 k14 t15 k15 t16 k16 f0 f1 f2 f3 f4 f5 f6 f7 f8 f9
  have nf0 : fc_1 PRD (21, [14, 16], [3782]) ws (vs) := ⟨nf_in hl rfl, sgq_1744 (vc_Gr_alter_at_kx_9_0 (v_iv (n_v vs 14)) (v_iv (n_v vs 16)) k14 k16)⟩
  have nf1 : fc_1 PRD (21, [15, 16], [3782]) ws (vs) := ⟨nf_in hl rfl, sgq_1744 (vc_Gr_alter_at_kx_9_1 (v_iv (n_v vs 15)) (v_iv (n_v vs 16)) k15 k16)⟩
  have nf2 : fc_1 PRD (20, [10, 10, 14, 15, 16], [61, 2, 763]) ws (vs) := ⟨nf_in hl rfl, sgq_1745 (vc_Gr_alter_at_kx_9_2 (v_iv (n_v vs 11)) (v_iv (n_v vs 14)) (v_iv (n_v vs 15)) (v_iv (n_v vs 16)) (w_ei ws (v_ad (n_v vs 10))) k11 k14 k15 k16 (shm_1743 f6))⟩
  refine ⟨(fun _ h => (by cases h)), [], trivial, ?_, (fun _ h => (by cases h))⟩
  rw [List.append_nil]
  exact List.forall_mem_cons.mpr ⟨⟨show (21 : Nat) < 100 from by decide, nf0⟩, List.forall_mem_cons.mpr ⟨⟨show (21 : Nat) < 100 from by decide, nf1⟩, List.forall_mem_cons.mpr ⟨⟨show (20 : Nat) < 100 from by decide, nf2⟩, (fun _ h => (by cases h))⟩⟩⟩
set_option maxHeartbeats 4000000 in
theorem vc_Gr_alter_at_kx_10_0 (x11 : Int) (x14 : Int) (x15 : Int) (x16 : Int) (nodes_0 : Int) (edges_0 : Int) (done_0 : Int) (near_0 : Int → Int) (tail_0 : Int → Int) (head_0 : Int → Int) (past_0 : Int → Int) (done_1 : Int) (near_1 : Int → Int) (tail_1 : Int → Int) (head_1 : Int → Int) (nodes_1 : Int) (edges_1 : Int) (past_1 : Int → Int) (k11 : 30 ≤ x11 ∧ x11 ≤ 30) (k14 : 122 ≤ x14 ∧ x14 ≤ 122) (k15 : 0 ≤ x15 ∧ x15 ≤ 0) (k16 : 3660 ≤ x16 ∧ x16 ≤ 3660) (f18 : MV2 (past_1) (past_1) (x14) (x15) (x16)) (fe_0_0_1 : nodes_0 = nodes_1) (fe_0_1_1 : edges_0 = edges_1) (fe_0_17_1 : done_0 = done_1) (hE_0_7_1 : ∀ j : Int, tail_0 j = tail_1 j) (hE_0_8_1 : ∀ j : Int, head_0 j = head_1 j) (hE_0_14_1 : ∀ j : Int, near_0 j = near_1 j) (hE_0_16_1 : ∀ j : Int, past_0 j = past_1 j) (kz_0_0 : 0 ≤ nodes_0 ∧ nodes_0 ≤ 24) (kz_0_1 : 0 ≤ edges_0 ∧ edges_0 ≤ 48) (kz_0_17 : 0 ≤ done_0 ∧ done_0 ≤ 30) : PRO (past_0) (x11) := by
  subst fe_0_0_1
  subst fe_0_1_1
  subst fe_0_17_1
  have e_hE_0_7_1 := funext hE_0_7_1; subst e_hE_0_7_1
  have e_hE_0_8_1 := funext hE_0_8_1; subst e_hE_0_8_1
  have e_hE_0_14_1 := funext hE_0_14_1; subst e_hE_0_14_1
  have e_hE_0_16_1 := funext hE_0_16_1; subst e_hE_0_16_1
  first
    | exact pro_pdq ‹PDQ _ _ _› (by omega) (by omega)
    | exact pri_pro ‹PNI _ _› (by omega)
    | (have q := (‹MV2 _ _ _ _ _›); exact fun r a b => q r a (by omega))
    | exact pro_zero (by omega) (fun j a b => by have q := hT10 j a (by omega); omega)
  
def o_Gr_alter_at_kx_10 : or_T := (82, 18, [(0, (2, 0, 0, [3])), (6, (0, 0, 48, [])), (7, (2, 0, 0, [52])), (8, (2, 0, 0, [53])), (10, (2, 0, 0, [61])), (11, (0, 30, 30, [])), (12, (0, 1, 24, [])), (13, (0, 30, 30, [])), (14, (0, 122, 122, [])), (15, (0, 0, 0, [])), (16, (0, 3660, 3660, [])), (17, (0, 0, 0, []))], [(9, [17, 0], [18]), (9, [12, 0], [0]), (9, [6, 0], [1]), (9, [7, 0], [7]), (9, [8, 0], [8]), (9, [10, 0], [16]), (9, [11, 0], [17]), (21, [14, 16], [3782]), (21, [15, 16], [3782]), (20, [0], [60, 2, 3, 670, 0, 1, 14, 7, 8]), (20, [0], [60, 2, 2, 596, 0, 1, 7, 8]), (20, [10, 10, 14, 15, 16], [61, 2, 764]), (101, [0, 17], [18]), (21, [14, 16], [3782]), (21, [15, 16], [3782]), (20, [0], [50, 2, 0, 17, 18, 0, 8, 4, 3, 2, 0, 17, 2, 0, 18, 0, 30]), (20, [0], [60, 2, 3, 670, 0, 1, 14, 7, 8]), (20, [0], [60, 2, 2, 596, 0, 1, 7, 8]), (20, [10, 10, 14, 15, 16], [61, 2, 764]), (102, [16], [2305843009213693952]), (21, [14, 16], [3782]), (21, [15, 16], [3782]), (7, [11, 13], [0]), (102, [11], [381944245562716141175333566576758405197150323812363046994276334253946495506784008380874752, 3000, 3001]), (102, [11], [2305843009213693952]), (101, [0, 10], [16])], [], [], [(20, [0, 11], [60, 0, 1, 737, 16])], [], [])
theorem oo_Gr_alter_at_kx_10 {kA : Nat → ClassId} : or_ok PRD kA GG o_Gr_alter_at_kx_10 := by
  refine or_mk fun A ta ws vs hD hth hl => ?_
  intro t0 r0 t6 k6 t7 r7 t8 r8 t10 r10 t11 k11 t12 k12 t13 k13 t14 k14 t15 k15 t16 k16 t17 k17 f0 f1 f2 f3 f4 f5 f6 f7 f8 f9 f10 f11 ta1 w1 le1 s1 f13 f14 f15 f16 f17 f18 ta2 w2 le2 s2 f20 f21 f22 ta3 w3 le3 s3 ta4 w4 le4 s4 ta5 w5 le5 s5
  replace f5 := shm_188 f5
  have s1 : (∀ b j, w_el ws b j = w_el w1 b j) ∧ ∀ b j, w_fd ws b j = if b = v_ad (n_v vs 0) ∧ j = 18 then n_v vs 17 else w_fd w1 b j := s1.2
  replace f18 := shm_1746 f18
  have ar_0_7_1 : w_ar w1 (n_v vs 0) 7 = w_ar ws (n_v vs 0) 7 := by show v_ad (w_fd w1 _ _) = v_ad (w_fd ws _ _); rw [s1.2, if_neg (fun e => absurd e.2 (by decide))]
  have ar_0_8_1 : w_ar w1 (n_v vs 0) 8 = w_ar ws (n_v vs 0) 8 := by show v_ad (w_fd w1 _ _) = v_ad (w_fd ws _ _); rw [s1.2, if_neg (fun e => absurd e.2 (by decide))]
  have ar_0_14_1 : w_ar w1 (n_v vs 0) 14 = w_ar ws (n_v vs 0) 14 := by show v_ad (w_fd w1 _ _) = v_ad (w_fd ws _ _); rw [s1.2, if_neg (fun e => absurd e.2 (by decide))]
  have ad_10 : v_ad (n_v vs 10) = w_ar ws (n_v vs 0) 16 := congrArg v_ad f5
  simp only [ad_10, ar_0_7_1, ar_0_8_1, ar_0_14_1] at f18
  have fe_0_0_1 : w_fi ws (n_v vs 0) 0 = w_fi w1 (n_v vs 0) 0 := by show v_iv (w_fd _ _ _) = v_iv (w_fd _ _ _); rw [s1.2, if_neg (fun e => absurd e.2 (by decide))]
  have fe_0_1_1 : w_fi ws (n_v vs 0) 1 = w_fi w1 (n_v vs 0) 1 := by show v_iv (w_fd _ _ _) = v_iv (w_fd _ _ _); rw [s1.2, if_neg (fun e => absurd e.2 (by decide))]
  have fe_0_17_1 : w_fi ws (n_v vs 0) 17 = w_fi w1 (n_v vs 0) 17 := by show v_iv (w_fd _ _ _) = v_iv (w_fd _ _ _); rw [s1.2, if_neg (fun e => absurd e.2 (by decide))]
  have hE_0_7_1 : ∀ j : Int, w_ei ws (w_ar ws (n_v vs 0) 7) j = w_ei w1 (w_ar ws (n_v vs 0) 7) j := fun j => s1.1 _ _
  have hE_0_8_1 : ∀ j : Int, w_ei ws (w_ar ws (n_v vs 0) 8) j = w_ei w1 (w_ar ws (n_v vs 0) 8) j := fun j => s1.1 _ _
  have hE_0_14_1 : ∀ j : Int, w_ei ws (w_ar ws (n_v vs 0) 14) j = w_ei w1 (w_ar ws (n_v vs 0) 14) j := fun j => s1.1 _ _
  have hE_0_16_1 : ∀ j : Int, w_ei ws (w_ar ws (n_v vs 0) 16) j = w_ei w1 (w_ar ws (n_v vs 0) 16) j := fun j => s1.1 _ _
  have kz_0_0 := fdq_23 hD hth r0
  have kz_0_1 := fdq_38 hD hth r0
  have kz_0_17 := fdq_282 hD hth r0
  have nf0 : fc_1 PRD (20, [0, 11], [60, 0, 1, 737, 16]) ws (vs) := ⟨nf_in hl rfl, sgq_821 (vc_Gr_alter_at_kx_10_0 (v_iv (n_v vs 11)) (v_iv (n_v vs 14)) (v_iv (n_v vs 15)) (v_iv (n_v vs 16)) (w_fi ws (n_v vs 0) 0) (w_fi ws (n_v vs 0) 1) (w_fi ws (n_v vs 0) 17) (w_ei ws (w_ar ws (n_v vs 0) 14)) (w_ei ws (w_ar ws (n_v vs 0) 7)) (w_ei ws (w_ar ws (n_v vs 0) 8)) (w_ei ws (w_ar ws (n_v vs 0) 16)) (w_fi w1 (n_v vs 0) 17) (w_ei w1 (w_ar ws (n_v vs 0) 14)) (w_ei w1 (w_ar ws (n_v vs 0) 7)) (w_ei w1 (w_ar ws (n_v vs 0) 8)) (w_fi w1 (n_v vs 0) 0) (w_fi w1 (n_v vs 0) 1) (w_ei w1 (w_ar ws (n_v vs 0) 16)) k11 k14 k15 k16 f18 fe_0_0_1 fe_0_1_1 fe_0_17_1 hE_0_7_1 hE_0_8_1 hE_0_14_1 hE_0_16_1 kz_0_0 kz_0_1 kz_0_17)⟩
  refine ⟨(fun _ h => (by cases h)), [], trivial, ?_, (fun _ h => (by cases h))⟩
  rw [List.append_nil]
  exact List.forall_mem_cons.mpr ⟨⟨show (20 : Nat) < 100 from by decide, nf0⟩, (fun _ h => (by cases h))⟩
set_option maxHeartbeats 4000000 in
theorem vc_Gr_alter_at_kx_11_0 (x11 : Int) (x17 : Int) (undone_0 : Int) (done_0 : Int) (k11 : 30 ≤ x11 ∧ x11 ≤ 30) (k17 : 0 ≤ x17 ∧ x17 ≤ 0) (g0 : x17 = undone_0) (g5 : x11 = done_0) (kz_0_17 : 0 ≤ done_0 ∧ done_0 ≤ 30) (kz_0_18 : 0 ≤ undone_0 ∧ undone_0 ≤ 30) : (done_0 + undone_0) ≤ 30 := by
  first
    | omega
  
set_option maxHeartbeats 4000000 in
theorem vc_Gr_alter_at_kx_11_1 (x11 : Int) (x17 : Int) (undone_0 : Int) (done_0 : Int) (past_0 : Int → Int) (k11 : 30 ≤ x11 ∧ x11 ≤ 30) (k17 : 0 ≤ x17 ∧ x17 ≤ 0) (g0 : x17 = undone_0) (g5 : x11 = done_0) (f8 : PRI (past_0) (x11)) (kz_0_17 : 0 ≤ done_0 ∧ done_0 ≤ 30) (kz_0_18 : 0 ≤ undone_0 ∧ undone_0 ≤ 30) : PDQ (done_0) (undone_0) (past_0) := by
  first
    | assumption
    | exact pri_pdq ‹PRI _ _› (by omega) (by omega)
  
def o_Gr_alter_at_kx_11 : or_T := (87, 18, [(0, (2, 0, 0, [3])), (6, (0, 0, 48, [])), (7, (2, 0, 0, [52])), (8, (2, 0, 0, [53])), (10, (2, 0, 0, [61])), (11, (0, 30, 30, [])), (12, (0, 1, 24, [])), (13, (0, 30, 30, [])), (17, (0, 0, 0, []))], [(9, [17, 0], [18]), (9, [12, 0], [0]), (9, [6, 0], [1]), (9, [7, 0], [7]), (9, [8, 0], [8]), (9, [11, 0], [17]), (9, [10, 0], [16]), (20, [0], [60, 2, 3, 670, 0, 1, 14, 7, 8]), (20, [0, 11], [60, 0, 1, 738, 16]), (20, [0], [60, 2, 2, 596, 0, 1, 7, 8]), (102, [17], [2305843009213693952]), (101, [0, 17], [18]), (102, [16], [2305843009213693952]), (7, [11, 13], [0]), (102, [11], [381944245562716141175333566576758405197150323812363046994276334253946495506784008380874752, 3000, 3001]), (102, [11], [2305843009213693952]), (101, [0, 10], [16])], [], [], [(20, [0], [50, 2, 0, 17, 18, 0, 8, 4, 3, 2, 0, 17, 2, 0, 18, 0, 30]), (20, [0], [60, 2, 1, 739, 17, 18, 16])], [], [])
theorem oo_Gr_alter_at_kx_11 {kA : Nat → ClassId} : or_ok PRD kA GG o_Gr_alter_at_kx_11 := by
  refine or_mk fun A ta ws vs hD hth hl => ?_
  intro t0 r0 t6 k6 t7 r7 t8 r8 t10 r10 t11 k11 t12 k12 t13 k13 t17 k17 f0 f1 f2 f3 f4 f5 f6 f7 f8 f9 ta1 w1 le1 s1 ta2 w2 le2 s2 ta3 w3 le3 s3 f13 ta4 w4 le4 s4 ta5 w5 le5 s5 ta6 w6 le6 s6
  replace f0 := shm_785 f0
  replace f5 := shm_781 f5
  have g0 : v_iv (n_v vs 17) = w_fi ws (n_v vs 0) 18 := congrArg v_iv f0
  have g5 : v_iv (n_v vs 11) = w_fi ws (n_v vs 0) 17 := congrArg v_iv f5
  have kz_0_17 := fdq_282 hD hth r0
  have kz_0_18 := fdq_283 hD hth r0
  have nf0 : fc_1 PRD (20, [0], [50, 2, 0, 17, 18, 0, 8, 4, 3, 2, 0, 17, 2, 0, 18, 0, 30]) ws (vs) := ⟨nf_in hl rfl, sgq_1462 (vc_Gr_alter_at_kx_11_0 (v_iv (n_v vs 11)) (v_iv (n_v vs 17)) (w_fi ws (n_v vs 0) 18) (w_fi ws (n_v vs 0) 17) k11 k17 g0 g5 kz_0_17 kz_0_18)⟩
  have nf1 : fc_1 PRD (20, [0], [60, 2, 1, 739, 17, 18, 16]) ws (vs) := ⟨nf_in hl rfl, sgq_1327 (vc_Gr_alter_at_kx_11_1 (v_iv (n_v vs 11)) (v_iv (n_v vs 17)) (w_fi ws (n_v vs 0) 18) (w_fi ws (n_v vs 0) 17) (w_ei ws (w_ar ws (n_v vs 0) 16)) k11 k17 g0 g5 (shm_826 f8) kz_0_17 kz_0_18)⟩
  refine ⟨(fun _ h => (by cases h)), [], trivial, ?_, (fun _ h => (by cases h))⟩
  rw [List.append_nil]
  exact List.forall_mem_cons.mpr ⟨⟨show (20 : Nat) < 100 from by decide, nf0⟩, List.forall_mem_cons.mpr ⟨⟨show (20 : Nat) < 100 from by decide, nf1⟩, (fun _ h => (by cases h))⟩⟩
set_option maxHeartbeats 4000000 in
theorem vc_Gr_alter_at_kx_12_0 (x11 : Int) (x15 : Int) (nodes_0 : Int) (edges_0 : Int) (done_0 : Int) (past_0 : Int → Int) (near_0 : Int → Int) (tail_0 : Int → Int) (head_0 : Int → Int) (past_1 : Int → Int) (near_1 : Int → Int) (tail_1 : Int → Int) (head_1 : Int → Int) (nodes_1 : Int) (edges_1 : Int) (past_2 : Int → Int) (undone_2 : Int) (near_2 : Int → Int) (tail_2 : Int → Int) (head_2 : Int → Int) (nodes_2 : Int) (edges_2 : Int) (done_1 : Int) (undone_1 : Int) (k11 : 0 ≤ x11 ∧ x11 ≤ 29) (k15 : 1 ≤ x15 ∧ x15 ≤ 30) (d0 : x11 + 1 ≤ x15 ∧ x15 ≤ x11 + 1) (f18 : PNI (past_2) (x11)) (fe_0_0_1 : nodes_0 = nodes_1) (fe_0_1_1 : edges_0 = edges_1) (fe_0_17_1 : done_0 = done_1) (fe_0_0_2 : nodes_1 = nodes_2) (fe_0_1_2 : edges_1 = edges_2) (fe_0_18_2 : undone_1 = undone_2) (hE_0_7_1 : ∀ j : Int, tail_0 j = tail_1 j) (hE_0_7_2 : ∀ j : Int, tail_1 j = tail_2 j) (hE_0_8_1 : ∀ j : Int, head_0 j = head_1 j) (hE_0_8_2 : ∀ j : Int, head_1 j = head_2 j) (hE_0_14_1 : ∀ j : Int, near_0 j = near_1 j) (hE_0_14_2 : ∀ j : Int, near_1 j = near_2 j) (hE_0_16_1 : ∀ j : Int, past_0 j = past_1 j) (hE_0_16_2 : ∀ j : Int, past_1 j = past_2 j) (kz_0_0 : 0 ≤ nodes_0 ∧ nodes_0 ≤ 24) (kz_0_1 : 0 ≤ edges_0 ∧ edges_0 ≤ 48) (kz_0_17 : 0 ≤ done_0 ∧ done_0 ≤ 30) : PRO (past_0) (x15) := by
  subst fe_0_0_1
  subst fe_0_1_1
  subst fe_0_17_1
  subst fe_0_0_2
  subst fe_0_1_2
  subst fe_0_18_2
  have e_hE_0_7_1 := funext hE_0_7_1; subst e_hE_0_7_1
  have e_hE_0_7_2 := funext hE_0_7_2; subst e_hE_0_7_2
  have e_hE_0_8_1 := funext hE_0_8_1; subst e_hE_0_8_1
  have e_hE_0_8_2 := funext hE_0_8_2; subst e_hE_0_8_2
  have e_hE_0_14_1 := funext hE_0_14_1; subst e_hE_0_14_1
  have e_hE_0_14_2 := funext hE_0_14_2; subst e_hE_0_14_2
  have e_hE_0_16_1 := funext hE_0_16_1; subst e_hE_0_16_1
  have e_hE_0_16_2 := funext hE_0_16_2; subst e_hE_0_16_2
  first
    | exact pro_pdq ‹PDQ _ _ _› (by omega) (by omega)
    | exact pri_pro ‹PNI _ _› (by omega)
    | (have q := (‹MV2 _ _ _ _ _›); exact fun r a b => q r a (by omega))
    | exact pro_zero (by omega) (fun j a b => by have q := hT10 j a (by omega); omega)
  
def o_Gr_alter_at_kx_12 : or_T := (82, 17, [(0, (2, 0, 0, [3])), (5, (0, 0, 24, [])), (7, (2, 0, 0, [52])), (8, (2, 0, 0, [53])), (10, (2, 0, 0, [61])), (11, (0, 0, 29, [])), (12, (0, 1, 48, [])), (13, (0, 30, 30, [])), (14, (0, 1, 1, [])), (15, (0, 1, 30, [])), (16, (0, 0, 0, []))], [(9, [16, 0], [18]), (9, [5, 0], [0]), (9, [12, 0], [1]), (9, [7, 0], [7]), (9, [8, 0], [8]), (9, [10, 0], [16]), (9, [15, 0], [17]), (20, [10, 11], [61, 1, 762]), (20, [0], [60, 2, 3, 670, 0, 1, 14, 7, 8]), (20, [0], [60, 2, 2, 596, 0, 1, 7, 8]), (101, [0, 16], [18]), (20, [10, 11], [61, 1, 762]), (20, [0], [60, 2, 3, 670, 0, 1, 14, 7, 8]), (20, [0], [60, 2, 2, 596, 0, 1, 7, 8]), (101, [0, 15], [17]), (1, [15, 11, 14], []), (9, [11, 0], [17]), (7, [11, 13], [1]), (20, [10, 11], [61, 1, 762]), (20, [0], [50, 2, 0, 17, 18, 0, 8, 4, 3, 2, 0, 17, 2, 0, 18, 0, 30]), (20, [0], [60, 2, 3, 670, 0, 1, 14, 7, 8]), (20, [0], [60, 2, 2, 596, 0, 1, 7, 8]), (102, [11], [381944245562716141175333566576758405197150323812363046994276334253946495506784008380874752, 3000, 3001]), (102, [11], [2305843009213693952]), (101, [0, 10], [16])], [], [], [(20, [0, 15], [60, 0, 1, 737, 16])], [], [(15, 11, 1, 1)])
theorem oo_Gr_alter_at_kx_12 {kA : Nat → ClassId} : or_ok PRD kA GG o_Gr_alter_at_kx_12 := by
  refine or_mk fun A ta ws vs hD hth hl => ?_
  intro t0 r0 t5 k5 t7 r7 t8 r8 t10 r10 t11 k11 t12 k12 t13 k13 t14 k14 t15 k15 t16 k16 d0 f0 f1 f2 f3 f4 f5 f6 f7 f8 f9 ta1 w1 le1 s1 f11 f12 f13 ta2 w2 le2 s2 f15 f16 f17 f18 f19 f20 f21 ta3 w3 le3 s3 ta4 w4 le4 s4 ta5 w5 le5 s5
  replace f5 := shm_188 f5
  have s1 : (∀ b j, w_el ws b j = w_el w1 b j) ∧ ∀ b j, w_fd ws b j = if b = v_ad (n_v vs 0) ∧ j = 18 then n_v vs 16 else w_fd w1 b j := s1.2
  have s2 : (∀ b j, w_el w1 b j = w_el w2 b j) ∧ ∀ b j, w_fd w1 b j = if b = v_ad (n_v vs 0) ∧ j = 17 then n_v vs 15 else w_fd w2 b j := s2.2
  replace f18 := shm_1743 f18
  have ar_0_7_1 : w_ar w1 (n_v vs 0) 7 = w_ar ws (n_v vs 0) 7 := by show v_ad (w_fd w1 _ _) = v_ad (w_fd ws _ _); rw [s1.2, if_neg (fun e => absurd e.2 (by decide))]
  have ar_0_7_2 : w_ar w2 (n_v vs 0) 7 = w_ar ws (n_v vs 0) 7 := by rw [← ar_0_7_1]; show v_ad (w_fd w2 _ _) = v_ad (w_fd w1 _ _); rw [s2.2, if_neg (fun e => absurd e.2 (by decide))]
  have ar_0_8_1 : w_ar w1 (n_v vs 0) 8 = w_ar ws (n_v vs 0) 8 := by show v_ad (w_fd w1 _ _) = v_ad (w_fd ws _ _); rw [s1.2, if_neg (fun e => absurd e.2 (by decide))]
  have ar_0_8_2 : w_ar w2 (n_v vs 0) 8 = w_ar ws (n_v vs 0) 8 := by rw [← ar_0_8_1]; show v_ad (w_fd w2 _ _) = v_ad (w_fd w1 _ _); rw [s2.2, if_neg (fun e => absurd e.2 (by decide))]
  have ar_0_14_1 : w_ar w1 (n_v vs 0) 14 = w_ar ws (n_v vs 0) 14 := by show v_ad (w_fd w1 _ _) = v_ad (w_fd ws _ _); rw [s1.2, if_neg (fun e => absurd e.2 (by decide))]
  have ar_0_14_2 : w_ar w2 (n_v vs 0) 14 = w_ar ws (n_v vs 0) 14 := by rw [← ar_0_14_1]; show v_ad (w_fd w2 _ _) = v_ad (w_fd w1 _ _); rw [s2.2, if_neg (fun e => absurd e.2 (by decide))]
  have ad_10 : v_ad (n_v vs 10) = w_ar ws (n_v vs 0) 16 := congrArg v_ad f5
  simp only [ad_10, ar_0_7_2, ar_0_8_2, ar_0_14_2] at f18
  have fe_0_0_1 : w_fi ws (n_v vs 0) 0 = w_fi w1 (n_v vs 0) 0 := by show v_iv (w_fd _ _ _) = v_iv (w_fd _ _ _); rw [s1.2, if_neg (fun e => absurd e.2 (by decide))]
  have fe_0_1_1 : w_fi ws (n_v vs 0) 1 = w_fi w1 (n_v vs 0) 1 := by show v_iv (w_fd _ _ _) = v_iv (w_fd _ _ _); rw [s1.2, if_neg (fun e => absurd e.2 (by decide))]
  have fe_0_17_1 : w_fi ws (n_v vs 0) 17 = w_fi w1 (n_v vs 0) 17 := by show v_iv (w_fd _ _ _) = v_iv (w_fd _ _ _); rw [s1.2, if_neg (fun e => absurd e.2 (by decide))]
  have fe_0_0_2 : w_fi w1 (n_v vs 0) 0 = w_fi w2 (n_v vs 0) 0 := by show v_iv (w_fd _ _ _) = v_iv (w_fd _ _ _); rw [s2.2, if_neg (fun e => absurd e.2 (by decide))]
  have fe_0_1_2 : w_fi w1 (n_v vs 0) 1 = w_fi w2 (n_v vs 0) 1 := by show v_iv (w_fd _ _ _) = v_iv (w_fd _ _ _); rw [s2.2, if_neg (fun e => absurd e.2 (by decide))]
  have fe_0_18_2 : w_fi w1 (n_v vs 0) 18 = w_fi w2 (n_v vs 0) 18 := by show v_iv (w_fd _ _ _) = v_iv (w_fd _ _ _); rw [s2.2, if_neg (fun e => absurd e.2 (by decide))]
  have hE_0_7_1 : ∀ j : Int, w_ei ws (w_ar ws (n_v vs 0) 7) j = w_ei w1 (w_ar ws (n_v vs 0) 7) j := fun j => s1.1 _ _
  have hE_0_7_2 : ∀ j : Int, w_ei w1 (w_ar ws (n_v vs 0) 7) j = w_ei w2 (w_ar ws (n_v vs 0) 7) j := fun j => s2.1 _ _
  have hE_0_8_1 : ∀ j : Int, w_ei ws (w_ar ws (n_v vs 0) 8) j = w_ei w1 (w_ar ws (n_v vs 0) 8) j := fun j => s1.1 _ _
  have hE_0_8_2 : ∀ j : Int, w_ei w1 (w_ar ws (n_v vs 0) 8) j = w_ei w2 (w_ar ws (n_v vs 0) 8) j := fun j => s2.1 _ _
  have hE_0_14_1 : ∀ j : Int, w_ei ws (w_ar ws (n_v vs 0) 14) j = w_ei w1 (w_ar ws (n_v vs 0) 14) j := fun j => s1.1 _ _
  have hE_0_14_2 : ∀ j : Int, w_ei w1 (w_ar ws (n_v vs 0) 14) j = w_ei w2 (w_ar ws (n_v vs 0) 14) j := fun j => s2.1 _ _
  have hE_0_16_1 : ∀ j : Int, w_ei ws (w_ar ws (n_v vs 0) 16) j = w_ei w1 (w_ar ws (n_v vs 0) 16) j := fun j => s1.1 _ _
  have hE_0_16_2 : ∀ j : Int, w_ei w1 (w_ar ws (n_v vs 0) 16) j = w_ei w2 (w_ar ws (n_v vs 0) 16) j := fun j => s2.1 _ _
  have kz_0_0 := fdq_23 hD hth r0
  have kz_0_1 := fdq_38 hD hth r0
  have kz_0_17 := fdq_282 hD hth r0
  have nf0 : fc_1 PRD (20, [0, 15], [60, 0, 1, 737, 16]) ws (vs) := ⟨nf_in hl rfl, sgq_821 (vc_Gr_alter_at_kx_12_0 (v_iv (n_v vs 11)) (v_iv (n_v vs 15)) (w_fi ws (n_v vs 0) 0) (w_fi ws (n_v vs 0) 1) (w_fi ws (n_v vs 0) 17) (w_ei ws (w_ar ws (n_v vs 0) 16)) (w_ei ws (w_ar ws (n_v vs 0) 14)) (w_ei ws (w_ar ws (n_v vs 0) 7)) (w_ei ws (w_ar ws (n_v vs 0) 8)) (w_ei w1 (w_ar ws (n_v vs 0) 16)) (w_ei w1 (w_ar ws (n_v vs 0) 14)) (w_ei w1 (w_ar ws (n_v vs 0) 7)) (w_ei w1 (w_ar ws (n_v vs 0) 8)) (w_fi w1 (n_v vs 0) 0) (w_fi w1 (n_v vs 0) 1) (w_ei w2 (w_ar ws (n_v vs 0) 16)) (w_fi w2 (n_v vs 0) 18) (w_ei w2 (w_ar ws (n_v vs 0) 14)) (w_ei w2 (w_ar ws (n_v vs 0) 7)) (w_ei w2 (w_ar ws (n_v vs 0) 8)) (w_fi w2 (n_v vs 0) 0) (w_fi w2 (n_v vs 0) 1) (w_fi w1 (n_v vs 0) 17) (w_fi w1 (n_v vs 0) 18) k11 k15 d0 f18 fe_0_0_1 fe_0_1_1 fe_0_17_1 fe_0_0_2 fe_0_1_2 fe_0_18_2 hE_0_7_1 hE_0_7_2 hE_0_8_1 hE_0_8_2 hE_0_14_1 hE_0_14_2 hE_0_16_1 hE_0_16_2 kz_0_0 kz_0_1 kz_0_17)⟩
  refine ⟨(fun _ h => (by cases h)), [], trivial, ?_, (fun _ h => (by cases h))⟩
  rw [List.append_nil]
  exact List.forall_mem_cons.mpr ⟨⟨show (20 : Nat) < 100 from by decide, nf0⟩, (fun _ h => (by cases h))⟩
set_option maxHeartbeats 4000000 in
theorem vc_Gr_alter_at_kx_13_0 (x15 : Int) (x16 : Int) (undone_0 : Int) (done_0 : Int) (k15 : 1 ≤ x15 ∧ x15 ≤ 30) (k16 : 0 ≤ x16 ∧ x16 ≤ 0) (g0 : x16 = undone_0) (g1 : x15 = done_0) (kz_0_17 : 0 ≤ done_0 ∧ done_0 ≤ 30) (kz_0_18 : 0 ≤ undone_0 ∧ undone_0 ≤ 30) : (done_0 + undone_0) ≤ 30 := by
  first
    | omega
  
set_option maxHeartbeats 4000000 in
theorem vc_Gr_alter_at_kx_13_1 (x15 : Int) (x16 : Int) (undone_0 : Int) (done_0 : Int) (past_0 : Int → Int) (k15 : 1 ≤ x15 ∧ x15 ≤ 30) (k16 : 0 ≤ x16 ∧ x16 ≤ 0) (g0 : x16 = undone_0) (g1 : x15 = done_0) (f8 : PRI (past_0) (x15)) (kz_0_17 : 0 ≤ done_0 ∧ done_0 ≤ 30) (kz_0_18 : 0 ≤ undone_0 ∧ undone_0 ≤ 30) : PDQ (done_0) (undone_0) (past_0) := by
  first
    | assumption
    | exact pri_pdq ‹PRI _ _› (by omega) (by omega)
  
def o_Gr_alter_at_kx_13 : or_T := (87, 17, [(0, (2, 0, 0, [3])), (5, (0, 0, 24, [])), (7, (2, 0, 0, [52])), (8, (2, 0, 0, [53])), (10, (2, 0, 0, [61])), (11, (0, 0, 29, [])), (12, (0, 1, 48, [])), (13, (0, 30, 30, [])), (14, (0, 1, 1, [])), (15, (0, 1, 30, [])), (16, (0, 0, 0, []))], [(9, [16, 0], [18]), (9, [15, 0], [17]), (9, [5, 0], [0]), (9, [12, 0], [1]), (9, [7, 0], [7]), (9, [8, 0], [8]), (9, [10, 0], [16]), (20, [0], [60, 2, 3, 670, 0, 1, 14, 7, 8]), (20, [0, 15], [60, 0, 1, 738, 16]), (20, [0], [60, 2, 2, 596, 0, 1, 7, 8]), (102, [16], [2305843009213693952]), (101, [0, 16], [18]), (101, [0, 15], [17]), (1, [15, 11, 14], []), (7, [11, 13], [1]), (102, [11], [381944245562716141175333566576758405197150323812363046994276334253946495506784008380874752, 3000, 3001]), (102, [11], [2305843009213693952]), (101, [0, 10], [16])], [], [], [(20, [0], [50, 2, 0, 17, 18, 0, 8, 4, 3, 2, 0, 17, 2, 0, 18, 0, 30]), (20, [0], [60, 2, 1, 739, 17, 18, 16])], [], [(15, 11, 1, 1)])
theorem oo_Gr_alter_at_kx_13 {kA : Nat → ClassId} : or_ok PRD kA GG o_Gr_alter_at_kx_13 := by
  refine or_mk fun A ta ws vs hD hth hl => ?_
  intro t0 r0 t5 k5 t7 r7 t8 r8 t10 r10 t11 k11 t12 k12 t13 k13 t14 k14 t15 k15 t16 k16 d0 f0 f1 f2 f3 f4 f5 f6 f7 f8 f9 ta1 w1 le1 s1 ta2 w2 le2 s2 ta3 w3 le3 s3 f13 f14 ta4 w4 le4 s4 ta5 w5 le5 s5 ta6 w6 le6 s6
  replace f0 := shm_785 f0
  replace f1 := shm_781 f1
  have g0 : v_iv (n_v vs 16) = w_fi ws (n_v vs 0) 18 := congrArg v_iv f0
  have g1 : v_iv (n_v vs 15) = w_fi ws (n_v vs 0) 17 := congrArg v_iv f1
  have kz_0_17 := fdq_282 hD hth r0
  have kz_0_18 := fdq_283 hD hth r0
  have nf0 : fc_1 PRD (20, [0], [50, 2, 0, 17, 18, 0, 8, 4, 3, 2, 0, 17, 2, 0, 18, 0, 30]) ws (vs) := ⟨nf_in hl rfl, sgq_1462 (vc_Gr_alter_at_kx_13_0 (v_iv (n_v vs 15)) (v_iv (n_v vs 16)) (w_fi ws (n_v vs 0) 18) (w_fi ws (n_v vs 0) 17) k15 k16 g0 g1 kz_0_17 kz_0_18)⟩
  have nf1 : fc_1 PRD (20, [0], [60, 2, 1, 739, 17, 18, 16]) ws (vs) := ⟨nf_in hl rfl, sgq_1327 (vc_Gr_alter_at_kx_13_1 (v_iv (n_v vs 15)) (v_iv (n_v vs 16)) (w_fi ws (n_v vs 0) 18) (w_fi ws (n_v vs 0) 17) (w_ei ws (w_ar ws (n_v vs 0) 16)) k15 k16 g0 g1 (shm_826 f8) kz_0_17 kz_0_18)⟩
  refine ⟨(fun _ h => (by cases h)), [], trivial, ?_, (fun _ h => (by cases h))⟩
  rw [List.append_nil]
  exact List.forall_mem_cons.mpr ⟨⟨show (20 : Nat) < 100 from by decide, nf0⟩, List.forall_mem_cons.mpr ⟨⟨show (20 : Nat) < 100 from by decide, nf1⟩, (fun _ h => (by cases h))⟩⟩
set_option maxHeartbeats 4000000 in
theorem vc_Gr_alter_at_kx_14_0 (x14 : Int) (x16 : Int) (k14 : 122 ≤ x14 ∧ x14 ≤ 122) (k16 : 3660 ≤ x16 ∧ x16 ≤ 3660) : x14 + x16 ≤ 3782 := by
  first
    | omega
  
set_option maxHeartbeats 4000000 in
theorem vc_Gr_alter_at_kx_14_1 (x15 : Int) (x16 : Int) (k15 : 0 ≤ x15 ∧ x15 ≤ 0) (k16 : 3660 ≤ x16 ∧ x16 ≤ 3660) : x15 + x16 ≤ 3782 := by
  first
    | omega
  
set_option maxHeartbeats 4000000 in
theorem vc_Gr_alter_at_kx_14_2 (x11 : Int) (x14 : Int) (x15 : Int) (x16 : Int) (a10_0 : Int → Int) (k11 : 30 ≤ x11 ∧ x11 ≤ 30) (k14 : 122 ≤ x14 ∧ x14 ≤ 122) (k15 : 0 ≤ x15 ∧ x15 ≤ 0) (k16 : 3660 ≤ x16 ∧ x16 ≤ 3660) (f6 : PNI (a10_0) (x11)) : MV1 (a10_0) (a10_0) (x14) (x15) (x16) := by
  first
    | exact ⟨by omega, by omega, by omega, fun r a b => (‹PNI _ _›) r a (by omega)⟩
  
def o_Gr_alter_at_kx_14 : or_T := (56, 17, [(0, (2, 0, 0, [3])), (5, (0, 0, 24, [])), (7, (2, 0, 0, [52])), (8, (2, 0, 0, [53])), (10, (2, 0, 0, [61])), (11, (0, 30, 30, [])), (12, (0, 1, 48, [])), (13, (0, 30, 30, [])), (14, (0, 122, 122, [])), (15, (0, 0, 0, [])), (16, (0, 3660, 3660, []))], [(9, [5, 0], [0]), (9, [12, 0], [1]), (9, [7, 0], [7]), (9, [8, 0], [8]), (7, [11, 13], [0]), (9, [11, 0], [17]), (20, [10, 11], [61, 1, 762]), (20, [0], [50, 2, 0, 17, 18, 0, 8, 4, 3, 2, 0, 17, 2, 0, 18, 0, 30]), (20, [0], [60, 2, 3, 670, 0, 1, 14, 7, 8]), (20, [0], [60, 2, 2, 596, 0, 1, 7, 8])], [], [], [(21, [14, 16], [3782]), (21, [15, 16], [3782]), (20, [10, 10, 14, 15, 16], [61, 2, 763])], [], [])
theorem oo_Gr_alter_at_kx_14 {kA : Nat → ClassId} : or_ok PRD kA GG o_Gr_alter_at_kx_14 := by
  refine or_mk fun A ta ws vs hD hth hl => ?_
  intro t0 r0 t5 k5 t7 r7 t8 r8 t10 r10 t11 k11 t12 k12 t13 k13 t14 k14 t15 k15 t16 k16 f0 f1 f2 f3 f4 f5 f6 f7 f8 f9
  have nf0 : fc_1 PRD (21, [14, 16], [3782]) ws (vs) := ⟨nf_in hl rfl, sgq_1744 (vc_Gr_alter_at_kx_14_0 (v_iv (n_v vs 14)) (v_iv (n_v vs 16)) k14 k16)⟩
  have nf1 : fc_1 PRD (21, [15, 16], [3782]) ws (vs) := ⟨nf_in hl rfl, sgq_1744 (vc_Gr_alter_at_kx_14_1 (v_iv (n_v vs 15)) (v_iv (n_v vs 16)) k15 k16)⟩
  have nf2 : fc_1 PRD (20, [10, 10, 14, 15, 16], [61, 2, 763]) ws (vs) := ⟨nf_in hl rfl, sgq_1745 (vc_Gr_alter_at_kx_14_2 (v_iv (n_v vs 11)) (v_iv (n_v vs 14)) (v_iv (n_v vs 15)) (v_iv (n_v vs 16)) (w_ei ws (v_ad (n_v vs 10))) k11 k14 k15 k16 (shm_1743 f6))⟩
  refine ⟨(fun _ h => (by cases h)), [], trivial, ?_, (fun _ h => (by cases h))⟩
  rw [List.append_nil]
  exact List.forall_mem_cons.mpr ⟨⟨show (21 : Nat) < 100 from by decide, nf0⟩, List.forall_mem_cons.mpr ⟨⟨show (21 : Nat) < 100 from by decide, nf1⟩, List.forall_mem_cons.mpr ⟨⟨show (20 : Nat) < 100 from by decide, nf2⟩, (fun _ h => (by cases h))⟩⟩⟩
set_option maxHeartbeats 4000000 in
theorem vc_Gr_alter_at_kx_15_0 (x11 : Int) (x14 : Int) (x15 : Int) (x16 : Int) (nodes_0 : Int) (edges_0 : Int) (done_0 : Int) (near_0 : Int → Int) (tail_0 : Int → Int) (head_0 : Int → Int) (past_0 : Int → Int) (done_1 : Int) (near_1 : Int → Int) (tail_1 : Int → Int) (head_1 : Int → Int) (nodes_1 : Int) (edges_1 : Int) (past_1 : Int → Int) (k11 : 30 ≤ x11 ∧ x11 ≤ 30) (k14 : 122 ≤ x14 ∧ x14 ≤ 122) (k15 : 0 ≤ x15 ∧ x15 ≤ 0) (k16 : 3660 ≤ x16 ∧ x16 ≤ 3660) (f18 : MV2 (past_1) (past_1) (x14) (x15) (x16)) (fe_0_0_1 : nodes_0 = nodes_1) (fe_0_1_1 : edges_0 = edges_1) (fe_0_17_1 : done_0 = done_1) (hE_0_7_1 : ∀ j : Int, tail_0 j = tail_1 j) (hE_0_8_1 : ∀ j : Int, head_0 j = head_1 j) (hE_0_14_1 : ∀ j : Int, near_0 j = near_1 j) (hE_0_16_1 : ∀ j : Int, past_0 j = past_1 j) (kz_0_0 : 0 ≤ nodes_0 ∧ nodes_0 ≤ 24) (kz_0_1 : 0 ≤ edges_0 ∧ edges_0 ≤ 48) (kz_0_17 : 0 ≤ done_0 ∧ done_0 ≤ 30) : PRO (past_0) (x11) := by
  subst fe_0_0_1
  subst fe_0_1_1
  subst fe_0_17_1
  have e_hE_0_7_1 := funext hE_0_7_1; subst e_hE_0_7_1
  have e_hE_0_8_1 := funext hE_0_8_1; subst e_hE_0_8_1
  have e_hE_0_14_1 := funext hE_0_14_1; subst e_hE_0_14_1
  have e_hE_0_16_1 := funext hE_0_16_1; subst e_hE_0_16_1
  first
    | exact pro_pdq ‹PDQ _ _ _› (by omega) (by omega)
    | exact pri_pro ‹PNI _ _› (by omega)
    | (have q := (‹MV2 _ _ _ _ _›); exact fun r a b => q r a (by omega))
    | exact pro_zero (by omega) (fun j a b => by have q := hT10 j a (by omega); omega)
  
def o_Gr_alter_at_kx_15 : or_T := (82, 18, [(0, (2, 0, 0, [3])), (5, (0, 0, 24, [])), (7, (2, 0, 0, [52])), (8, (2, 0, 0, [53])), (10, (2, 0, 0, [61])), (11, (0, 30, 30, [])), (12, (0, 1, 48, [])), (13, (0, 30, 30, [])), (14, (0, 122, 122, [])), (15, (0, 0, 0, [])), (16, (0, 3660, 3660, [])), (17, (0, 0, 0, []))], [(9, [17, 0], [18]), (9, [5, 0], [0]), (9, [12, 0], [1]), (9, [7, 0], [7]), (9, [8, 0], [8]), (9, [10, 0], [16]), (9, [11, 0], [17]), (21, [14, 16], [3782]), (21, [15, 16], [3782]), (20, [0], [60, 2, 3, 670, 0, 1, 14, 7, 8]), (20, [0], [60, 2, 2, 596, 0, 1, 7, 8]), (20, [10, 10, 14, 15, 16], [61, 2, 764]), (101, [0, 17], [18]), (21, [14, 16], [3782]), (21, [15, 16], [3782]), (20, [0], [50, 2, 0, 17, 18, 0, 8, 4, 3, 2, 0, 17, 2, 0, 18, 0, 30]), (20, [0], [60, 2, 3, 670, 0, 1, 14, 7, 8]), (20, [0], [60, 2, 2, 596, 0, 1, 7, 8]), (20, [10, 10, 14, 15, 16], [61, 2, 764]), (102, [16], [2305843009213693952]), (21, [14, 16], [3782]), (21, [15, 16], [3782]), (7, [11, 13], [0]), (102, [11], [381944245562716141175333566576758405197150323812363046994276334253946495506784008380874752, 3000, 3001]), (102, [11], [2305843009213693952]), (101, [0, 10], [16])], [], [], [(20, [0, 11], [60, 0, 1, 737, 16])], [], [])
theorem oo_Gr_alter_at_kx_15 {kA : Nat → ClassId} : or_ok PRD kA GG o_Gr_alter_at_kx_15 := by
  refine or_mk fun A ta ws vs hD hth hl => ?_
  intro t0 r0 t5 k5 t7 r7 t8 r8 t10 r10 t11 k11 t12 k12 t13 k13 t14 k14 t15 k15 t16 k16 t17 k17 f0 f1 f2 f3 f4 f5 f6 f7 f8 f9 f10 f11 ta1 w1 le1 s1 f13 f14 f15 f16 f17 f18 ta2 w2 le2 s2 f20 f21 f22 ta3 w3 le3 s3 ta4 w4 le4 s4 ta5 w5 le5 s5
  replace f5 := shm_188 f5
  have s1 : (∀ b j, w_el ws b j = w_el w1 b j) ∧ ∀ b j, w_fd ws b j = if b = v_ad (n_v vs 0) ∧ j = 18 then n_v vs 17 else w_fd w1 b j := s1.2
  replace f18 := shm_1746 f18
  have ar_0_7_1 : w_ar w1 (n_v vs 0) 7 = w_ar ws (n_v vs 0) 7 := by show v_ad (w_fd w1 _ _) = v_ad (w_fd ws _ _); rw [s1.2, if_neg (fun e => absurd e.2 (by decide))]
  have ar_0_8_1 : w_ar w1 (n_v vs 0) 8 = w_ar ws (n_v vs 0) 8 := by show v_ad (w_fd w1 _ _) = v_ad (w_fd ws _ _); rw [s1.2, if_neg (fun e => absurd e.2 (by decide))]
  have ar_0_14_1 : w_ar w1 (n_v vs 0) 14 = w_ar ws (n_v vs 0) 14 := by show v_ad (w_fd w1 _ _) = v_ad (w_fd ws _ _); rw [s1.2, if_neg (fun e => absurd e.2 (by decide))]
  have ad_10 : v_ad (n_v vs 10) = w_ar ws (n_v vs 0) 16 := congrArg v_ad f5
  simp only [ad_10, ar_0_7_1, ar_0_8_1, ar_0_14_1] at f18
  have fe_0_0_1 : w_fi ws (n_v vs 0) 0 = w_fi w1 (n_v vs 0) 0 := by show v_iv (w_fd _ _ _) = v_iv (w_fd _ _ _); rw [s1.2, if_neg (fun e => absurd e.2 (by decide))]
  have fe_0_1_1 : w_fi ws (n_v vs 0) 1 = w_fi w1 (n_v vs 0) 1 := by show v_iv (w_fd _ _ _) = v_iv (w_fd _ _ _); rw [s1.2, if_neg (fun e => absurd e.2 (by decide))]
  have fe_0_17_1 : w_fi ws (n_v vs 0) 17 = w_fi w1 (n_v vs 0) 17 := by show v_iv (w_fd _ _ _) = v_iv (w_fd _ _ _); rw [s1.2, if_neg (fun e => absurd e.2 (by decide))]
  have hE_0_7_1 : ∀ j : Int, w_ei ws (w_ar ws (n_v vs 0) 7) j = w_ei w1 (w_ar ws (n_v vs 0) 7) j := fun j => s1.1 _ _
  have hE_0_8_1 : ∀ j : Int, w_ei ws (w_ar ws (n_v vs 0) 8) j = w_ei w1 (w_ar ws (n_v vs 0) 8) j := fun j => s1.1 _ _
  have hE_0_14_1 : ∀ j : Int, w_ei ws (w_ar ws (n_v vs 0) 14) j = w_ei w1 (w_ar ws (n_v vs 0) 14) j := fun j => s1.1 _ _
  have hE_0_16_1 : ∀ j : Int, w_ei ws (w_ar ws (n_v vs 0) 16) j = w_ei w1 (w_ar ws (n_v vs 0) 16) j := fun j => s1.1 _ _
  have kz_0_0 := fdq_23 hD hth r0
  have kz_0_1 := fdq_38 hD hth r0
  have kz_0_17 := fdq_282 hD hth r0
  have nf0 : fc_1 PRD (20, [0, 11], [60, 0, 1, 737, 16]) ws (vs) := ⟨nf_in hl rfl, sgq_821 (vc_Gr_alter_at_kx_15_0 (v_iv (n_v vs 11)) (v_iv (n_v vs 14)) (v_iv (n_v vs 15)) (v_iv (n_v vs 16)) (w_fi ws (n_v vs 0) 0) (w_fi ws (n_v vs 0) 1) (w_fi ws (n_v vs 0) 17) (w_ei ws (w_ar ws (n_v vs 0) 14)) (w_ei ws (w_ar ws (n_v vs 0) 7)) (w_ei ws (w_ar ws (n_v vs 0) 8)) (w_ei ws (w_ar ws (n_v vs 0) 16)) (w_fi w1 (n_v vs 0) 17) (w_ei w1 (w_ar ws (n_v vs 0) 14)) (w_ei w1 (w_ar ws (n_v vs 0) 7)) (w_ei w1 (w_ar ws (n_v vs 0) 8)) (w_fi w1 (n_v vs 0) 0) (w_fi w1 (n_v vs 0) 1) (w_ei w1 (w_ar ws (n_v vs 0) 16)) k11 k14 k15 k16 f18 fe_0_0_1 fe_0_1_1 fe_0_17_1 hE_0_7_1 hE_0_8_1 hE_0_14_1 hE_0_16_1 kz_0_0 kz_0_1 kz_0_17)⟩
  refine ⟨(fun _ h => (by cases h)), [], trivial, ?_, (fun _ h => (by cases h))⟩
  rw [List.append_nil]
  exact List.forall_mem_cons.mpr ⟨⟨show (20 : Nat) < 100 from by decide, nf0⟩, (fun _ h => (by cases h))⟩
set_option maxHeartbeats 4000000 in
theorem vc_Gr_alter_at_kx_16_0 (x11 : Int) (x17 : Int) (undone_0 : Int) (done_0 : Int) (k11 : 30 ≤ x11 ∧ x11 ≤ 30) (k17 : 0 ≤ x17 ∧ x17 ≤ 0) (g0 : x17 = undone_0) (g5 : x11 = done_0) (kz_0_17 : 0 ≤ done_0 ∧ done_0 ≤ 30) (kz_0_18 : 0 ≤ undone_0 ∧ undone_0 ≤ 30) : (done_0 + undone_0) ≤ 30 := by
  first
    | omega
  
set_option maxHeartbeats 4000000 in
theorem vc_Gr_alter_at_kx_16_1 (x11 : Int) (x17 : Int) (undone_0 : Int) (done_0 : Int) (past_0 : Int → Int) (k11 : 30 ≤ x11 ∧ x11 ≤ 30) (k17 : 0 ≤ x17 ∧ x17 ≤ 0) (g0 : x17 = undone_0) (g5 : x11 = done_0) (f8 : PRI (past_0) (x11)) (kz_0_17 : 0 ≤ done_0 ∧ done_0 ≤ 30) (kz_0_18 : 0 ≤ undone_0 ∧ undone_0 ≤ 30) : PDQ (done_0) (undone_0) (past_0) := by
  first
    | assumption
    | exact pri_pdq ‹PRI _ _› (by omega) (by omega)
  
def o_Gr_alter_at_kx_16 : or_T := (87, 18, [(0, (2, 0, 0, [3])), (5, (0, 0, 24, [])), (7, (2, 0, 0, [52])), (8, (2, 0, 0, [53])), (10, (2, 0, 0, [61])), (11, (0, 30, 30, [])), (12, (0, 1, 48, [])), (13, (0, 30, 30, [])), (17, (0, 0, 0, []))], [(9, [17, 0], [18]), (9, [5, 0], [0]), (9, [12, 0], [1]), (9, [7, 0], [7]), (9, [8, 0], [8]), (9, [11, 0], [17]), (9, [10, 0], [16]), (20, [0], [60, 2, 3, 670, 0, 1, 14, 7, 8]), (20, [0, 11], [60, 0, 1, 738, 16]), (20, [0], [60, 2, 2, 596, 0, 1, 7, 8]), (102, [17], [2305843009213693952]), (101, [0, 17], [18]), (102, [16], [2305843009213693952]), (7, [11, 13], [0]), (102, [11], [381944245562716141175333566576758405197150323812363046994276334253946495506784008380874752, 3000, 3001]), (102, [11], [2305843009213693952]), (101, [0, 10], [16])], [], [], [(20, [0], [50, 2, 0, 17, 18, 0, 8, 4, 3, 2, 0, 17, 2, 0, 18, 0, 30]), (20, [0], [60, 2, 1, 739, 17, 18, 16])], [], [])
theorem oo_Gr_alter_at_kx_16 {kA : Nat → ClassId} : or_ok PRD kA GG o_Gr_alter_at_kx_16 := by
  refine or_mk fun A ta ws vs hD hth hl => ?_
  intro t0 r0 t5 k5 t7 r7 t8 r8 t10 r10 t11 k11 t12 k12 t13 k13 t17 k17 f0 f1 f2 f3 f4 f5 f6 f7 f8 f9 ta1 w1 le1 s1 ta2 w2 le2 s2 ta3 w3 le3 s3 f13 ta4 w4 le4 s4 ta5 w5 le5 s5 ta6 w6 le6 s6
  replace f0 := shm_785 f0
  replace f5 := shm_781 f5
  have g0 : v_iv (n_v vs 17) = w_fi ws (n_v vs 0) 18 := congrArg v_iv f0
  have g5 : v_iv (n_v vs 11) = w_fi ws (n_v vs 0) 17 := congrArg v_iv f5
  have kz_0_17 := fdq_282 hD hth r0
  have kz_0_18 := fdq_283 hD hth r0
  have nf0 : fc_1 PRD (20, [0], [50, 2, 0, 17, 18, 0, 8, 4, 3, 2, 0, 17, 2, 0, 18, 0, 30]) ws (vs) := ⟨nf_in hl rfl, sgq_1462 (vc_Gr_alter_at_kx_16_0 (v_iv (n_v vs 11)) (v_iv (n_v vs 17)) (w_fi ws (n_v vs 0) 18) (w_fi ws (n_v vs 0) 17) k11 k17 g0 g5 kz_0_17 kz_0_18)⟩
  have nf1 : fc_1 PRD (20, [0], [60, 2, 1, 739, 17, 18, 16]) ws (vs) := ⟨nf_in hl rfl, sgq_1327 (vc_Gr_alter_at_kx_16_1 (v_iv (n_v vs 11)) (v_iv (n_v vs 17)) (w_fi ws (n_v vs 0) 18) (w_fi ws (n_v vs 0) 17) (w_ei ws (w_ar ws (n_v vs 0) 16)) k11 k17 g0 g5 (shm_826 f8) kz_0_17 kz_0_18)⟩
  refine ⟨(fun _ h => (by cases h)), [], trivial, ?_, (fun _ h => (by cases h))⟩
  rw [List.append_nil]
  exact List.forall_mem_cons.mpr ⟨⟨show (20 : Nat) < 100 from by decide, nf0⟩, List.forall_mem_cons.mpr ⟨⟨show (20 : Nat) < 100 from by decide, nf1⟩, (fun _ h => (by cases h))⟩⟩
set_option maxHeartbeats 4000000 in
theorem vc_Gr_alter_at_kx_17_0 (x11 : Int) (x16 : Int) (nodes_0 : Int) (edges_0 : Int) (done_0 : Int) (past_0 : Int → Int) (near_0 : Int → Int) (tail_0 : Int → Int) (head_0 : Int → Int) (past_1 : Int → Int) (near_1 : Int → Int) (tail_1 : Int → Int) (head_1 : Int → Int) (nodes_1 : Int) (edges_1 : Int) (past_2 : Int → Int) (undone_2 : Int) (near_2 : Int → Int) (tail_2 : Int → Int) (head_2 : Int → Int) (nodes_2 : Int) (edges_2 : Int) (done_1 : Int) (undone_1 : Int) (k11 : 0 ≤ x11 ∧ x11 ≤ 29) (k16 : 1 ≤ x16 ∧ x16 ≤ 30) (d0 : x11 + 1 ≤ x16 ∧ x16 ≤ x11 + 1) (f18 : PNI (past_2) (x11)) (fe_0_0_1 : nodes_0 = nodes_1) (fe_0_1_1 : edges_0 = edges_1) (fe_0_17_1 : done_0 = done_1) (fe_0_0_2 : nodes_1 = nodes_2) (fe_0_1_2 : edges_1 = edges_2) (fe_0_18_2 : undone_1 = undone_2) (hE_0_7_1 : ∀ j : Int, tail_0 j = tail_1 j) (hE_0_7_2 : ∀ j : Int, tail_1 j = tail_2 j) (hE_0_8_1 : ∀ j : Int, head_0 j = head_1 j) (hE_0_8_2 : ∀ j : Int, head_1 j = head_2 j) (hE_0_14_1 : ∀ j : Int, near_0 j = near_1 j) (hE_0_14_2 : ∀ j : Int, near_1 j = near_2 j) (hE_0_16_1 : ∀ j : Int, past_0 j = past_1 j) (hE_0_16_2 : ∀ j : Int, past_1 j = past_2 j) (kz_0_0 : 0 ≤ nodes_0 ∧ nodes_0 ≤ 24) (kz_0_1 : 0 ≤ edges_0 ∧ edges_0 ≤ 48) (kz_0_17 : 0 ≤ done_0 ∧ done_0 ≤ 30) : PRO (past_0) (x16) := by
  subst fe_0_0_1
  subst fe_0_1_1
  subst fe_0_17_1
  subst fe_0_0_2
  subst fe_0_1_2
  subst fe_0_18_2
  have e_hE_0_7_1 := funext hE_0_7_1; subst e_hE_0_7_1
  have e_hE_0_7_2 := funext hE_0_7_2; subst e_hE_0_7_2
  have e_hE_0_8_1 := funext hE_0_8_1; subst e_hE_0_8_1
  have e_hE_0_8_2 := funext hE_0_8_2; subst e_hE_0_8_2
  have e_hE_0_14_1 := funext hE_0_14_1; subst e_hE_0_14_1
  have e_hE_0_14_2 := funext hE_0_14_2; subst e_hE_0_14_2
  have e_hE_0_16_1 := funext hE_0_16_1; subst e_hE_0_16_1
  have e_hE_0_16_2 := funext hE_0_16_2; subst e_hE_0_16_2
  first
    | exact pro_pdq ‹PDQ _ _ _› (by omega) (by omega)
    | exact pri_pro ‹PNI _ _› (by omega)
    | (have q := (‹MV2 _ _ _ _ _›); exact fun r a b => q r a (by omega))
    | exact pro_zero (by omega) (fun j a b => by have q := hT10 j a (by omega); omega)
  
def o_Gr_alter_at_kx_17 : or_T := (82, 18, [(0, (2, 0, 0, [3])), (5, (0, 0, 24, [])), (7, (2, 0, 0, [52])), (8, (2, 0, 0, [53])), (10, (2, 0, 0, [61])), (11, (0, 0, 29, [])), (13, (0, 0, 47, [])), (14, (0, 30, 30, [])), (15, (0, 1, 1, [])), (16, (0, 1, 30, [])), (17, (0, 0, 0, []))], [(9, [17, 0], [18]), (9, [5, 0], [0]), (9, [13, 0], [1]), (9, [7, 0], [7]), (9, [8, 0], [8]), (9, [10, 0], [16]), (9, [16, 0], [17]), (20, [10, 11], [61, 1, 762]), (20, [0], [60, 2, 3, 670, 0, 1, 14, 7, 8]), (20, [0], [60, 2, 2, 596, 0, 1, 7, 8]), (101, [0, 17], [18]), (20, [10, 11], [61, 1, 762]), (20, [0], [60, 2, 3, 670, 0, 1, 14, 7, 8]), (20, [0], [60, 2, 2, 596, 0, 1, 7, 8]), (101, [0, 16], [17]), (1, [16, 11, 15], []), (9, [11, 0], [17]), (7, [11, 14], [1]), (20, [10, 11], [61, 1, 762]), (20, [0], [50, 2, 0, 17, 18, 0, 8, 4, 3, 2, 0, 17, 2, 0, 18, 0, 30]), (20, [0], [60, 2, 3, 670, 0, 1, 14, 7, 8]), (20, [0], [60, 2, 2, 596, 0, 1, 7, 8]), (102, [11], [381944245562716141175333566576758405197150323812363046994276334253946495506784008380874752, 3000, 3001]), (102, [11], [2305843009213693952]), (101, [0, 10], [16])], [], [], [(20, [0, 16], [60, 0, 1, 737, 16])], [], [(16, 11, 1, 1)])
theorem oo_Gr_alter_at_kx_17 {kA : Nat → ClassId} : or_ok PRD kA GG o_Gr_alter_at_kx_17 := by
  refine or_mk fun A ta ws vs hD hth hl => ?_
  intro t0 r0 t5 k5 t7 r7 t8 r8 t10 r10 t11 k11 t13 k13 t14 k14 t15 k15 t16 k16 t17 k17 d0 f0 f1 f2 f3 f4 f5 f6 f7 f8 f9 ta1 w1 le1 s1 f11 f12 f13 ta2 w2 le2 s2 f15 f16 f17 f18 f19 f20 f21 ta3 w3 le3 s3 ta4 w4 le4 s4 ta5 w5 le5 s5
  replace f5 := shm_188 f5
  have s1 : (∀ b j, w_el ws b j = w_el w1 b j) ∧ ∀ b j, w_fd ws b j = if b = v_ad (n_v vs 0) ∧ j = 18 then n_v vs 17 else w_fd w1 b j := s1.2
  have s2 : (∀ b j, w_el w1 b j = w_el w2 b j) ∧ ∀ b j, w_fd w1 b j = if b = v_ad (n_v vs 0) ∧ j = 17 then n_v vs 16 else w_fd w2 b j := s2.2
  replace f18 := shm_1743 f18
  have ar_0_7_1 : w_ar w1 (n_v vs 0) 7 = w_ar ws (n_v vs 0) 7 := by show v_ad (w_fd w1 _ _) = v_ad (w_fd ws _ _); rw [s1.2, if_neg (fun e => absurd e.2 (by decide))]
  have ar_0_7_2 : w_ar w2 (n_v vs 0) 7 = w_ar ws (n_v vs 0) 7 := by rw [← ar_0_7_1]; show v_ad (w_fd w2 _ _) = v_ad (w_fd w1 _ _); rw [s2.2, if_neg (fun e => absurd e.2 (by decide))]
  have ar_0_8_1 : w_ar w1 (n_v vs 0) 8 = w_ar ws (n_v vs 0) 8 := by show v_ad (w_fd w1 _ _) = v_ad (w_fd ws _ _); rw [s1.2, if_neg (fun e => absurd e.2 (by decide))]
  have ar_0_8_2 : w_ar w2 (n_v vs 0) 8 = w_ar ws (n_v vs 0) 8 := by rw [← ar_0_8_1]; show v_ad (w_fd w2 _ _) = v_ad (w_fd w1 _ _); rw [s2.2, if_neg (fun e => absurd e.2 (by decide))]
  have ar_0_14_1 : w_ar w1 (n_v vs 0) 14 = w_ar ws (n_v vs 0) 14 := by show v_ad (w_fd w1 _ _) = v_ad (w_fd ws _ _); rw [s1.2, if_neg (fun e => absurd e.2 (by decide))]
  have ar_0_14_2 : w_ar w2 (n_v vs 0) 14 = w_ar ws (n_v vs 0) 14 := by rw [← ar_0_14_1]; show v_ad (w_fd w2 _ _) = v_ad (w_fd w1 _ _); rw [s2.2, if_neg (fun e => absurd e.2 (by decide))]
  have ad_10 : v_ad (n_v vs 10) = w_ar ws (n_v vs 0) 16 := congrArg v_ad f5
  simp only [ad_10, ar_0_7_2, ar_0_8_2, ar_0_14_2] at f18
  have fe_0_0_1 : w_fi ws (n_v vs 0) 0 = w_fi w1 (n_v vs 0) 0 := by show v_iv (w_fd _ _ _) = v_iv (w_fd _ _ _); rw [s1.2, if_neg (fun e => absurd e.2 (by decide))]
  have fe_0_1_1 : w_fi ws (n_v vs 0) 1 = w_fi w1 (n_v vs 0) 1 := by show v_iv (w_fd _ _ _) = v_iv (w_fd _ _ _); rw [s1.2, if_neg (fun e => absurd e.2 (by decide))]
  have fe_0_17_1 : w_fi ws (n_v vs 0) 17 = w_fi w1 (n_v vs 0) 17 := by show v_iv (w_fd _ _ _) = v_iv (w_fd _ _ _); rw [s1.2, if_neg (fun e => absurd e.2 (by decide))]
  have fe_0_0_2 : w_fi w1 (n_v vs 0) 0 = w_fi w2 (n_v vs 0) 0 := by show v_iv (w_fd _ _ _) = v_iv (w_fd _ _ _); rw [s2.2, if_neg (fun e => absurd e.2 (by decide))]
  have fe_0_1_2 : w_fi w1 (n_v vs 0) 1 = w_fi w2 (n_v vs 0) 1 := by show v_iv (w_fd _ _ _) = v_iv (w_fd _ _ _); rw [s2.2, if_neg (fun e => absurd e.2 (by decide))]
  have fe_0_18_2 : w_fi w1 (n_v vs 0) 18 = w_fi w2 (n_v vs 0) 18 := by show v_iv (w_fd _ _ _) = v_iv (w_fd _ _ _); rw [s2.2, if_neg (fun e => absurd e.2 (by decide))]
  have hE_0_7_1 : ∀ j : Int, w_ei ws (w_ar ws (n_v vs 0) 7) j = w_ei w1 (w_ar ws (n_v vs 0) 7) j := fun j => s1.1 _ _
  have hE_0_7_2 : ∀ j : Int, w_ei w1 (w_ar ws (n_v vs 0) 7) j = w_ei w2 (w_ar ws (n_v vs 0) 7) j := fun j => s2.1 _ _
  have hE_0_8_1 : ∀ j : Int, w_ei ws (w_ar ws (n_v vs 0) 8) j = w_ei w1 (w_ar ws (n_v vs 0) 8) j := fun j => s1.1 _ _
  have hE_0_8_2 : ∀ j : Int, w_ei w1 (w_ar ws (n_v vs 0) 8) j = w_ei w2 (w_ar ws (n_v vs 0) 8) j := fun j => s2.1 _ _
  have hE_0_14_1 : ∀ j : Int, w_ei ws (w_ar ws (n_v vs 0) 14) j = w_ei w1 (w_ar ws (n_v vs 0) 14) j := fun j => s1.1 _ _
  have hE_0_14_2 : ∀ j : Int, w_ei w1 (w_ar ws (n_v vs 0) 14) j = w_ei w2 (w_ar ws (n_v vs 0) 14) j := fun j => s2.1 _ _
  have hE_0_16_1 : ∀ j : Int, w_ei ws (w_ar ws (n_v vs 0) 16) j = w_ei w1 (w_ar ws (n_v vs 0) 16) j := fun j => s1.1 _ _
  have hE_0_16_2 : ∀ j : Int, w_ei w1 (w_ar ws (n_v vs 0) 16) j = w_ei w2 (w_ar ws (n_v vs 0) 16) j := fun j => s2.1 _ _
  have kz_0_0 := fdq_23 hD hth r0
  have kz_0_1 := fdq_38 hD hth r0
  have kz_0_17 := fdq_282 hD hth r0
  have nf0 : fc_1 PRD (20, [0, 16], [60, 0, 1, 737, 16]) ws (vs) := ⟨nf_in hl rfl, sgq_821 (vc_Gr_alter_at_kx_17_0 (v_iv (n_v vs 11)) (v_iv (n_v vs 16)) (w_fi ws (n_v vs 0) 0) (w_fi ws (n_v vs 0) 1) (w_fi ws (n_v vs 0) 17) (w_ei ws (w_ar ws (n_v vs 0) 16)) (w_ei ws (w_ar ws (n_v vs 0) 14)) (w_ei ws (w_ar ws (n_v vs 0) 7)) (w_ei ws (w_ar ws (n_v vs 0) 8)) (w_ei w1 (w_ar ws (n_v vs 0) 16)) (w_ei w1 (w_ar ws (n_v vs 0) 14)) (w_ei w1 (w_ar ws (n_v vs 0) 7)) (w_ei w1 (w_ar ws (n_v vs 0) 8)) (w_fi w1 (n_v vs 0) 0) (w_fi w1 (n_v vs 0) 1) (w_ei w2 (w_ar ws (n_v vs 0) 16)) (w_fi w2 (n_v vs 0) 18) (w_ei w2 (w_ar ws (n_v vs 0) 14)) (w_ei w2 (w_ar ws (n_v vs 0) 7)) (w_ei w2 (w_ar ws (n_v vs 0) 8)) (w_fi w2 (n_v vs 0) 0) (w_fi w2 (n_v vs 0) 1) (w_fi w1 (n_v vs 0) 17) (w_fi w1 (n_v vs 0) 18) k11 k16 d0 f18 fe_0_0_1 fe_0_1_1 fe_0_17_1 fe_0_0_2 fe_0_1_2 fe_0_18_2 hE_0_7_1 hE_0_7_2 hE_0_8_1 hE_0_8_2 hE_0_14_1 hE_0_14_2 hE_0_16_1 hE_0_16_2 kz_0_0 kz_0_1 kz_0_17)⟩
  refine ⟨(fun _ h => (by cases h)), [], trivial, ?_, (fun _ h => (by cases h))⟩
  rw [List.append_nil]
  exact List.forall_mem_cons.mpr ⟨⟨show (20 : Nat) < 100 from by decide, nf0⟩, (fun _ h => (by cases h))⟩
set_option maxHeartbeats 4000000 in
theorem vc_Gr_alter_at_kx_18_0 (x16 : Int) (x17 : Int) (undone_0 : Int) (done_0 : Int) (k16 : 1 ≤ x16 ∧ x16 ≤ 30) (k17 : 0 ≤ x17 ∧ x17 ≤ 0) (g0 : x17 = undone_0) (g1 : x16 = done_0) (kz_0_17 : 0 ≤ done_0 ∧ done_0 ≤ 30) (kz_0_18 : 0 ≤ undone_0 ∧ undone_0 ≤ 30) : (done_0 + undone_0) ≤ 30 := by
  first
    | omega
  
set_option maxHeartbeats 4000000 in
theorem vc_Gr_alter_at_kx_18_1 (x16 : Int) (x17 : Int) (undone_0 : Int) (done_0 : Int) (past_0 : Int → Int) (k16 : 1 ≤ x16 ∧ x16 ≤ 30) (k17 : 0 ≤ x17 ∧ x17 ≤ 0) (g0 : x17 = undone_0) (g1 : x16 = done_0) (f8 : PRI (past_0) (x16)) (kz_0_17 : 0 ≤ done_0 ∧ done_0 ≤ 30) (kz_0_18 : 0 ≤ undone_0 ∧ undone_0 ≤ 30) : PDQ (done_0) (undone_0) (past_0) := by
  first
    | assumption
    | exact pri_pdq ‹PRI _ _› (by omega) (by omega)
  
def o_Gr_alter_at_kx_18 : or_T := (87, 18, [(0, (2, 0, 0, [3])), (5, (0, 0, 24, [])), (7, (2, 0, 0, [52])), (8, (2, 0, 0, [53])), (10, (2, 0, 0, [61])), (11, (0, 0, 29, [])), (13, (0, 0, 47, [])), (14, (0, 30, 30, [])), (15, (0, 1, 1, [])), (16, (0, 1, 30, [])), (17, (0, 0, 0, []))], [(9, [17, 0], [18]), (9, [16, 0], [17]), (9, [5, 0], [0]), (9, [13, 0], [1]), (9, [7, 0], [7]), (9, [8, 0], [8]), (9, [10, 0], [16]), (20, [0], [60, 2, 3, 670, 0, 1, 14, 7, 8]), (20, [0, 16], [60, 0, 1, 738, 16]), (20, [0], [60, 2, 2, 596, 0, 1, 7, 8]), (102, [17], [2305843009213693952]), (101, [0, 17], [18]), (101, [0, 16], [17]), (1, [16, 11, 15], []), (7, [11, 14], [1]), (102, [11], [381944245562716141175333566576758405197150323812363046994276334253946495506784008380874752, 3000, 3001]), (102, [11], [2305843009213693952]), (101, [0, 10], [16])], [], [], [(20, [0], [50, 2, 0, 17, 18, 0, 8, 4, 3, 2, 0, 17, 2, 0, 18, 0, 30]), (20, [0], [60, 2, 1, 739, 17, 18, 16])], [], [(16, 11, 1, 1)])
theorem oo_Gr_alter_at_kx_18 {kA : Nat → ClassId} : or_ok PRD kA GG o_Gr_alter_at_kx_18 := by
  refine or_mk fun A ta ws vs hD hth hl => ?_
  intro t0 r0 t5 k5 t7 r7 t8 r8 t10 r10 t11 k11 t13 k13 t14 k14 t15 k15 t16 k16 t17 k17 d0 f0 f1 f2 f3 f4 f5 f6 f7 f8 f9 ta1 w1 le1 s1 ta2 w2 le2 s2 ta3 w3 le3 s3 f13 f14 ta4 w4 le4 s4 ta5 w5 le5 s5 ta6 w6 le6 s6
  replace f0 := shm_785 f0
  replace f1 := shm_781 f1
  have g0 : v_iv (n_v vs 17) = w_fi ws (n_v vs 0) 18 := congrArg v_iv f0
  have g1 : v_iv (n_v vs 16) = w_fi ws (n_v vs 0) 17 := congrArg v_iv f1
  have kz_0_17 := fdq_282 hD hth r0
  have kz_0_18 := fdq_283 hD hth r0
  have nf0 : fc_1 PRD (20, [0], [50, 2, 0, 17, 18, 0, 8, 4, 3, 2, 0, 17, 2, 0, 18, 0, 30]) ws (vs) := ⟨nf_in hl rfl, sgq_1462 (vc_Gr_alter_at_kx_18_0 (v_iv (n_v vs 16)) (v_iv (n_v vs 17)) (w_fi ws (n_v vs 0) 18) (w_fi ws (n_v vs 0) 17) k16 k17 g0 g1 kz_0_17 kz_0_18)⟩
  have nf1 : fc_1 PRD (20, [0], [60, 2, 1, 739, 17, 18, 16]) ws (vs) := ⟨nf_in hl rfl, sgq_1327 (vc_Gr_alter_at_kx_18_1 (v_iv (n_v vs 16)) (v_iv (n_v vs 17)) (w_fi ws (n_v vs 0) 18) (w_fi ws (n_v vs 0) 17) (w_ei ws (w_ar ws (n_v vs 0) 16)) k16 k17 g0 g1 (shm_826 f8) kz_0_17 kz_0_18)⟩
  refine ⟨(fun _ h => (by cases h)), [], trivial, ?_, (fun _ h => (by cases h))⟩
  rw [List.append_nil]
  exact List.forall_mem_cons.mpr ⟨⟨show (20 : Nat) < 100 from by decide, nf0⟩, List.forall_mem_cons.mpr ⟨⟨show (20 : Nat) < 100 from by decide, nf1⟩, (fun _ h => (by cases h))⟩⟩
set_option maxHeartbeats 4000000 in
theorem vc_Gr_alter_at_kx_19_0 (x15 : Int) (x17 : Int) (k15 : 122 ≤ x15 ∧ x15 ≤ 122) (k17 : 3660 ≤ x17 ∧ x17 ≤ 3660) : x15 + x17 ≤ 3782 := by
  first
    | omega
  
set_option maxHeartbeats 4000000 in
theorem vc_Gr_alter_at_kx_19_1 (x16 : Int) (x17 : Int) (k16 : 0 ≤ x16 ∧ x16 ≤ 0) (k17 : 3660 ≤ x17 ∧ x17 ≤ 3660) : x16 + x17 ≤ 3782 := by
  first
    | omega
  
set_option maxHeartbeats 4000000 in
theorem vc_Gr_alter_at_kx_19_2 (x11 : Int) (x15 : Int) (x16 : Int) (x17 : Int) (a10_0 : Int → Int) (k11 : 30 ≤ x11 ∧ x11 ≤ 30) (k15 : 122 ≤ x15 ∧ x15 ≤ 122) (k16 : 0 ≤ x16 ∧ x16 ≤ 0) (k17 : 3660 ≤ x17 ∧ x17 ≤ 3660) (f6 : PNI (a10_0) (x11)) : MV1 (a10_0) (a10_0) (x15) (x16) (x17) := by
  first
    | exact ⟨by omega, by omega, by omega, fun r a b => (‹PNI _ _›) r a (by omega)⟩
  
def o_Gr_alter_at_kx_19 : or_T := (56, 18, [(11, (0, 30, 30, [])), (15, (0, 122, 122, [])), (16, (0, 0, 0, [])), (17, (0, 3660, 3660, []))], [(20, [10, 11], [61, 1, 762])], [], [], [(21, [15, 17], [3782]), (21, [16, 17], [3782]), (20, [10, 10, 15, 16, 17], [61, 2, 763])], [], [])
theorem oo_Gr_alter_at_kx_19 {kA : Nat → ClassId} : or_ok PRD kA GG o_Gr_alter_at_kx_19 := by
  refine or_mk fun A ta ws vs hD hth hl => ?_
  intro t11 k11 t15 k15 t16 k16 t17 k17 f6
  have nf0 : fc_1 PRD (21, [15, 17], [3782]) ws (vs) := ⟨nf_in hl rfl, sgq_1744 (vc_Gr_alter_at_kx_19_0 (v_iv (n_v vs 15)) (v_iv (n_v vs 17)) k15 k17)⟩
  have nf1 : fc_1 PRD (21, [16, 17], [3782]) ws (vs) := ⟨nf_in hl rfl, sgq_1744 (vc_Gr_alter_at_kx_19_1 (v_iv (n_v vs 16)) (v_iv (n_v vs 17)) k16 k17)⟩
  have nf2 : fc_1 PRD (20, [10, 10, 15, 16, 17], [61, 2, 763]) ws (vs) := ⟨nf_in hl rfl, sgq_1745 (vc_Gr_alter_at_kx_19_2 (v_iv (n_v vs 11)) (v_iv (n_v vs 15)) (v_iv (n_v vs 16)) (v_iv (n_v vs 17)) (w_ei ws (v_ad (n_v vs 10))) k11 k15 k16 k17 (shm_1743 f6))⟩
  refine ⟨(fun _ h => (by cases h)), [], trivial, ?_, (fun _ h => (by cases h))⟩
  rw [List.append_nil]
  exact List.forall_mem_cons.mpr ⟨⟨show (21 : Nat) < 100 from by decide, nf0⟩, List.forall_mem_cons.mpr ⟨⟨show (21 : Nat) < 100 from by decide, nf1⟩, List.forall_mem_cons.mpr ⟨⟨show (20 : Nat) < 100 from by decide, nf2⟩, (fun _ h => (by cases h))⟩⟩⟩
set_option maxHeartbeats 4000000 in
theorem vc_Gr_alter_at_kx_20_0 (x11 : Int) (x15 : Int) (x16 : Int) (x17 : Int) (nodes_0 : Int) (edges_0 : Int) (done_0 : Int) (near_0 : Int → Int) (tail_0 : Int → Int) (head_0 : Int → Int) (past_0 : Int → Int) (done_1 : Int) (near_1 : Int → Int) (tail_1 : Int → Int) (head_1 : Int → Int) (nodes_1 : Int) (edges_1 : Int) (past_1 : Int → Int) (k11 : 30 ≤ x11 ∧ x11 ≤ 30) (k15 : 122 ≤ x15 ∧ x15 ≤ 122) (k16 : 0 ≤ x16 ∧ x16 ≤ 0) (k17 : 3660 ≤ x17 ∧ x17 ≤ 3660) (f18 : MV2 (past_1) (past_1) (x15) (x16) (x17)) (fe_0_0_1 : nodes_0 = nodes_1) (fe_0_1_1 : edges_0 = edges_1) (fe_0_17_1 : done_0 = done_1) (hE_0_7_1 : ∀ j : Int, tail_0 j = tail_1 j) (hE_0_8_1 : ∀ j : Int, head_0 j = head_1 j) (hE_0_14_1 : ∀ j : Int, near_0 j = near_1 j) (hE_0_16_1 : ∀ j : Int, past_0 j = past_1 j) (kz_0_0 : 0 ≤ nodes_0 ∧ nodes_0 ≤ 24) (kz_0_1 : 0 ≤ edges_0 ∧ edges_0 ≤ 48) (kz_0_17 : 0 ≤ done_0 ∧ done_0 ≤ 30) : PRO (past_0) (x11) := by
  subst fe_0_0_1
  subst fe_0_1_1
  subst fe_0_17_1
  have e_hE_0_7_1 := funext hE_0_7_1; subst e_hE_0_7_1
  have e_hE_0_8_1 := funext hE_0_8_1; subst e_hE_0_8_1
  have e_hE_0_14_1 := funext hE_0_14_1; subst e_hE_0_14_1
  have e_hE_0_16_1 := funext hE_0_16_1; subst e_hE_0_16_1
  first
    | exact pro_pdq ‹PDQ _ _ _› (by omega) (by omega)
    | exact pri_pro ‹PNI _ _› (by omega)
    | (have q := (‹MV2 _ _ _ _ _›); exact fun r a b => q r a (by omega))
    | exact pro_zero (by omega) (fun j a b => by have q := hT10 j a (by omega); omega)
  
def o_Gr_alter_at_kx_20 : or_T := (82, 19, [(0, (2, 0, 0, [3])), (11, (0, 30, 30, [])), (15, (0, 122, 122, [])), (16, (0, 0, 0, [])), (17, (0, 3660, 3660, []))], [(9, [10, 0], [16]), (101, [0, 18], [18]), (20, [10, 10, 15, 16, 17], [61, 2, 764])], [], [], [(20, [0, 11], [60, 0, 1, 737, 16])], [], [])
theorem oo_Gr_alter_at_kx_20 {kA : Nat → ClassId} : or_ok PRD kA GG o_Gr_alter_at_kx_20 := by
  refine or_mk fun A ta ws vs hD hth hl => ?_
  intro t0 r0 t11 k11 t15 k15 t16 k16 t17 k17 f5 ta1 w1 le1 s1 f18
  replace f5 := shm_188 f5
  have s1 : (∀ b j, w_el ws b j = w_el w1 b j) ∧ ∀ b j, w_fd ws b j = if b = v_ad (n_v vs 0) ∧ j = 18 then n_v vs 18 else w_fd w1 b j := s1.2
  replace f18 := shm_1746 f18
  have ar_0_7_1 : w_ar w1 (n_v vs 0) 7 = w_ar ws (n_v vs 0) 7 := by show v_ad (w_fd w1 _ _) = v_ad (w_fd ws _ _); rw [s1.2, if_neg (fun e => absurd e.2 (by decide))]
  have ar_0_8_1 : w_ar w1 (n_v vs 0) 8 = w_ar ws (n_v vs 0) 8 := by show v_ad (w_fd w1 _ _) = v_ad (w_fd ws _ _); rw [s1.2, if_neg (fun e => absurd e.2 (by decide))]
  have ar_0_14_1 : w_ar w1 (n_v vs 0) 14 = w_ar ws (n_v vs 0) 14 := by show v_ad (w_fd w1 _ _) = v_ad (w_fd ws _ _); rw [s1.2, if_neg (fun e => absurd e.2 (by decide))]
  have ad_10 : v_ad (n_v vs 10) = w_ar ws (n_v vs 0) 16 := congrArg v_ad f5
  simp only [ad_10, ar_0_7_1, ar_0_8_1, ar_0_14_1] at f18
  have fe_0_0_1 : w_fi ws (n_v vs 0) 0 = w_fi w1 (n_v vs 0) 0 := by show v_iv (w_fd _ _ _) = v_iv (w_fd _ _ _); rw [s1.2, if_neg (fun e => absurd e.2 (by decide))]
  have fe_0_1_1 : w_fi ws (n_v vs 0) 1 = w_fi w1 (n_v vs 0) 1 := by show v_iv (w_fd _ _ _) = v_iv (w_fd _ _ _); rw [s1.2, if_neg (fun e => absurd e.2 (by decide))]
  have fe_0_17_1 : w_fi ws (n_v vs 0) 17 = w_fi w1 (n_v vs 0) 17 := by show v_iv (w_fd _ _ _) = v_iv (w_fd _ _ _); rw [s1.2, if_neg (fun e => absurd e.2 (by decide))]
  have hE_0_7_1 : ∀ j : Int, w_ei ws (w_ar ws (n_v vs 0) 7) j = w_ei w1 (w_ar ws (n_v vs 0) 7) j := fun j => s1.1 _ _
  have hE_0_8_1 : ∀ j : Int, w_ei ws (w_ar ws (n_v vs 0) 8) j = w_ei w1 (w_ar ws (n_v vs 0) 8) j := fun j => s1.1 _ _
  have hE_0_14_1 : ∀ j : Int, w_ei ws (w_ar ws (n_v vs 0) 14) j = w_ei w1 (w_ar ws (n_v vs 0) 14) j := fun j => s1.1 _ _
  have hE_0_16_1 : ∀ j : Int, w_ei ws (w_ar ws (n_v vs 0) 16) j = w_ei w1 (w_ar ws (n_v vs 0) 16) j := fun j => s1.1 _ _
  have kz_0_0 := fdq_23 hD hth r0
  have kz_0_1 := fdq_38 hD hth r0
  have kz_0_17 := fdq_282 hD hth r0
  have nf0 : fc_1 PRD (20, [0, 11], [60, 0, 1, 737, 16]) ws (vs) := ⟨nf_in hl rfl, sgq_821 (vc_Gr_alter_at_kx_20_0 (v_iv (n_v vs 11)) (v_iv (n_v vs 15)) (v_iv (n_v vs 16)) (v_iv (n_v vs 17)) (w_fi ws (n_v vs 0) 0) (w_fi ws (n_v vs 0) 1) (w_fi ws (n_v vs 0) 17) (w_ei ws (w_ar ws (n_v vs 0) 14)) (w_ei ws (w_ar ws (n_v vs 0) 7)) (w_ei ws (w_ar ws (n_v vs 0) 8)) (w_ei ws (w_ar ws (n_v vs 0) 16)) (w_fi w1 (n_v vs 0) 17) (w_ei w1 (w_ar ws (n_v vs 0) 14)) (w_ei w1 (w_ar ws (n_v vs 0) 7)) (w_ei w1 (w_ar ws (n_v vs 0) 8)) (w_fi w1 (n_v vs 0) 0) (w_fi w1 (n_v vs 0) 1) (w_ei w1 (w_ar ws (n_v vs 0) 16)) k11 k15 k16 k17 f18 fe_0_0_1 fe_0_1_1 fe_0_17_1 hE_0_7_1 hE_0_8_1 hE_0_14_1 hE_0_16_1 kz_0_0 kz_0_1 kz_0_17)⟩
  refine ⟨(fun _ h => (by cases h)), [], trivial, ?_, (fun _ h => (by cases h))⟩
  rw [List.append_nil]
  exact List.forall_mem_cons.mpr ⟨⟨show (20 : Nat) < 100 from by decide, nf0⟩, (fun _ h => (by cases h))⟩
set_option maxHeartbeats 4000000 in
theorem vc_Gr_alter_at_kx_21_0 (x11 : Int) (x18 : Int) (undone_0 : Int) (done_0 : Int) (k11 : 30 ≤ x11 ∧ x11 ≤ 30) (k18 : 0 ≤ x18 ∧ x18 ≤ 0) (g0 : x18 = undone_0) (g5 : x11 = done_0) (kz_0_17 : 0 ≤ done_0 ∧ done_0 ≤ 30) (kz_0_18 : 0 ≤ undone_0 ∧ undone_0 ≤ 30) : (done_0 + undone_0) ≤ 30 := by
  first
    | omega
  
set_option maxHeartbeats 4000000 in
theorem vc_Gr_alter_at_kx_21_1 (x11 : Int) (x18 : Int) (undone_0 : Int) (done_0 : Int) (past_0 : Int → Int) (k11 : 30 ≤ x11 ∧ x11 ≤ 30) (k18 : 0 ≤ x18 ∧ x18 ≤ 0) (g0 : x18 = undone_0) (g5 : x11 = done_0) (f8 : PRI (past_0) (x11)) (kz_0_17 : 0 ≤ done_0 ∧ done_0 ≤ 30) (kz_0_18 : 0 ≤ undone_0 ∧ undone_0 ≤ 30) : PDQ (done_0) (undone_0) (past_0) := by
  first
    | assumption
    | exact pri_pdq ‹PRI _ _› (by omega) (by omega)
  
def o_Gr_alter_at_kx_21 : or_T := (87, 19, [(0, (2, 0, 0, [3])), (11, (0, 30, 30, [])), (18, (0, 0, 0, []))], [(9, [18, 0], [18]), (9, [11, 0], [17]), (20, [0, 11], [60, 0, 1, 738, 16])], [], [], [(20, [0], [50, 2, 0, 17, 18, 0, 8, 4, 3, 2, 0, 17, 2, 0, 18, 0, 30]), (20, [0], [60, 2, 1, 739, 17, 18, 16])], [], [])
theorem oo_Gr_alter_at_kx_21 {kA : Nat → ClassId} : or_ok PRD kA GG o_Gr_alter_at_kx_21 := by
  refine or_mk fun A ta ws vs hD hth hl => ?_
  intro t0 r0 t11 k11 t18 k18 f0 f5 f8
  replace f0 := shm_785 f0
  replace f5 := shm_781 f5
  have g0 : v_iv (n_v vs 18) = w_fi ws (n_v vs 0) 18 := congrArg v_iv f0
  have g5 : v_iv (n_v vs 11) = w_fi ws (n_v vs 0) 17 := congrArg v_iv f5
  have kz_0_17 := fdq_282 hD hth r0
  have kz_0_18 := fdq_283 hD hth r0
  have nf0 : fc_1 PRD (20, [0], [50, 2, 0, 17, 18, 0, 8, 4, 3, 2, 0, 17, 2, 0, 18, 0, 30]) ws (vs) := ⟨nf_in hl rfl, sgq_1462 (vc_Gr_alter_at_kx_21_0 (v_iv (n_v vs 11)) (v_iv (n_v vs 18)) (w_fi ws (n_v vs 0) 18) (w_fi ws (n_v vs 0) 17) k11 k18 g0 g5 kz_0_17 kz_0_18)⟩
  have nf1 : fc_1 PRD (20, [0], [60, 2, 1, 739, 17, 18, 16]) ws (vs) := ⟨nf_in hl rfl, sgq_1327 (vc_Gr_alter_at_kx_21_1 (v_iv (n_v vs 11)) (v_iv (n_v vs 18)) (w_fi ws (n_v vs 0) 18) (w_fi ws (n_v vs 0) 17) (w_ei ws (w_ar ws (n_v vs 0) 16)) k11 k18 g0 g5 (shm_826 f8) kz_0_17 kz_0_18)⟩
  refine ⟨(fun _ h => (by cases h)), [], trivial, ?_, (fun _ h => (by cases h))⟩
  rw [List.append_nil]
  exact List.forall_mem_cons.mpr ⟨⟨show (20 : Nat) < 100 from by decide, nf0⟩, List.forall_mem_cons.mpr ⟨⟨show (20 : Nat) < 100 from by decide, nf1⟩, (fun _ h => (by cases h))⟩⟩
set_option maxHeartbeats 4000000 in
theorem vc_Gr_alter_at_kx_22_0 (x11 : Int) (x15 : Int) (done_0 : Int) (past_0 : Int → Int) (near_0 : Int → Int) (tail_0 : Int → Int) (head_0 : Int → Int) (nodes_0 : Int) (edges_0 : Int) (past_1 : Int → Int) (near_1 : Int → Int) (tail_1 : Int → Int) (head_1 : Int → Int) (nodes_1 : Int) (edges_1 : Int) (past_2 : Int → Int) (undone_2 : Int) (near_2 : Int → Int) (tail_2 : Int → Int) (head_2 : Int → Int) (nodes_2 : Int) (edges_2 : Int) (done_1 : Int) (undone_1 : Int) (k11 : 0 ≤ x11 ∧ x11 ≤ 29) (k15 : 1 ≤ x15 ∧ x15 ≤ 30) (d0 : x11 + 1 ≤ x15 ∧ x15 ≤ x11 + 1) (f16 : PNI (past_2) (x11)) (fe_0_0_1 : nodes_0 = nodes_1) (fe_0_1_1 : edges_0 = edges_1) (fe_0_17_1 : done_0 = done_1) (fe_0_0_2 : nodes_1 = nodes_2) (fe_0_1_2 : edges_1 = edges_2) (fe_0_18_2 : undone_1 = undone_2) (hE_0_7_1 : ∀ j : Int, tail_0 j = tail_1 j) (hE_0_7_2 : ∀ j : Int, tail_1 j = tail_2 j) (hE_0_8_1 : ∀ j : Int, head_0 j = head_1 j) (hE_0_8_2 : ∀ j : Int, head_1 j = head_2 j) (hE_0_14_1 : ∀ j : Int, near_0 j = near_1 j) (hE_0_14_2 : ∀ j : Int, near_1 j = near_2 j) (hE_0_16_1 : ∀ j : Int, past_0 j = past_1 j) (hE_0_16_2 : ∀ j : Int, past_1 j = past_2 j) (kz_0_0 : 0 ≤ nodes_0 ∧ nodes_0 ≤ 24) (kz_0_1 : 0 ≤ edges_0 ∧ edges_0 ≤ 48) (kz_0_17 : 0 ≤ done_0 ∧ done_0 ≤ 30) : PRO (past_0) (x15) := by
  subst fe_0_0_1
  subst fe_0_1_1
  subst fe_0_17_1
  subst fe_0_0_2
  subst fe_0_1_2
  subst fe_0_18_2
  have e_hE_0_7_1 := funext hE_0_7_1; subst e_hE_0_7_1
  have e_hE_0_7_2 := funext hE_0_7_2; subst e_hE_0_7_2
  have e_hE_0_8_1 := funext hE_0_8_1; subst e_hE_0_8_1
  have e_hE_0_8_2 := funext hE_0_8_2; subst e_hE_0_8_2
  have e_hE_0_14_1 := funext hE_0_14_1; subst e_hE_0_14_1
  have e_hE_0_14_2 := funext hE_0_14_2; subst e_hE_0_14_2
  have e_hE_0_16_1 := funext hE_0_16_1; subst e_hE_0_16_1
  have e_hE_0_16_2 := funext hE_0_16_2; subst e_hE_0_16_2
  first
    | exact pro_pdq ‹PDQ _ _ _› (by omega) (by omega)
    | exact pri_pro ‹PNI _ _› (by omega)
    | (have q := (‹MV2 _ _ _ _ _›); exact fun r a b => q r a (by omega))
    | exact pro_zero (by omega) (fun j a b => by have q := hT10 j a (by omega); omega)
  
def o_Gr_alter_at_kx_22 : or_T := (82, 17, [(0, (2, 0, 0, [3])), (7, (2, 0, 0, [52])), (8, (2, 0, 0, [53])), (10, (2, 0, 0, [61])), (11, (0, 0, 29, [])), (13, (0, 30, 30, [])), (14, (0, 1, 1, [])), (15, (0, 1, 30, [])), (16, (0, 0, 0, []))], [(9, [16, 0], [18]), (9, [7, 0], [7]), (9, [8, 0], [8]), (9, [10, 0], [16]), (9, [15, 0], [17]), (20, [10, 11], [61, 1, 762]), (20, [0], [60, 2, 3, 670, 0, 1, 14, 7, 8]), (20, [0], [60, 2, 2, 596, 0, 1, 7, 8]), (101, [0, 16], [18]), (20, [10, 11], [61, 1, 762]), (20, [0], [60, 2, 3, 670, 0, 1, 14, 7, 8]), (20, [0], [60, 2, 2, 596, 0, 1, 7, 8]), (101, [0, 15], [17]), (1, [15, 11, 14], []), (9, [11, 0], [17]), (7, [11, 13], [1]), (20, [10, 11], [61, 1, 762]), (20, [0], [50, 2, 0, 17, 18, 0, 8, 4, 3, 2, 0, 17, 2, 0, 18, 0, 30]), (20, [0], [60, 2, 3, 670, 0, 1, 14, 7, 8]), (20, [0], [60, 2, 2, 596, 0, 1, 7, 8]), (102, [11], [381944245562716141175333566576758405197150323812363046994276334253946495506784008380874752, 3000, 3001]), (102, [11], [2305843009213693952]), (101, [0, 10], [16])], [], [], [(20, [0, 15], [60, 0, 1, 737, 16])], [], [(15, 11, 1, 1)])
theorem oo_Gr_alter_at_kx_22 {kA : Nat → ClassId} : or_ok PRD kA GG o_Gr_alter_at_kx_22 := by
  refine or_mk fun A ta ws vs hD hth hl => ?_
  intro t0 r0 t7 r7 t8 r8 t10 r10 t11 k11 t13 k13 t14 k14 t15 k15 t16 k16 d0 f0 f1 f2 f3 f4 f5 f6 f7 ta1 w1 le1 s1 f9 f10 f11 ta2 w2 le2 s2 f13 f14 f15 f16 f17 f18 f19 ta3 w3 le3 s3 ta4 w4 le4 s4 ta5 w5 le5 s5
  replace f3 := shm_188 f3
  have s1 : (∀ b j, w_el ws b j = w_el w1 b j) ∧ ∀ b j, w_fd ws b j = if b = v_ad (n_v vs 0) ∧ j = 18 then n_v vs 16 else w_fd w1 b j := s1.2
  have s2 : (∀ b j, w_el w1 b j = w_el w2 b j) ∧ ∀ b j, w_fd w1 b j = if b = v_ad (n_v vs 0) ∧ j = 17 then n_v vs 15 else w_fd w2 b j := s2.2
  replace f16 := shm_1743 f16
  have ar_0_7_1 : w_ar w1 (n_v vs 0) 7 = w_ar ws (n_v vs 0) 7 := by show v_ad (w_fd w1 _ _) = v_ad (w_fd ws _ _); rw [s1.2, if_neg (fun e => absurd e.2 (by decide))]
  have ar_0_7_2 : w_ar w2 (n_v vs 0) 7 = w_ar ws (n_v vs 0) 7 := by rw [← ar_0_7_1]; show v_ad (w_fd w2 _ _) = v_ad (w_fd w1 _ _); rw [s2.2, if_neg (fun e => absurd e.2 (by decide))]
  have ar_0_8_1 : w_ar w1 (n_v vs 0) 8 = w_ar ws (n_v vs 0) 8 := by show v_ad (w_fd w1 _ _) = v_ad (w_fd ws _ _); rw [s1.2, if_neg (fun e => absurd e.2 (by decide))]
  have ar_0_8_2 : w_ar w2 (n_v vs 0) 8 = w_ar ws (n_v vs 0) 8 := by rw [← ar_0_8_1]; show v_ad (w_fd w2 _ _) = v_ad (w_fd w1 _ _); rw [s2.2, if_neg (fun e => absurd e.2 (by decide))]
  have ar_0_14_1 : w_ar w1 (n_v vs 0) 14 = w_ar ws (n_v vs 0) 14 := by show v_ad (w_fd w1 _ _) = v_ad (w_fd ws _ _); rw [s1.2, if_neg (fun e => absurd e.2 (by decide))]
  have ar_0_14_2 : w_ar w2 (n_v vs 0) 14 = w_ar ws (n_v vs 0) 14 := by rw [← ar_0_14_1]; show v_ad (w_fd w2 _ _) = v_ad (w_fd w1 _ _); rw [s2.2, if_neg (fun e => absurd e.2 (by decide))]
  have ad_10 : v_ad (n_v vs 10) = w_ar ws (n_v vs 0) 16 := congrArg v_ad f3
  simp only [ad_10, ar_0_7_2, ar_0_8_2, ar_0_14_2] at f16
  have fe_0_0_1 : w_fi ws (n_v vs 0) 0 = w_fi w1 (n_v vs 0) 0 := by show v_iv (w_fd _ _ _) = v_iv (w_fd _ _ _); rw [s1.2, if_neg (fun e => absurd e.2 (by decide))]
  have fe_0_1_1 : w_fi ws (n_v vs 0) 1 = w_fi w1 (n_v vs 0) 1 := by show v_iv (w_fd _ _ _) = v_iv (w_fd _ _ _); rw [s1.2, if_neg (fun e => absurd e.2 (by decide))]
  have fe_0_17_1 : w_fi ws (n_v vs 0) 17 = w_fi w1 (n_v vs 0) 17 := by show v_iv (w_fd _ _ _) = v_iv (w_fd _ _ _); rw [s1.2, if_neg (fun e => absurd e.2 (by decide))]
  have fe_0_0_2 : w_fi w1 (n_v vs 0) 0 = w_fi w2 (n_v vs 0) 0 := by show v_iv (w_fd _ _ _) = v_iv (w_fd _ _ _); rw [s2.2, if_neg (fun e => absurd e.2 (by decide))]
  have fe_0_1_2 : w_fi w1 (n_v vs 0) 1 = w_fi w2 (n_v vs 0) 1 := by show v_iv (w_fd _ _ _) = v_iv (w_fd _ _ _); rw [s2.2, if_neg (fun e => absurd e.2 (by decide))]
  have fe_0_18_2 : w_fi w1 (n_v vs 0) 18 = w_fi w2 (n_v vs 0) 18 := by show v_iv (w_fd _ _ _) = v_iv (w_fd _ _ _); rw [s2.2, if_neg (fun e => absurd e.2 (by decide))]
  have hE_0_7_1 : ∀ j : Int, w_ei ws (w_ar ws (n_v vs 0) 7) j = w_ei w1 (w_ar ws (n_v vs 0) 7) j := fun j => s1.1 _ _
  have hE_0_7_2 : ∀ j : Int, w_ei w1 (w_ar ws (n_v vs 0) 7) j = w_ei w2 (w_ar ws (n_v vs 0) 7) j := fun j => s2.1 _ _
  have hE_0_8_1 : ∀ j : Int, w_ei ws (w_ar ws (n_v vs 0) 8) j = w_ei w1 (w_ar ws (n_v vs 0) 8) j := fun j => s1.1 _ _
  have hE_0_8_2 : ∀ j : Int, w_ei w1 (w_ar ws (n_v vs 0) 8) j = w_ei w2 (w_ar ws (n_v vs 0) 8) j := fun j => s2.1 _ _
  have hE_0_14_1 : ∀ j : Int, w_ei ws (w_ar ws (n_v vs 0) 14) j = w_ei w1 (w_ar ws (n_v vs 0) 14) j := fun j => s1.1 _ _
  have hE_0_14_2 : ∀ j : Int, w_ei w1 (w_ar ws (n_v vs 0) 14) j = w_ei w2 (w_ar ws (n_v vs 0) 14) j := fun j => s2.1 _ _
  have hE_0_16_1 : ∀ j : Int, w_ei ws (w_ar ws (n_v vs 0) 16) j = w_ei w1 (w_ar ws (n_v vs 0) 16) j := fun j => s1.1 _ _
  have hE_0_16_2 : ∀ j : Int, w_ei w1 (w_ar ws (n_v vs 0) 16) j = w_ei w2 (w_ar ws (n_v vs 0) 16) j := fun j => s2.1 _ _
  have kz_0_0 := fdq_23 hD hth r0
  have kz_0_1 := fdq_38 hD hth r0
  have kz_0_17 := fdq_282 hD hth r0
  have nf0 : fc_1 PRD (20, [0, 15], [60, 0, 1, 737, 16]) ws (vs) := ⟨nf_in hl rfl, sgq_821 (vc_Gr_alter_at_kx_22_0 (v_iv (n_v vs 11)) (v_iv (n_v vs 15)) (w_fi ws (n_v vs 0) 17) (w_ei ws (w_ar ws (n_v vs 0) 16)) (w_ei ws (w_ar ws (n_v vs 0) 14)) (w_ei ws (w_ar ws (n_v vs 0) 7)) (w_ei ws (w_ar ws (n_v vs 0) 8)) (w_fi ws (n_v vs 0) 0) (w_fi ws (n_v vs 0) 1) (w_ei w1 (w_ar ws (n_v vs 0) 16)) (w_ei w1 (w_ar ws (n_v vs 0) 14)) (w_ei w1 (w_ar ws (n_v vs 0) 7)) (w_ei w1 (w_ar ws (n_v vs 0) 8)) (w_fi w1 (n_v vs 0) 0) (w_fi w1 (n_v vs 0) 1) (w_ei w2 (w_ar ws (n_v vs 0) 16)) (w_fi w2 (n_v vs 0) 18) (w_ei w2 (w_ar ws (n_v vs 0) 14)) (w_ei w2 (w_ar ws (n_v vs 0) 7)) (w_ei w2 (w_ar ws (n_v vs 0) 8)) (w_fi w2 (n_v vs 0) 0) (w_fi w2 (n_v vs 0) 1) (w_fi w1 (n_v vs 0) 17) (w_fi w1 (n_v vs 0) 18) k11 k15 d0 f16 fe_0_0_1 fe_0_1_1 fe_0_17_1 fe_0_0_2 fe_0_1_2 fe_0_18_2 hE_0_7_1 hE_0_7_2 hE_0_8_1 hE_0_8_2 hE_0_14_1 hE_0_14_2 hE_0_16_1 hE_0_16_2 kz_0_0 kz_0_1 kz_0_17)⟩
  refine ⟨(fun _ h => (by cases h)), [], trivial, ?_, (fun _ h => (by cases h))⟩
  rw [List.append_nil]
  exact List.forall_mem_cons.mpr ⟨⟨show (20 : Nat) < 100 from by decide, nf0⟩, (fun _ h => (by cases h))⟩
set_option maxHeartbeats 4000000 in
theorem vc_Gr_alter_at_kx_23_0 (x11 : Int) (x15 : Int) (x16 : Int) (undone_0 : Int) (done_0 : Int) (k11 : 0 ≤ x11 ∧ x11 ≤ 29) (k15 : 1 ≤ x15 ∧ x15 ≤ 30) (k16 : 0 ≤ x16 ∧ x16 ≤ 0) (d0 : x11 + 1 ≤ x15 ∧ x15 ≤ x11 + 1) (g0 : x16 = undone_0) (g1 : x15 = done_0) (kz_0_17 : 0 ≤ done_0 ∧ done_0 ≤ 30) (kz_0_18 : 0 ≤ undone_0 ∧ undone_0 ≤ 30) : (done_0 + undone_0) ≤ 30 := by
  first
    | omega
  
set_option maxHeartbeats 4000000 in
theorem vc_Gr_alter_at_kx_23_1 (x15 : Int) (x16 : Int) (undone_0 : Int) (done_0 : Int) (past_0 : Int → Int) (k15 : 1 ≤ x15 ∧ x15 ≤ 30) (k16 : 0 ≤ x16 ∧ x16 ≤ 0) (g0 : x16 = undone_0) (g1 : x15 = done_0) (f6 : PRI (past_0) (x15)) (kz_0_17 : 0 ≤ done_0 ∧ done_0 ≤ 30) (kz_0_18 : 0 ≤ undone_0 ∧ undone_0 ≤ 30) : PDQ (done_0) (undone_0) (past_0) := by
  first
    | assumption
    | exact pri_pdq ‹PRI _ _› (by omega) (by omega)
  
def o_Gr_alter_at_kx_23 : or_T := (87, 17, [(0, (2, 0, 0, [3])), (7, (2, 0, 0, [52])), (8, (2, 0, 0, [53])), (10, (2, 0, 0, [61])), (11, (0, 0, 29, [])), (13, (0, 30, 30, [])), (14, (0, 1, 1, [])), (15, (0, 1, 30, [])), (16, (0, 0, 0, []))], [(9, [16, 0], [18]), (9, [15, 0], [17]), (9, [7, 0], [7]), (9, [8, 0], [8]), (9, [10, 0], [16]), (20, [0], [60, 2, 3, 670, 0, 1, 14, 7, 8]), (20, [0, 15], [60, 0, 1, 738, 16]), (20, [0], [60, 2, 2, 596, 0, 1, 7, 8]), (102, [16], [2305843009213693952]), (101, [0, 16], [18]), (101, [0, 15], [17]), (1, [15, 11, 14], []), (7, [11, 13], [1]), (102, [11], [381944245562716141175333566576758405197150323812363046994276334253946495506784008380874752, 3000, 3001]), (102, [11], [2305843009213693952]), (101, [0, 10], [16])], [], [], [(20, [0], [50, 2, 0, 17, 18, 0, 8, 4, 3, 2, 0, 17, 2, 0, 18, 0, 30]), (20, [0], [60, 2, 1, 739, 17, 18, 16])], [], [(15, 11, 1, 1)])
theorem oo_Gr_alter_at_kx_23 {kA : Nat → ClassId} : or_ok PRD kA GG o_Gr_alter_at_kx_23 := by
  refine or_mk fun A ta ws vs hD hth hl => ?_
  intro t0 r0 t7 r7 t8 r8 t10 r10 t11 k11 t13 k13 t14 k14 t15 k15 t16 k16 d0 f0 f1 f2 f3 f4 f5 f6 f7 ta1 w1 le1 s1 ta2 w2 le2 s2 ta3 w3 le3 s3 f11 f12 ta4 w4 le4 s4 ta5 w5 le5 s5 ta6 w6 le6 s6
  replace f0 := shm_785 f0
  replace f1 := shm_781 f1
  have g0 : v_iv (n_v vs 16) = w_fi ws (n_v vs 0) 18 := congrArg v_iv f0
  have g1 : v_iv (n_v vs 15) = w_fi ws (n_v vs 0) 17 := congrArg v_iv f1
  have kz_0_17 := fdq_282 hD hth r0
  have kz_0_18 := fdq_283 hD hth r0
  have nf0 : fc_1 PRD (20, [0], [50, 2, 0, 17, 18, 0, 8, 4, 3, 2, 0, 17, 2, 0, 18, 0, 30]) ws (vs) := ⟨nf_in hl rfl, sgq_1462 (vc_Gr_alter_at_kx_23_0 (v_iv (n_v vs 11)) (v_iv (n_v vs 15)) (v_iv (n_v vs 16)) (w_fi ws (n_v vs 0) 18) (w_fi ws (n_v vs 0) 17) k11 k15 k16 d0 g0 g1 kz_0_17 kz_0_18)⟩
  have nf1 : fc_1 PRD (20, [0], [60, 2, 1, 739, 17, 18, 16]) ws (vs) := ⟨nf_in hl rfl, sgq_1327 (vc_Gr_alter_at_kx_23_1 (v_iv (n_v vs 15)) (v_iv (n_v vs 16)) (w_fi ws (n_v vs 0) 18) (w_fi ws (n_v vs 0) 17) (w_ei ws (w_ar ws (n_v vs 0) 16)) k15 k16 g0 g1 (shm_826 f6) kz_0_17 kz_0_18)⟩
  refine ⟨(fun _ h => (by cases h)), [], trivial, ?_, (fun _ h => (by cases h))⟩
  rw [List.append_nil]
  exact List.forall_mem_cons.mpr ⟨⟨show (20 : Nat) < 100 from by decide, nf0⟩, List.forall_mem_cons.mpr ⟨⟨show (20 : Nat) < 100 from by decide, nf1⟩, (fun _ h => (by cases h))⟩⟩
set_option maxHeartbeats 4000000 in
theorem vc_Gr_alter_at_kx_24_0 (x14 : Int) (x16 : Int) (k14 : 122 ≤ x14 ∧ x14 ≤ 122) (k16 : 3660 ≤ x16 ∧ x16 ≤ 3660) : x14 + x16 ≤ 3782 := by
  first
    | omega
  
set_option maxHeartbeats 4000000 in
theorem vc_Gr_alter_at_kx_24_1 (x15 : Int) (x16 : Int) (k15 : 0 ≤ x15 ∧ x15 ≤ 0) (k16 : 3660 ≤ x16 ∧ x16 ≤ 3660) : x15 + x16 ≤ 3782 := by
  first
    | omega
  
set_option maxHeartbeats 4000000 in
theorem vc_Gr_alter_at_kx_24_2 (x11 : Int) (x14 : Int) (x15 : Int) (x16 : Int) (a10_0 : Int → Int) (k11 : 30 ≤ x11 ∧ x11 ≤ 30) (k14 : 122 ≤ x14 ∧ x14 ≤ 122) (k15 : 0 ≤ x15 ∧ x15 ≤ 0) (k16 : 3660 ≤ x16 ∧ x16 ≤ 3660) (f4 : PNI (a10_0) (x11)) : MV1 (a10_0) (a10_0) (x14) (x15) (x16) := by
  first
    | exact ⟨by omega, by omega, by omega, fun r a b => (‹PNI _ _›) r a (by omega)⟩
  
def o_Gr_alter_at_kx_24 : or_T := (56, 17, [(0, (2, 0, 0, [3])), (7, (2, 0, 0, [52])), (8, (2, 0, 0, [53])), (10, (2, 0, 0, [61])), (11, (0, 30, 30, [])), (13, (0, 30, 30, [])), (14, (0, 122, 122, [])), (15, (0, 0, 0, [])), (16, (0, 3660, 3660, []))], [(9, [7, 0], [7]), (9, [8, 0], [8]), (7, [11, 13], [0]), (9, [11, 0], [17]), (20, [10, 11], [61, 1, 762]), (20, [0], [50, 2, 0, 17, 18, 0, 8, 4, 3, 2, 0, 17, 2, 0, 18, 0, 30]), (20, [0], [60, 2, 3, 670, 0, 1, 14, 7, 8]), (20, [0], [60, 2, 2, 596, 0, 1, 7, 8])], [], [], [(21, [14, 16], [3782]), (21, [15, 16], [3782]), (20, [10, 10, 14, 15, 16], [61, 2, 763])], [], [])
theorem oo_Gr_alter_at_kx_24 {kA : Nat → ClassId} : or_ok PRD kA GG o_Gr_alter_at_kx_24 := by
  refine or_mk fun A ta ws vs hD hth hl => ?_
  intro t0 r0 t7 r7 t8 r8 t10 r10 t11 k11 t13 k13 t14 k14 t15 k15 t16 k16 f0 f1 f2 f3 f4 f5 f6 f7
  have nf0 : fc_1 PRD (21, [14, 16], [3782]) ws (vs) := ⟨nf_in hl rfl, sgq_1744 (vc_Gr_alter_at_kx_24_0 (v_iv (n_v vs 14)) (v_iv (n_v vs 16)) k14 k16)⟩
  have nf1 : fc_1 PRD (21, [15, 16], [3782]) ws (vs) := ⟨nf_in hl rfl, sgq_1744 (vc_Gr_alter_at_kx_24_1 (v_iv (n_v vs 15)) (v_iv (n_v vs 16)) k15 k16)⟩
  have nf2 : fc_1 PRD (20, [10, 10, 14, 15, 16], [61, 2, 763]) ws (vs) := ⟨nf_in hl rfl, sgq_1745 (vc_Gr_alter_at_kx_24_2 (v_iv (n_v vs 11)) (v_iv (n_v vs 14)) (v_iv (n_v vs 15)) (v_iv (n_v vs 16)) (w_ei ws (v_ad (n_v vs 10))) k11 k14 k15 k16 (shm_1743 f4))⟩
  refine ⟨(fun _ h => (by cases h)), [], trivial, ?_, (fun _ h => (by cases h))⟩
  rw [List.append_nil]
  exact List.forall_mem_cons.mpr ⟨⟨show (21 : Nat) < 100 from by decide, nf0⟩, List.forall_mem_cons.mpr ⟨⟨show (21 : Nat) < 100 from by decide, nf1⟩, List.forall_mem_cons.mpr ⟨⟨show (20 : Nat) < 100 from by decide, nf2⟩, (fun _ h => (by cases h))⟩⟩⟩
set_option maxHeartbeats 4000000 in
theorem vc_Gr_alter_at_kx_25_0 (x11 : Int) (x14 : Int) (x15 : Int) (x16 : Int) (done_0 : Int) (near_0 : Int → Int) (tail_0 : Int → Int) (head_0 : Int → Int) (nodes_0 : Int) (edges_0 : Int) (past_0 : Int → Int) (done_1 : Int) (near_1 : Int → Int) (tail_1 : Int → Int) (head_1 : Int → Int) (nodes_1 : Int) (edges_1 : Int) (past_1 : Int → Int) (k11 : 30 ≤ x11 ∧ x11 ≤ 30) (k14 : 122 ≤ x14 ∧ x14 ≤ 122) (k15 : 0 ≤ x15 ∧ x15 ≤ 0) (k16 : 3660 ≤ x16 ∧ x16 ≤ 3660) (f16 : MV2 (past_1) (past_1) (x14) (x15) (x16)) (fe_0_0_1 : nodes_0 = nodes_1) (fe_0_1_1 : edges_0 = edges_1) (fe_0_17_1 : done_0 = done_1) (hE_0_7_1 : ∀ j : Int, tail_0 j = tail_1 j) (hE_0_8_1 : ∀ j : Int, head_0 j = head_1 j) (hE_0_14_1 : ∀ j : Int, near_0 j = near_1 j) (hE_0_16_1 : ∀ j : Int, past_0 j = past_1 j) (kz_0_0 : 0 ≤ nodes_0 ∧ nodes_0 ≤ 24) (kz_0_1 : 0 ≤ edges_0 ∧ edges_0 ≤ 48) (kz_0_17 : 0 ≤ done_0 ∧ done_0 ≤ 30) : PRO (past_0) (x11) := by
  subst fe_0_0_1
  subst fe_0_1_1
  subst fe_0_17_1
  have e_hE_0_7_1 := funext hE_0_7_1; subst e_hE_0_7_1
  have e_hE_0_8_1 := funext hE_0_8_1; subst e_hE_0_8_1
  have e_hE_0_14_1 := funext hE_0_14_1; subst e_hE_0_14_1
  have e_hE_0_16_1 := funext hE_0_16_1; subst e_hE_0_16_1
  first
    | exact pro_pdq ‹PDQ _ _ _› (by omega) (by omega)
    | exact pri_pro ‹PNI _ _› (by omega)
    | (have q := (‹MV2 _ _ _ _ _›); exact fun r a b => q r a (by omega))
    | exact pro_zero (by omega) (fun j a b => by have q := hT10 j a (by omega); omega)
  
def o_Gr_alter_at_kx_25 : or_T := (82, 18, [(0, (2, 0, 0, [3])), (7, (2, 0, 0, [52])), (8, (2, 0, 0, [53])), (10, (2, 0, 0, [61])), (11, (0, 30, 30, [])), (13, (0, 30, 30, [])), (14, (0, 122, 122, [])), (15, (0, 0, 0, [])), (16, (0, 3660, 3660, [])), (17, (0, 0, 0, []))], [(9, [17, 0], [18]), (9, [7, 0], [7]), (9, [8, 0], [8]), (9, [10, 0], [16]), (9, [11, 0], [17]), (21, [14, 16], [3782]), (21, [15, 16], [3782]), (20, [0], [60, 2, 3, 670, 0, 1, 14, 7, 8]), (20, [0], [60, 2, 2, 596, 0, 1, 7, 8]), (20, [10, 10, 14, 15, 16], [61, 2, 764]), (101, [0, 17], [18]), (21, [14, 16], [3782]), (21, [15, 16], [3782]), (20, [0], [50, 2, 0, 17, 18, 0, 8, 4, 3, 2, 0, 17, 2, 0, 18, 0, 30]), (20, [0], [60, 2, 3, 670, 0, 1, 14, 7, 8]), (20, [0], [60, 2, 2, 596, 0, 1, 7, 8]), (20, [10, 10, 14, 15, 16], [61, 2, 764]), (102, [16], [2305843009213693952]), (21, [14, 16], [3782]), (21, [15, 16], [3782]), (7, [11, 13], [0]), (102, [11], [381944245562716141175333566576758405197150323812363046994276334253946495506784008380874752, 3000, 3001]), (102, [11], [2305843009213693952]), (101, [0, 10], [16])], [], [], [(20, [0, 11], [60, 0, 1, 737, 16])], [], [])
theorem oo_Gr_alter_at_kx_25 {kA : Nat → ClassId} : or_ok PRD kA GG o_Gr_alter_at_kx_25 := by
  refine or_mk fun A ta ws vs hD hth hl => ?_
  intro t0 r0 t7 r7 t8 r8 t10 r10 t11 k11 t13 k13 t14 k14 t15 k15 t16 k16 t17 k17 f0 f1 f2 f3 f4 f5 f6 f7 f8 f9 ta1 w1 le1 s1 f11 f12 f13 f14 f15 f16 ta2 w2 le2 s2 f18 f19 f20 ta3 w3 le3 s3 ta4 w4 le4 s4 ta5 w5 le5 s5
  replace f3 := shm_188 f3
  have s1 : (∀ b j, w_el ws b j = w_el w1 b j) ∧ ∀ b j, w_fd ws b j = if b = v_ad (n_v vs 0) ∧ j = 18 then n_v vs 17 else w_fd w1 b j := s1.2
  replace f16 := shm_1746 f16
  have ar_0_7_1 : w_ar w1 (n_v vs 0) 7 = w_ar ws (n_v vs 0) 7 := by show v_ad (w_fd w1 _ _) = v_ad (w_fd ws _ _); rw [s1.2, if_neg (fun e => absurd e.2 (by decide))]
  have ar_0_8_1 : w_ar w1 (n_v vs 0) 8 = w_ar ws (n_v vs 0) 8 := by show v_ad (w_fd w1 _ _) = v_ad (w_fd ws _ _); rw [s1.2, if_neg (fun e => absurd e.2 (by decide))]
  have ar_0_14_1 : w_ar w1 (n_v vs 0) 14 = w_ar ws (n_v vs 0) 14 := by show v_ad (w_fd w1 _ _) = v_ad (w_fd ws _ _); rw [s1.2, if_neg (fun e => absurd e.2 (by decide))]
  have ad_10 : v_ad (n_v vs 10) = w_ar ws (n_v vs 0) 16 := congrArg v_ad f3
  simp only [ad_10, ar_0_7_1, ar_0_8_1, ar_0_14_1] at f16
  have fe_0_0_1 : w_fi ws (n_v vs 0) 0 = w_fi w1 (n_v vs 0) 0 := by show v_iv (w_fd _ _ _) = v_iv (w_fd _ _ _); rw [s1.2, if_neg (fun e => absurd e.2 (by decide))]
  have fe_0_1_1 : w_fi ws (n_v vs 0) 1 = w_fi w1 (n_v vs 0) 1 := by show v_iv (w_fd _ _ _) = v_iv (w_fd _ _ _); rw [s1.2, if_neg (fun e => absurd e.2 (by decide))]
  have fe_0_17_1 : w_fi ws (n_v vs 0) 17 = w_fi w1 (n_v vs 0) 17 := by show v_iv (w_fd _ _ _) = v_iv (w_fd _ _ _); rw [s1.2, if_neg (fun e => absurd e.2 (by decide))]
  have hE_0_7_1 : ∀ j : Int, w_ei ws (w_ar ws (n_v vs 0) 7) j = w_ei w1 (w_ar ws (n_v vs 0) 7) j := fun j => s1.1 _ _
  have hE_0_8_1 : ∀ j : Int, w_ei ws (w_ar ws (n_v vs 0) 8) j = w_ei w1 (w_ar ws (n_v vs 0) 8) j := fun j => s1.1 _ _
  have hE_0_14_1 : ∀ j : Int, w_ei ws (w_ar ws (n_v vs 0) 14) j = w_ei w1 (w_ar ws (n_v vs 0) 14) j := fun j => s1.1 _ _
  have hE_0_16_1 : ∀ j : Int, w_ei ws (w_ar ws (n_v vs 0) 16) j = w_ei w1 (w_ar ws (n_v vs 0) 16) j := fun j => s1.1 _ _
  have kz_0_0 := fdq_23 hD hth r0
  have kz_0_1 := fdq_38 hD hth r0
  have kz_0_17 := fdq_282 hD hth r0
  have nf0 : fc_1 PRD (20, [0, 11], [60, 0, 1, 737, 16]) ws (vs) := ⟨nf_in hl rfl, sgq_821 (vc_Gr_alter_at_kx_25_0 (v_iv (n_v vs 11)) (v_iv (n_v vs 14)) (v_iv (n_v vs 15)) (v_iv (n_v vs 16)) (w_fi ws (n_v vs 0) 17) (w_ei ws (w_ar ws (n_v vs 0) 14)) (w_ei ws (w_ar ws (n_v vs 0) 7)) (w_ei ws (w_ar ws (n_v vs 0) 8)) (w_fi ws (n_v vs 0) 0) (w_fi ws (n_v vs 0) 1) (w_ei ws (w_ar ws (n_v vs 0) 16)) (w_fi w1 (n_v vs 0) 17) (w_ei w1 (w_ar ws (n_v vs 0) 14)) (w_ei w1 (w_ar ws (n_v vs 0) 7)) (w_ei w1 (w_ar ws (n_v vs 0) 8)) (w_fi w1 (n_v vs 0) 0) (w_fi w1 (n_v vs 0) 1) (w_ei w1 (w_ar ws (n_v vs 0) 16)) k11 k14 k15 k16 f16 fe_0_0_1 fe_0_1_1 fe_0_17_1 hE_0_7_1 hE_0_8_1 hE_0_14_1 hE_0_16_1 kz_0_0 kz_0_1 kz_0_17)⟩
  refine ⟨(fun _ h => (by cases h)), [], trivial, ?_, (fun _ h => (by cases h))⟩
  rw [List.append_nil]
  exact List.forall_mem_cons.mpr ⟨⟨show (20 : Nat) < 100 from by decide, nf0⟩, (fun _ h => (by cases h))⟩
set_option maxHeartbeats 4000000 in
theorem vc_Gr_alter_at_kx_26_0 (x11 : Int) (x17 : Int) (undone_0 : Int) (done_0 : Int) (k11 : 30 ≤ x11 ∧ x11 ≤ 30) (k17 : 0 ≤ x17 ∧ x17 ≤ 0) (g0 : x17 = undone_0) (g3 : x11 = done_0) (kz_0_17 : 0 ≤ done_0 ∧ done_0 ≤ 30) (kz_0_18 : 0 ≤ undone_0 ∧ undone_0 ≤ 30) : (done_0 + undone_0) ≤ 30 := by
  first
    | omega
  
set_option maxHeartbeats 4000000 in
theorem vc_Gr_alter_at_kx_26_1 (x11 : Int) (x17 : Int) (undone_0 : Int) (done_0 : Int) (past_0 : Int → Int) (k11 : 30 ≤ x11 ∧ x11 ≤ 30) (k17 : 0 ≤ x17 ∧ x17 ≤ 0) (g0 : x17 = undone_0) (g3 : x11 = done_0) (f6 : PRI (past_0) (x11)) (kz_0_17 : 0 ≤ done_0 ∧ done_0 ≤ 30) (kz_0_18 : 0 ≤ undone_0 ∧ undone_0 ≤ 30) : PDQ (done_0) (undone_0) (past_0) := by
  first
    | assumption
    | exact pri_pdq ‹PRI _ _› (by omega) (by omega)
  
def o_Gr_alter_at_kx_26 : or_T := (87, 18, [(0, (2, 0, 0, [3])), (7, (2, 0, 0, [52])), (8, (2, 0, 0, [53])), (10, (2, 0, 0, [61])), (11, (0, 30, 30, [])), (13, (0, 30, 30, [])), (17, (0, 0, 0, []))], [(9, [17, 0], [18]), (9, [7, 0], [7]), (9, [8, 0], [8]), (9, [11, 0], [17]), (9, [10, 0], [16]), (20, [0], [60, 2, 3, 670, 0, 1, 14, 7, 8]), (20, [0, 11], [60, 0, 1, 738, 16]), (20, [0], [60, 2, 2, 596, 0, 1, 7, 8]), (102, [17], [2305843009213693952]), (101, [0, 17], [18]), (102, [16], [2305843009213693952]), (7, [11, 13], [0]), (102, [11], [381944245562716141175333566576758405197150323812363046994276334253946495506784008380874752, 3000, 3001]), (102, [11], [2305843009213693952]), (101, [0, 10], [16])], [], [], [(20, [0], [50, 2, 0, 17, 18, 0, 8, 4, 3, 2, 0, 17, 2, 0, 18, 0, 30]), (20, [0], [60, 2, 1, 739, 17, 18, 16])], [], [])
theorem oo_Gr_alter_at_kx_26 {kA : Nat → ClassId} : or_ok PRD kA GG o_Gr_alter_at_kx_26 := by
  refine or_mk fun A ta ws vs hD hth hl => ?_
  intro t0 r0 t7 r7 t8 r8 t10 r10 t11 k11 t13 k13 t17 k17 f0 f1 f2 f3 f4 f5 f6 f7 ta1 w1 le1 s1 ta2 w2 le2 s2 ta3 w3 le3 s3 f11 ta4 w4 le4 s4 ta5 w5 le5 s5 ta6 w6 le6 s6
  replace f0 := shm_785 f0
  replace f3 := shm_781 f3
  have g0 : v_iv (n_v vs 17) = w_fi ws (n_v vs 0) 18 := congrArg v_iv f0
  have g3 : v_iv (n_v vs 11) = w_fi ws (n_v vs 0) 17 := congrArg v_iv f3
  have kz_0_17 := fdq_282 hD hth r0
  have kz_0_18 := fdq_283 hD hth r0
  have nf0 : fc_1 PRD (20, [0], [50, 2, 0, 17, 18, 0, 8, 4, 3, 2, 0, 17, 2, 0, 18, 0, 30]) ws (vs) := ⟨nf_in hl rfl, sgq_1462 (vc_Gr_alter_at_kx_26_0 (v_iv (n_v vs 11)) (v_iv (n_v vs 17)) (w_fi ws (n_v vs 0) 18) (w_fi ws (n_v vs 0) 17) k11 k17 g0 g3 kz_0_17 kz_0_18)⟩
  have nf1 : fc_1 PRD (20, [0], [60, 2, 1, 739, 17, 18, 16]) ws (vs) := ⟨nf_in hl rfl, sgq_1327 (vc_Gr_alter_at_kx_26_1 (v_iv (n_v vs 11)) (v_iv (n_v vs 17)) (w_fi ws (n_v vs 0) 18) (w_fi ws (n_v vs 0) 17) (w_ei ws (w_ar ws (n_v vs 0) 16)) k11 k17 g0 g3 (shm_826 f6) kz_0_17 kz_0_18)⟩
  refine ⟨(fun _ h => (by cases h)), [], trivial, ?_, (fun _ h => (by cases h))⟩
  rw [List.append_nil]
  exact List.forall_mem_cons.mpr ⟨⟨show (20 : Nat) < 100 from by decide, nf0⟩, List.forall_mem_cons.mpr ⟨⟨show (20 : Nat) < 100 from by decide, nf1⟩, (fun _ h => (by cases h))⟩⟩
set_option maxHeartbeats 4000000 in
theorem vc_Gr_alter_at_kx_27_0 (x9 : Int) (done_0 : Int) (undone_0 : Int) (past_0 : Int → Int) (k9 : 0 ≤ x9 ∧ x9 ≤ 30) (g4 : x9 = done_0) (f8 : PDQ (done_0) (undone_0) (past_0)) (kz_0_17 : 0 ≤ done_0 ∧ done_0 ≤ 30) (kz_0_18 : 0 ≤ undone_0 ∧ undone_0 ≤ 30) : PRO (past_0) (x9) := by
  first
    | exact pro_pdq ‹PDQ _ _ _› (by omega) (by omega)
    | exact pri_pro ‹PNI _ _› (by omega)
    | (have q := (‹MV2 _ _ _ _ _›); exact fun r a b => q r a (by omega))
    | exact pro_zero (by omega) (fun j a b => by have q := hT10 j a (by omega); omega)
  
def o_Gr_alter_at_kx_27 : or_T := (21, 10, [(0, (2, 0, 0, [3])), (9, (0, 0, 30, []))], [(9, [9, 0], [17]), (20, [0], [60, 2, 1, 739, 17, 18, 16])], [], [], [(20, [0, 9], [60, 0, 1, 737, 16])], [], [])
theorem oo_Gr_alter_at_kx_27 {kA : Nat → ClassId} : or_ok PRD kA GG o_Gr_alter_at_kx_27 := by
  refine or_mk fun A ta ws vs hD hth hl => ?_
  intro t0 r0 t9 k9 f4 f8
  replace f4 := shm_781 f4
  have g4 : v_iv (n_v vs 9) = w_fi ws (n_v vs 0) 17 := congrArg v_iv f4
  have kz_0_17 := fdq_282 hD hth r0
  have kz_0_18 := fdq_283 hD hth r0
  have nf0 : fc_1 PRD (20, [0, 9], [60, 0, 1, 737, 16]) ws (vs) := ⟨nf_in hl rfl, sgq_821 (vc_Gr_alter_at_kx_27_0 (v_iv (n_v vs 9)) (w_fi ws (n_v vs 0) 17) (w_fi ws (n_v vs 0) 18) (w_ei ws (w_ar ws (n_v vs 0) 16)) k9 g4 (shm_1327 f8) kz_0_17 kz_0_18)⟩
  refine ⟨(fun _ h => (by cases h)), [], trivial, ?_, (fun _ h => (by cases h))⟩
  rw [List.append_nil]
  exact List.forall_mem_cons.mpr ⟨⟨show (20 : Nat) < 100 from by decide, nf0⟩, (fun _ h => (by cases h))⟩
set_option maxHeartbeats 4000000 in
theorem vc_Gr_alter_at_kx_28_0 (x9 : Int) (past_0 : Int → Int) (k9 : 0 ≤ x9 ∧ x9 ≤ 30) (f9 : PRI (past_0) (x9)) : PNI (past_0) (x9) := by
  first
    | exact ‹PRI _ _›
  
def o_Gr_alter_at_kx_28 : or_T := (28, 10, [(9, (0, 0, 30, []))], [(9, [4, 0], [16]), (20, [0, 9], [60, 0, 1, 738, 16])], [], [], [(20, [4, 9], [61, 1, 762])], [], [])
theorem oo_Gr_alter_at_kx_28 {kA : Nat → ClassId} : or_ok PRD kA GG o_Gr_alter_at_kx_28 := by
  refine or_mk fun A ta ws vs hD hth hl => ?_
  intro t9 k9 f1 f9
  replace f1 := shm_188 f1
  replace f9 := shm_826 f9
  have ad_4 : v_ad (n_v vs 4) = w_ar ws (n_v vs 0) 16 := congrArg v_ad f1
  have nf0 : fc_1 PRD (20, [4, 9], [61, 1, 762]) ws (vs) := by
    refine ⟨nf_in hl rfl, sgq_1743 ?_⟩
    · show PNI (w_ei ws (v_ad (n_v vs 4))) (v_iv (n_v vs 9))
      rw [ad_4]
      exact vc_Gr_alter_at_kx_28_0 (v_iv (n_v vs 9)) (w_ei ws (w_ar ws (n_v vs 0) 16)) k9 f9
  refine ⟨(fun _ h => (by cases h)), [], trivial, ?_, (fun _ h => (by cases h))⟩
  rw [List.append_nil]
  exact List.forall_mem_cons.mpr ⟨⟨show (20 : Nat) < 100 from by decide, nf0⟩, (fun _ h => (by cases h))⟩
set_option maxHeartbeats 4000000 in
theorem vc_Gr_alter_at_kx_29_0 (x9 : Int) (x13 : Int) (nodes_0 : Int) (edges_0 : Int) (done_0 : Int) (past_0 : Int → Int) (near_0 : Int → Int) (tail_0 : Int → Int) (head_0 : Int → Int) (past_1 : Int → Int) (near_1 : Int → Int) (tail_1 : Int → Int) (head_1 : Int → Int) (nodes_1 : Int) (edges_1 : Int) (past_2 : Int → Int) (undone_2 : Int) (near_2 : Int → Int) (tail_2 : Int → Int) (head_2 : Int → Int) (nodes_2 : Int) (edges_2 : Int) (done_1 : Int) (undone_1 : Int) (k9 : 0 ≤ x9 ∧ x9 ≤ 29) (k13 : 1 ≤ x13 ∧ x13 ≤ 30) (d0 : x9 + 1 ≤ x13 ∧ x13 ≤ x9 + 1) (f18 : PNI (past_2) (x9)) (fe_0_0_1 : nodes_0 = nodes_1) (fe_0_1_1 : edges_0 = edges_1) (fe_0_17_1 : done_0 = done_1) (fe_0_0_2 : nodes_1 = nodes_2) (fe_0_1_2 : edges_1 = edges_2) (fe_0_18_2 : undone_1 = undone_2) (hE_0_7_1 : ∀ j : Int, tail_0 j = tail_1 j) (hE_0_7_2 : ∀ j : Int, tail_1 j = tail_2 j) (hE_0_8_1 : ∀ j : Int, head_0 j = head_1 j) (hE_0_8_2 : ∀ j : Int, head_1 j = head_2 j) (hE_0_14_1 : ∀ j : Int, near_0 j = near_1 j) (hE_0_14_2 : ∀ j : Int, near_1 j = near_2 j) (hE_0_16_1 : ∀ j : Int, past_0 j = past_1 j) (hE_0_16_2 : ∀ j : Int, past_1 j = past_2 j) (kz_0_0 : 0 ≤ nodes_0 ∧ nodes_0 ≤ 24) (kz_0_1 : 0 ≤ edges_0 ∧ edges_0 ≤ 48) (kz_0_17 : 0 ≤ done_0 ∧ done_0 ≤ 30) : PRO (past_0) (x13) := by
  subst fe_0_0_1
  subst fe_0_1_1
  subst fe_0_17_1
  subst fe_0_0_2
  subst fe_0_1_2
  subst fe_0_18_2
  have e_hE_0_7_1 := funext hE_0_7_1; subst e_hE_0_7_1
  have e_hE_0_7_2 := funext hE_0_7_2; subst e_hE_0_7_2
  have e_hE_0_8_1 := funext hE_0_8_1; subst e_hE_0_8_1
  have e_hE_0_8_2 := funext hE_0_8_2; subst e_hE_0_8_2
  have e_hE_0_14_1 := funext hE_0_14_1; subst e_hE_0_14_1
  have e_hE_0_14_2 := funext hE_0_14_2; subst e_hE_0_14_2
  have e_hE_0_16_1 := funext hE_0_16_1; subst e_hE_0_16_1
  have e_hE_0_16_2 := funext hE_0_16_2; subst e_hE_0_16_2
  first
    | exact pro_pdq ‹PDQ _ _ _› (by omega) (by omega)
    | exact pri_pro ‹PNI _ _› (by omega)
    | (have q := (‹MV2 _ _ _ _ _›); exact fun r a b => q r a (by omega))
    | exact pro_zero (by omega) (fun j a b => by have q := hT10 j a (by omega); omega)
  
def o_Gr_alter_at_kx_29 : or_T := (82, 15, [(0, (2, 0, 0, [3])), (4, (2, 0, 0, [61])), (5, (0, 0, 24, [])), (6, (0, 0, 48, [])), (7, (2, 0, 0, [52])), (8, (2, 0, 0, [53])), (9, (0, 0, 29, [])), (11, (0, 30, 30, [])), (12, (0, 1, 1, [])), (13, (0, 1, 30, [])), (14, (0, 0, 0, []))], [(9, [14, 0], [18]), (9, [5, 0], [0]), (9, [6, 0], [1]), (9, [7, 0], [7]), (9, [8, 0], [8]), (9, [4, 0], [16]), (9, [13, 0], [17]), (20, [4, 9], [61, 1, 762]), (20, [0], [60, 2, 3, 670, 0, 1, 14, 7, 8]), (20, [0], [60, 2, 2, 596, 0, 1, 7, 8]), (101, [0, 14], [18]), (20, [4, 9], [61, 1, 762]), (20, [0], [60, 2, 3, 670, 0, 1, 14, 7, 8]), (20, [0], [60, 2, 2, 596, 0, 1, 7, 8]), (101, [0, 13], [17]), (1, [13, 9, 12], []), (9, [9, 0], [17]), (7, [9, 11], [1]), (20, [4, 9], [61, 1, 762]), (20, [0], [50, 2, 0, 17, 18, 0, 8, 4, 3, 2, 0, 17, 2, 0, 18, 0, 30]), (20, [0], [60, 2, 3, 670, 0, 1, 14, 7, 8]), (20, [0], [60, 2, 2, 596, 0, 1, 7, 8])], [], [], [(20, [0, 13], [60, 0, 1, 737, 16])], [], [(13, 9, 1, 1)])
theorem oo_Gr_alter_at_kx_29 {kA : Nat → ClassId} : or_ok PRD kA GG o_Gr_alter_at_kx_29 := by
  refine or_mk fun A ta ws vs hD hth hl => ?_
  intro t0 r0 t4 r4 t5 k5 t6 k6 t7 r7 t8 r8 t9 k9 t11 k11 t12 k12 t13 k13 t14 k14 d0 f0 f1 f2 f3 f4 f5 f6 f7 f8 f9 ta1 w1 le1 s1 f11 f12 f13 ta2 w2 le2 s2 f15 f16 f17 f18 f19 f20 f21
  replace f5 := shm_188 f5
  have s1 : (∀ b j, w_el ws b j = w_el w1 b j) ∧ ∀ b j, w_fd ws b j = if b = v_ad (n_v vs 0) ∧ j = 18 then n_v vs 14 else w_fd w1 b j := s1.2
  have s2 : (∀ b j, w_el w1 b j = w_el w2 b j) ∧ ∀ b j, w_fd w1 b j = if b = v_ad (n_v vs 0) ∧ j = 17 then n_v vs 13 else w_fd w2 b j := s2.2
  replace f18 := shm_1743 f18
  have ar_0_7_1 : w_ar w1 (n_v vs 0) 7 = w_ar ws (n_v vs 0) 7 := by show v_ad (w_fd w1 _ _) = v_ad (w_fd ws _ _); rw [s1.2, if_neg (fun e => absurd e.2 (by decide))]
  have ar_0_7_2 : w_ar w2 (n_v vs 0) 7 = w_ar ws (n_v vs 0) 7 := by rw [← ar_0_7_1]; show v_ad (w_fd w2 _ _) = v_ad (w_fd w1 _ _); rw [s2.2, if_neg (fun e => absurd e.2 (by decide))]
  have ar_0_8_1 : w_ar w1 (n_v vs 0) 8 = w_ar ws (n_v vs 0) 8 := by show v_ad (w_fd w1 _ _) = v_ad (w_fd ws _ _); rw [s1.2, if_neg (fun e => absurd e.2 (by decide))]
  have ar_0_8_2 : w_ar w2 (n_v vs 0) 8 = w_ar ws (n_v vs 0) 8 := by rw [← ar_0_8_1]; show v_ad (w_fd w2 _ _) = v_ad (w_fd w1 _ _); rw [s2.2, if_neg (fun e => absurd e.2 (by decide))]
  have ar_0_14_1 : w_ar w1 (n_v vs 0) 14 = w_ar ws (n_v vs 0) 14 := by show v_ad (w_fd w1 _ _) = v_ad (w_fd ws _ _); rw [s1.2, if_neg (fun e => absurd e.2 (by decide))]
  have ar_0_14_2 : w_ar w2 (n_v vs 0) 14 = w_ar ws (n_v vs 0) 14 := by rw [← ar_0_14_1]; show v_ad (w_fd w2 _ _) = v_ad (w_fd w1 _ _); rw [s2.2, if_neg (fun e => absurd e.2 (by decide))]
  have ad_4 : v_ad (n_v vs 4) = w_ar ws (n_v vs 0) 16 := congrArg v_ad f5
  simp only [ad_4, ar_0_7_2, ar_0_8_2, ar_0_14_2] at f18
  have fe_0_0_1 : w_fi ws (n_v vs 0) 0 = w_fi w1 (n_v vs 0) 0 := by show v_iv (w_fd _ _ _) = v_iv (w_fd _ _ _); rw [s1.2, if_neg (fun e => absurd e.2 (by decide))]
  have fe_0_1_1 : w_fi ws (n_v vs 0) 1 = w_fi w1 (n_v vs 0) 1 := by show v_iv (w_fd _ _ _) = v_iv (w_fd _ _ _); rw [s1.2, if_neg (fun e => absurd e.2 (by decide))]
  have fe_0_17_1 : w_fi ws (n_v vs 0) 17 = w_fi w1 (n_v vs 0) 17 := by show v_iv (w_fd _ _ _) = v_iv (w_fd _ _ _); rw [s1.2, if_neg (fun e => absurd e.2 (by decide))]
  have fe_0_0_2 : w_fi w1 (n_v vs 0) 0 = w_fi w2 (n_v vs 0) 0 := by show v_iv (w_fd _ _ _) = v_iv (w_fd _ _ _); rw [s2.2, if_neg (fun e => absurd e.2 (by decide))]
  have fe_0_1_2 : w_fi w1 (n_v vs 0) 1 = w_fi w2 (n_v vs 0) 1 := by show v_iv (w_fd _ _ _) = v_iv (w_fd _ _ _); rw [s2.2, if_neg (fun e => absurd e.2 (by decide))]
  have fe_0_18_2 : w_fi w1 (n_v vs 0) 18 = w_fi w2 (n_v vs 0) 18 := by show v_iv (w_fd _ _ _) = v_iv (w_fd _ _ _); rw [s2.2, if_neg (fun e => absurd e.2 (by decide))]
  have hE_0_7_1 : ∀ j : Int, w_ei ws (w_ar ws (n_v vs 0) 7) j = w_ei w1 (w_ar ws (n_v vs 0) 7) j := fun j => s1.1 _ _
  have hE_0_7_2 : ∀ j : Int, w_ei w1 (w_ar ws (n_v vs 0) 7) j = w_ei w2 (w_ar ws (n_v vs 0) 7) j := fun j => s2.1 _ _
  have hE_0_8_1 : ∀ j : Int, w_ei ws (w_ar ws (n_v vs 0) 8) j = w_ei w1 (w_ar ws (n_v vs 0) 8) j := fun j => s1.1 _ _
  have hE_0_8_2 : ∀ j : Int, w_ei w1 (w_ar ws (n_v vs 0) 8) j = w_ei w2 (w_ar ws (n_v vs 0) 8) j := fun j => s2.1 _ _
  have hE_0_14_1 : ∀ j : Int, w_ei ws (w_ar ws (n_v vs 0) 14) j = w_ei w1 (w_ar ws (n_v vs 0) 14) j := fun j => s1.1 _ _
  have hE_0_14_2 : ∀ j : Int, w_ei w1 (w_ar ws (n_v vs 0) 14) j = w_ei w2 (w_ar ws (n_v vs 0) 14) j := fun j => s2.1 _ _
  have hE_0_16_1 : ∀ j : Int, w_ei ws (w_ar ws (n_v vs 0) 16) j = w_ei w1 (w_ar ws (n_v vs 0) 16) j := fun j => s1.1 _ _
  have hE_0_16_2 : ∀ j : Int, w_ei w1 (w_ar ws (n_v vs 0) 16) j = w_ei w2 (w_ar ws (n_v vs 0) 16) j := fun j => s2.1 _ _
  have kz_0_0 := fdq_23 hD hth r0
  have kz_0_1 := fdq_38 hD hth r0
  have kz_0_17 := fdq_282 hD hth r0
  have nf0 : fc_1 PRD (20, [0, 13], [60, 0, 1, 737, 16]) ws (vs) := ⟨nf_in hl rfl, sgq_821 (vc_Gr_alter_at_kx_29_0 (v_iv (n_v vs 9)) (v_iv (n_v vs 13)) (w_fi ws (n_v vs 0) 0) (w_fi ws (n_v vs 0) 1) (w_fi ws (n_v vs 0) 17) (w_ei ws (w_ar ws (n_v vs 0) 16)) (w_ei ws (w_ar ws (n_v vs 0) 14)) (w_ei ws (w_ar ws (n_v vs 0) 7)) (w_ei ws (w_ar ws (n_v vs 0) 8)) (w_ei w1 (w_ar ws (n_v vs 0) 16)) (w_ei w1 (w_ar ws (n_v vs 0) 14)) (w_ei w1 (w_ar ws (n_v vs 0) 7)) (w_ei w1 (w_ar ws (n_v vs 0) 8)) (w_fi w1 (n_v vs 0) 0) (w_fi w1 (n_v vs 0) 1) (w_ei w2 (w_ar ws (n_v vs 0) 16)) (w_fi w2 (n_v vs 0) 18) (w_ei w2 (w_ar ws (n_v vs 0) 14)) (w_ei w2 (w_ar ws (n_v vs 0) 7)) (w_ei w2 (w_ar ws (n_v vs 0) 8)) (w_fi w2 (n_v vs 0) 0) (w_fi w2 (n_v vs 0) 1) (w_fi w1 (n_v vs 0) 17) (w_fi w1 (n_v vs 0) 18) k9 k13 d0 f18 fe_0_0_1 fe_0_1_1 fe_0_17_1 fe_0_0_2 fe_0_1_2 fe_0_18_2 hE_0_7_1 hE_0_7_2 hE_0_8_1 hE_0_8_2 hE_0_14_1 hE_0_14_2 hE_0_16_1 hE_0_16_2 kz_0_0 kz_0_1 kz_0_17)⟩
  refine ⟨(fun _ h => (by cases h)), [], trivial, ?_, (fun _ h => (by cases h))⟩
  rw [List.append_nil]
  exact List.forall_mem_cons.mpr ⟨⟨show (20 : Nat) < 100 from by decide, nf0⟩, (fun _ h => (by cases h))⟩
set_option maxHeartbeats 4000000 in
theorem vc_Gr_alter_at_kx_30_0 (x9 : Int) (x13 : Int) (x14 : Int) (undone_0 : Int) (done_0 : Int) (k9 : 0 ≤ x9 ∧ x9 ≤ 29) (k13 : 1 ≤ x13 ∧ x13 ≤ 30) (k14 : 0 ≤ x14 ∧ x14 ≤ 0) (d0 : x9 + 1 ≤ x13 ∧ x13 ≤ x9 + 1) (g0 : x14 = undone_0) (g1 : x13 = done_0) (kz_0_17 : 0 ≤ done_0 ∧ done_0 ≤ 30) (kz_0_18 : 0 ≤ undone_0 ∧ undone_0 ≤ 30) : (done_0 + undone_0) ≤ 30 := by
  first
    | omega
  
set_option maxHeartbeats 4000000 in
theorem vc_Gr_alter_at_kx_30_1 (x13 : Int) (x14 : Int) (undone_0 : Int) (done_0 : Int) (past_0 : Int → Int) (k13 : 1 ≤ x13 ∧ x13 ≤ 30) (k14 : 0 ≤ x14 ∧ x14 ≤ 0) (g0 : x14 = undone_0) (g1 : x13 = done_0) (f8 : PRI (past_0) (x13)) (kz_0_17 : 0 ≤ done_0 ∧ done_0 ≤ 30) (kz_0_18 : 0 ≤ undone_0 ∧ undone_0 ≤ 30) : PDQ (done_0) (undone_0) (past_0) := by
  first
    | assumption
    | exact pri_pdq ‹PRI _ _› (by omega) (by omega)
  
def o_Gr_alter_at_kx_30 : or_T := (87, 15, [(0, (2, 0, 0, [3])), (4, (2, 0, 0, [61])), (5, (0, 0, 24, [])), (6, (0, 0, 48, [])), (7, (2, 0, 0, [52])), (8, (2, 0, 0, [53])), (9, (0, 0, 29, [])), (11, (0, 30, 30, [])), (12, (0, 1, 1, [])), (13, (0, 1, 30, [])), (14, (0, 0, 0, []))], [(9, [14, 0], [18]), (9, [13, 0], [17]), (9, [5, 0], [0]), (9, [6, 0], [1]), (9, [7, 0], [7]), (9, [8, 0], [8]), (9, [4, 0], [16]), (20, [0], [60, 2, 3, 670, 0, 1, 14, 7, 8]), (20, [0, 13], [60, 0, 1, 738, 16]), (20, [0], [60, 2, 2, 596, 0, 1, 7, 8]), (102, [14], [2305843009213693952]), (101, [0, 14], [18]), (101, [0, 13], [17]), (1, [13, 9, 12], []), (7, [9, 11], [1])], [], [], [(20, [0], [50, 2, 0, 17, 18, 0, 8, 4, 3, 2, 0, 17, 2, 0, 18, 0, 30]), (20, [0], [60, 2, 1, 739, 17, 18, 16])], [], [(13, 9, 1, 1)])
theorem oo_Gr_alter_at_kx_30 {kA : Nat → ClassId} : or_ok PRD kA GG o_Gr_alter_at_kx_30 := by
  refine or_mk fun A ta ws vs hD hth hl => ?_
  intro t0 r0 t4 r4 t5 k5 t6 k6 t7 r7 t8 r8 t9 k9 t11 k11 t12 k12 t13 k13 t14 k14 d0 f0 f1 f2 f3 f4 f5 f6 f7 f8 f9 ta1 w1 le1 s1 ta2 w2 le2 s2 ta3 w3 le3 s3 f13 f14
  replace f0 := shm_785 f0
  replace f1 := shm_781 f1
  have g0 : v_iv (n_v vs 14) = w_fi ws (n_v vs 0) 18 := congrArg v_iv f0
  have g1 : v_iv (n_v vs 13) = w_fi ws (n_v vs 0) 17 := congrArg v_iv f1
  have kz_0_17 := fdq_282 hD hth r0
  have kz_0_18 := fdq_283 hD hth r0
  have nf0 : fc_1 PRD (20, [0], [50, 2, 0, 17, 18, 0, 8, 4, 3, 2, 0, 17, 2, 0, 18, 0, 30]) ws (vs) := ⟨nf_in hl rfl, sgq_1462 (vc_Gr_alter_at_kx_30_0 (v_iv (n_v vs 9)) (v_iv (n_v vs 13)) (v_iv (n_v vs 14)) (w_fi ws (n_v vs 0) 18) (w_fi ws (n_v vs 0) 17) k9 k13 k14 d0 g0 g1 kz_0_17 kz_0_18)⟩
  have nf1 : fc_1 PRD (20, [0], [60, 2, 1, 739, 17, 18, 16]) ws (vs) := ⟨nf_in hl rfl, sgq_1327 (vc_Gr_alter_at_kx_30_1 (v_iv (n_v vs 13)) (v_iv (n_v vs 14)) (w_fi ws (n_v vs 0) 18) (w_fi ws (n_v vs 0) 17) (w_ei ws (w_ar ws (n_v vs 0) 16)) k13 k14 g0 g1 (shm_826 f8) kz_0_17 kz_0_18)⟩
  refine ⟨(fun _ h => (by cases h)), [], trivial, ?_, (fun _ h => (by cases h))⟩
  rw [List.append_nil]
  exact List.forall_mem_cons.mpr ⟨⟨show (20 : Nat) < 100 from by decide, nf0⟩, List.forall_mem_cons.mpr ⟨⟨show (20 : Nat) < 100 from by decide, nf1⟩, (fun _ h => (by cases h))⟩⟩

set_option maxHeartbeats 4000000 in
theorem vc_Gr_alter_at_kx_31_0 (x12 : Int) (x14 : Int) (k12 : 122 ≤ x12 ∧ x12 ≤ 122) (k14 : 3660 ≤ x14 ∧ x14 ≤ 3660) : x12 + x14 ≤ 3782 := by
  first
    | omega
  
set_option maxHeartbeats 4000000 in
theorem vc_Gr_alter_at_kx_31_1 (x13 : Int) (x14 : Int) (k13 : 0 ≤ x13 ∧ x13 ≤ 0) (k14 : 3660 ≤ x14 ∧ x14 ≤ 3660) : x13 + x14 ≤ 3782 := by
  first
    | omega
  
set_option maxHeartbeats 4000000 in
theorem vc_Gr_alter_at_kx_31_2 (x9 : Int) (x12 : Int) (x13 : Int) (x14 : Int) (a4_0 : Int → Int) (k9 : 30 ≤ x9 ∧ x9 ≤ 30) (k12 : 122 ≤ x12 ∧ x12 ≤ 122) (k13 : 0 ≤ x13 ∧ x13 ≤ 0) (k14 : 3660 ≤ x14 ∧ x14 ≤ 3660) (f6 : PNI (a4_0) (x9)) : MV1 (a4_0) (a4_0) (x12) (x13) (x14) := by
  first
    | exact ⟨by omega, by omega, by omega, fun r a b => (‹PNI _ _›) r a (by omega)⟩
  
def o_Gr_alter_at_kx_31 : or_T := (56, 15, [(0, (2, 0, 0, [3])), (4, (2, 0, 0, [61])), (5, (0, 0, 24, [])), (6, (0, 0, 48, [])), (7, (2, 0, 0, [52])), (8, (2, 0, 0, [53])), (9, (0, 30, 30, [])), (11, (0, 30, 30, [])), (12, (0, 122, 122, [])), (13, (0, 0, 0, [])), (14, (0, 3660, 3660, []))], [(9, [5, 0], [0]), (9, [6, 0], [1]), (9, [7, 0], [7]), (9, [8, 0], [8]), (7, [9, 11], [0]), (9, [9, 0], [17]), (20, [4, 9], [61, 1, 762]), (20, [0], [50, 2, 0, 17, 18, 0, 8, 4, 3, 2, 0, 17, 2, 0, 18, 0, 30]), (20, [0], [60, 2, 3, 670, 0, 1, 14, 7, 8]), (20, [0], [60, 2, 2, 596, 0, 1, 7, 8])], [], [], [(21, [12, 14], [3782]), (21, [13, 14], [3782]), (20, [4, 4, 12, 13, 14], [61, 2, 763])], [], [])
theorem oo_Gr_alter_at_kx_31 {kA : Nat → ClassId} : or_ok PRD kA GG o_Gr_alter_at_kx_31 := by
  refine or_mk fun A ta ws vs hD hth hl => ?_
  intro t0 r0 t4 r4 t5 k5 t6 k6 t7 r7 t8 r8 t9 k9 t11 k11 t12 k12 t13 k13 t14 k14 f0 f1 f2 f3 f4 f5 f6 f7 f8 f9
  have nf0 : fc_1 PRD (21, [12, 14], [3782]) ws (vs) := ⟨nf_in hl rfl, sgq_1744 (vc_Gr_alter_at_kx_31_0 (v_iv (n_v vs 12)) (v_iv (n_v vs 14)) k12 k14)⟩
  have nf1 : fc_1 PRD (21, [13, 14], [3782]) ws (vs) := ⟨nf_in hl rfl, sgq_1744 (vc_Gr_alter_at_kx_31_1 (v_iv (n_v vs 13)) (v_iv (n_v vs 14)) k13 k14)⟩
  have nf2 : fc_1 PRD (20, [4, 4, 12, 13, 14], [61, 2, 763]) ws (vs) := ⟨nf_in hl rfl, sgq_1745 (vc_Gr_alter_at_kx_31_2 (v_iv (n_v vs 9)) (v_iv (n_v vs 12)) (v_iv (n_v vs 13)) (v_iv (n_v vs 14)) (w_ei ws (v_ad (n_v vs 4))) k9 k12 k13 k14 (shm_1743 f6))⟩
  refine ⟨(fun _ h => (by cases h)), [], trivial, ?_, (fun _ h => (by cases h))⟩
  rw [List.append_nil]
  exact List.forall_mem_cons.mpr ⟨⟨show (21 : Nat) < 100 from by decide, nf0⟩, List.forall_mem_cons.mpr ⟨⟨show (21 : Nat) < 100 from by decide, nf1⟩, List.forall_mem_cons.mpr ⟨⟨show (20 : Nat) < 100 from by decide, nf2⟩, (fun _ h => (by cases h))⟩⟩⟩
set_option maxHeartbeats 4000000 in
theorem vc_Gr_alter_at_kx_32_0 (x9 : Int) (x12 : Int) (x13 : Int) (x14 : Int) (nodes_0 : Int) (edges_0 : Int) (done_0 : Int) (near_0 : Int → Int) (tail_0 : Int → Int) (head_0 : Int → Int) (past_0 : Int → Int) (done_1 : Int) (near_1 : Int → Int) (tail_1 : Int → Int) (head_1 : Int → Int) (nodes_1 : Int) (edges_1 : Int) (past_1 : Int → Int) (k9 : 30 ≤ x9 ∧ x9 ≤ 30) (k12 : 122 ≤ x12 ∧ x12 ≤ 122) (k13 : 0 ≤ x13 ∧ x13 ≤ 0) (k14 : 3660 ≤ x14 ∧ x14 ≤ 3660) (f18 : MV2 (past_1) (past_1) (x12) (x13) (x14)) (fe_0_0_1 : nodes_0 = nodes_1) (fe_0_1_1 : edges_0 = edges_1) (fe_0_17_1 : done_0 = done_1) (hE_0_7_1 : ∀ j : Int, tail_0 j = tail_1 j) (hE_0_8_1 : ∀ j : Int, head_0 j = head_1 j) (hE_0_14_1 : ∀ j : Int, near_0 j = near_1 j) (hE_0_16_1 : ∀ j : Int, past_0 j = past_1 j) (kz_0_0 : 0 ≤ nodes_0 ∧ nodes_0 ≤ 24) (kz_0_1 : 0 ≤ edges_0 ∧ edges_0 ≤ 48) (kz_0_17 : 0 ≤ done_0 ∧ done_0 ≤ 30) : PRO (past_0) (x9) := by
  subst fe_0_0_1
  subst fe_0_1_1
  subst fe_0_17_1
  have e_hE_0_7_1 := funext hE_0_7_1; subst e_hE_0_7_1
  have e_hE_0_8_1 := funext hE_0_8_1; subst e_hE_0_8_1
  have e_hE_0_14_1 := funext hE_0_14_1; subst e_hE_0_14_1
  have e_hE_0_16_1 := funext hE_0_16_1; subst e_hE_0_16_1
  first
    | exact pro_pdq ‹PDQ _ _ _› (by omega) (by omega)
    | exact pri_pro ‹PNI _ _› (by omega)
    | (have q := (‹MV2 _ _ _ _ _›); exact fun r a b => q r a (by omega))
    | exact pro_zero (by omega) (fun j a b => by have q := hT10 j a (by omega); omega)
  
def o_Gr_alter_at_kx_32 : or_T := (82, 16, [(0, (2, 0, 0, [3])), (4, (2, 0, 0, [61])), (5, (0, 0, 24, [])), (6, (0, 0, 48, [])), (7, (2, 0, 0, [52])), (8, (2, 0, 0, [53])), (9, (0, 30, 30, [])), (11, (0, 30, 30, [])), (12, (0, 122, 122, [])), (13, (0, 0, 0, [])), (14, (0, 3660, 3660, [])), (15, (0, 0, 0, []))], [(9, [15, 0], [18]), (9, [5, 0], [0]), (9, [6, 0], [1]), (9, [7, 0], [7]), (9, [8, 0], [8]), (9, [4, 0], [16]), (9, [9, 0], [17]), (21, [12, 14], [3782]), (21, [13, 14], [3782]), (20, [0], [60, 2, 3, 670, 0, 1, 14, 7, 8]), (20, [0], [60, 2, 2, 596, 0, 1, 7, 8]), (20, [4, 4, 12, 13, 14], [61, 2, 764]), (101, [0, 15], [18]), (21, [12, 14], [3782]), (21, [13, 14], [3782]), (20, [0], [50, 2, 0, 17, 18, 0, 8, 4, 3, 2, 0, 17, 2, 0, 18, 0, 30]), (20, [0], [60, 2, 3, 670, 0, 1, 14, 7, 8]), (20, [0], [60, 2, 2, 596, 0, 1, 7, 8]), (20, [4, 4, 12, 13, 14], [61, 2, 764]), (102, [14], [2305843009213693952]), (21, [12, 14], [3782]), (21, [13, 14], [3782]), (7, [9, 11], [0])], [], [], [(20, [0, 9], [60, 0, 1, 737, 16])], [], [])
theorem oo_Gr_alter_at_kx_32 {kA : Nat → ClassId} : or_ok PRD kA GG o_Gr_alter_at_kx_32 := by
  refine or_mk fun A ta ws vs hD hth hl => ?_
  intro t0 r0 t4 r4 t5 k5 t6 k6 t7 r7 t8 r8 t9 k9 t11 k11 t12 k12 t13 k13 t14 k14 t15 k15 f0 f1 f2 f3 f4 f5 f6 f7 f8 f9 f10 f11 ta1 w1 le1 s1 f13 f14 f15 f16 f17 f18 ta2 w2 le2 s2 f20 f21 f22
  replace f5 := shm_188 f5
  have s1 : (∀ b j, w_el ws b j = w_el w1 b j) ∧ ∀ b j, w_fd ws b j = if b = v_ad (n_v vs 0) ∧ j = 18 then n_v vs 15 else w_fd w1 b j := s1.2
  replace f18 := shm_1746 f18
  have ar_0_7_1 : w_ar w1 (n_v vs 0) 7 = w_ar ws (n_v vs 0) 7 := by show v_ad (w_fd w1 _ _) = v_ad (w_fd ws _ _); rw [s1.2, if_neg (fun e => absurd e.2 (by decide))]
  have ar_0_8_1 : w_ar w1 (n_v vs 0) 8 = w_ar ws (n_v vs 0) 8 := by show v_ad (w_fd w1 _ _) = v_ad (w_fd ws _ _); rw [s1.2, if_neg (fun e => absurd e.2 (by decide))]
  have ar_0_14_1 : w_ar w1 (n_v vs 0) 14 = w_ar ws (n_v vs 0) 14 := by show v_ad (w_fd w1 _ _) = v_ad (w_fd ws _ _); rw [s1.2, if_neg (fun e => absurd e.2 (by decide))]
  have ad_4 : v_ad (n_v vs 4) = w_ar ws (n_v vs 0) 16 := congrArg v_ad f5
  simp only [ad_4, ar_0_7_1, ar_0_8_1, ar_0_14_1] at f18
  have fe_0_0_1 : w_fi ws (n_v vs 0) 0 = w_fi w1 (n_v vs 0) 0 := by show v_iv (w_fd _ _ _) = v_iv (w_fd _ _ _); rw [s1.2, if_neg (fun e => absurd e.2 (by decide))]
  have fe_0_1_1 : w_fi ws (n_v vs 0) 1 = w_fi w1 (n_v vs 0) 1 := by show v_iv (w_fd _ _ _) = v_iv (w_fd _ _ _); rw [s1.2, if_neg (fun e => absurd e.2 (by decide))]
  have fe_0_17_1 : w_fi ws (n_v vs 0) 17 = w_fi w1 (n_v vs 0) 17 := by show v_iv (w_fd _ _ _) = v_iv (w_fd _ _ _); rw [s1.2, if_neg (fun e => absurd e.2 (by decide))]
  have hE_0_7_1 : ∀ j : Int, w_ei ws (w_ar ws (n_v vs 0) 7) j = w_ei w1 (w_ar ws (n_v vs 0) 7) j := fun j => s1.1 _ _
  have hE_0_8_1 : ∀ j : Int, w_ei ws (w_ar ws (n_v vs 0) 8) j = w_ei w1 (w_ar ws (n_v vs 0) 8) j := fun j => s1.1 _ _
  have hE_0_14_1 : ∀ j : Int, w_ei ws (w_ar ws (n_v vs 0) 14) j = w_ei w1 (w_ar ws (n_v vs 0) 14) j := fun j => s1.1 _ _
  have hE_0_16_1 : ∀ j : Int, w_ei ws (w_ar ws (n_v vs 0) 16) j = w_ei w1 (w_ar ws (n_v vs 0) 16) j := fun j => s1.1 _ _
  have kz_0_0 := fdq_23 hD hth r0
  have kz_0_1 := fdq_38 hD hth r0
  have kz_0_17 := fdq_282 hD hth r0
  have nf0 : fc_1 PRD (20, [0, 9], [60, 0, 1, 737, 16]) ws (vs) := ⟨nf_in hl rfl, sgq_821 (vc_Gr_alter_at_kx_32_0 (v_iv (n_v vs 9)) (v_iv (n_v vs 12)) (v_iv (n_v vs 13)) (v_iv (n_v vs 14)) (w_fi ws (n_v vs 0) 0) (w_fi ws (n_v vs 0) 1) (w_fi ws (n_v vs 0) 17) (w_ei ws (w_ar ws (n_v vs 0) 14)) (w_ei ws (w_ar ws (n_v vs 0) 7)) (w_ei ws (w_ar ws (n_v vs 0) 8)) (w_ei ws (w_ar ws (n_v vs 0) 16)) (w_fi w1 (n_v vs 0) 17) (w_ei w1 (w_ar ws (n_v vs 0) 14)) (w_ei w1 (w_ar ws (n_v vs 0) 7)) (w_ei w1 (w_ar ws (n_v vs 0) 8)) (w_fi w1 (n_v vs 0) 0) (w_fi w1 (n_v vs 0) 1) (w_ei w1 (w_ar ws (n_v vs 0) 16)) k9 k12 k13 k14 f18 fe_0_0_1 fe_0_1_1 fe_0_17_1 hE_0_7_1 hE_0_8_1 hE_0_14_1 hE_0_16_1 kz_0_0 kz_0_1 kz_0_17)⟩
  refine ⟨(fun _ h => (by cases h)), [], trivial, ?_, (fun _ h => (by cases h))⟩
  rw [List.append_nil]
  exact List.forall_mem_cons.mpr ⟨⟨show (20 : Nat) < 100 from by decide, nf0⟩, (fun _ h => (by cases h))⟩
set_option maxHeartbeats 4000000 in
theorem vc_Gr_alter_at_kx_33_0 (x9 : Int) (x15 : Int) (undone_0 : Int) (done_0 : Int) (k9 : 30 ≤ x9 ∧ x9 ≤ 30) (k15 : 0 ≤ x15 ∧ x15 ≤ 0) (g0 : x15 = undone_0) (g5 : x9 = done_0) (kz_0_17 : 0 ≤ done_0 ∧ done_0 ≤ 30) (kz_0_18 : 0 ≤ undone_0 ∧ undone_0 ≤ 30) : (done_0 + undone_0) ≤ 30 := by
  first
    | omega
  
set_option maxHeartbeats 4000000 in
theorem vc_Gr_alter_at_kx_33_1 (x9 : Int) (x15 : Int) (undone_0 : Int) (done_0 : Int) (past_0 : Int → Int) (k9 : 30 ≤ x9 ∧ x9 ≤ 30) (k15 : 0 ≤ x15 ∧ x15 ≤ 0) (g0 : x15 = undone_0) (g5 : x9 = done_0) (f8 : PRI (past_0) (x9)) (kz_0_17 : 0 ≤ done_0 ∧ done_0 ≤ 30) (kz_0_18 : 0 ≤ undone_0 ∧ undone_0 ≤ 30) : PDQ (done_0) (undone_0) (past_0) := by
  first
    | assumption
    | exact pri_pdq ‹PRI _ _› (by omega) (by omega)
  
def o_Gr_alter_at_kx_33 : or_T := (87, 16, [(0, (2, 0, 0, [3])), (4, (2, 0, 0, [61])), (5, (0, 0, 24, [])), (6, (0, 0, 48, [])), (7, (2, 0, 0, [52])), (8, (2, 0, 0, [53])), (9, (0, 30, 30, [])), (11, (0, 30, 30, [])), (15, (0, 0, 0, []))], [(9, [15, 0], [18]), (9, [5, 0], [0]), (9, [6, 0], [1]), (9, [7, 0], [7]), (9, [8, 0], [8]), (9, [9, 0], [17]), (9, [4, 0], [16]), (20, [0], [60, 2, 3, 670, 0, 1, 14, 7, 8]), (20, [0, 9], [60, 0, 1, 738, 16]), (20, [0], [60, 2, 2, 596, 0, 1, 7, 8]), (102, [15], [2305843009213693952]), (101, [0, 15], [18]), (102, [14], [2305843009213693952]), (7, [9, 11], [0])], [], [], [(20, [0], [50, 2, 0, 17, 18, 0, 8, 4, 3, 2, 0, 17, 2, 0, 18, 0, 30]), (20, [0], [60, 2, 1, 739, 17, 18, 16])], [], [])
theorem oo_Gr_alter_at_kx_33 {kA : Nat → ClassId} : or_ok PRD kA GG o_Gr_alter_at_kx_33 := by
  refine or_mk fun A ta ws vs hD hth hl => ?_
  intro t0 r0 t4 r4 t5 k5 t6 k6 t7 r7 t8 r8 t9 k9 t11 k11 t15 k15 f0 f1 f2 f3 f4 f5 f6 f7 f8 f9 ta1 w1 le1 s1 ta2 w2 le2 s2 ta3 w3 le3 s3 f13
  replace f0 := shm_785 f0
  replace f5 := shm_781 f5
  have g0 : v_iv (n_v vs 15) = w_fi ws (n_v vs 0) 18 := congrArg v_iv f0
  have g5 : v_iv (n_v vs 9) = w_fi ws (n_v vs 0) 17 := congrArg v_iv f5
  have kz_0_17 := fdq_282 hD hth r0
  have kz_0_18 := fdq_283 hD hth r0
  have nf0 : fc_1 PRD (20, [0], [50, 2, 0, 17, 18, 0, 8, 4, 3, 2, 0, 17, 2, 0, 18, 0, 30]) ws (vs) := ⟨nf_in hl rfl, sgq_1462 (vc_Gr_alter_at_kx_33_0 (v_iv (n_v vs 9)) (v_iv (n_v vs 15)) (w_fi ws (n_v vs 0) 18) (w_fi ws (n_v vs 0) 17) k9 k15 g0 g5 kz_0_17 kz_0_18)⟩
  have nf1 : fc_1 PRD (20, [0], [60, 2, 1, 739, 17, 18, 16]) ws (vs) := ⟨nf_in hl rfl, sgq_1327 (vc_Gr_alter_at_kx_33_1 (v_iv (n_v vs 9)) (v_iv (n_v vs 15)) (w_fi ws (n_v vs 0) 18) (w_fi ws (n_v vs 0) 17) (w_ei ws (w_ar ws (n_v vs 0) 16)) k9 k15 g0 g5 (shm_826 f8) kz_0_17 kz_0_18)⟩
  refine ⟨(fun _ h => (by cases h)), [], trivial, ?_, (fun _ h => (by cases h))⟩
  rw [List.append_nil]
  exact List.forall_mem_cons.mpr ⟨⟨show (20 : Nat) < 100 from by decide, nf0⟩, List.forall_mem_cons.mpr ⟨⟨show (20 : Nat) < 100 from by decide, nf1⟩, (fun _ h => (by cases h))⟩⟩
set_option maxHeartbeats 4000000 in
theorem vc_Gr_alter_at_kx_34_0 (x9 : Int) (x13 : Int) (nodes_0 : Int) (edges_0 : Int) (done_0 : Int) (past_0 : Int → Int) (near_0 : Int → Int) (tail_0 : Int → Int) (head_0 : Int → Int) (past_1 : Int → Int) (near_1 : Int → Int) (tail_1 : Int → Int) (head_1 : Int → Int) (nodes_1 : Int) (edges_1 : Int) (past_2 : Int → Int) (undone_2 : Int) (near_2 : Int → Int) (tail_2 : Int → Int) (head_2 : Int → Int) (nodes_2 : Int) (edges_2 : Int) (done_1 : Int) (undone_1 : Int) (k9 : 0 ≤ x9 ∧ x9 ≤ 29) (k13 : 1 ≤ x13 ∧ x13 ≤ 30) (d0 : x9 + 1 ≤ x13 ∧ x13 ≤ x9 + 1) (f18 : PNI (past_2) (x9)) (fe_0_0_1 : nodes_0 = nodes_1) (fe_0_1_1 : edges_0 = edges_1) (fe_0_17_1 : done_0 = done_1) (fe_0_0_2 : nodes_1 = nodes_2) (fe_0_1_2 : edges_1 = edges_2) (fe_0_18_2 : undone_1 = undone_2) (hE_0_7_1 : ∀ j : Int, tail_0 j = tail_1 j) (hE_0_7_2 : ∀ j : Int, tail_1 j = tail_2 j) (hE_0_8_1 : ∀ j : Int, head_0 j = head_1 j) (hE_0_8_2 : ∀ j : Int, head_1 j = head_2 j) (hE_0_14_1 : ∀ j : Int, near_0 j = near_1 j) (hE_0_14_2 : ∀ j : Int, near_1 j = near_2 j) (hE_0_16_1 : ∀ j : Int, past_0 j = past_1 j) (hE_0_16_2 : ∀ j : Int, past_1 j = past_2 j) (kz_0_0 : 0 ≤ nodes_0 ∧ nodes_0 ≤ 24) (kz_0_1 : 0 ≤ edges_0 ∧ edges_0 ≤ 48) (kz_0_17 : 0 ≤ done_0 ∧ done_0 ≤ 30) : PRO (past_0) (x13) := by
  subst fe_0_0_1
  subst fe_0_1_1
  subst fe_0_17_1
  subst fe_0_0_2
  subst fe_0_1_2
  subst fe_0_18_2
  have e_hE_0_7_1 := funext hE_0_7_1; subst e_hE_0_7_1
  have e_hE_0_7_2 := funext hE_0_7_2; subst e_hE_0_7_2
  have e_hE_0_8_1 := funext hE_0_8_1; subst e_hE_0_8_1
  have e_hE_0_8_2 := funext hE_0_8_2; subst e_hE_0_8_2
  have e_hE_0_14_1 := funext hE_0_14_1; subst e_hE_0_14_1
  have e_hE_0_14_2 := funext hE_0_14_2; subst e_hE_0_14_2
  have e_hE_0_16_1 := funext hE_0_16_1; subst e_hE_0_16_1
  have e_hE_0_16_2 := funext hE_0_16_2; subst e_hE_0_16_2
  first
    | exact pro_pdq ‹PDQ _ _ _› (by omega) (by omega)
    | exact pri_pro ‹PNI _ _› (by omega)
    | (have q := (‹MV2 _ _ _ _ _›); exact fun r a b => q r a (by omega))
    | exact pro_zero (by omega) (fun j a b => by have q := hT10 j a (by omega); omega)
  
def o_Gr_alter_at_kx_34 : or_T := (82, 15, [(0, (2, 0, 0, [3])), (4, (2, 0, 0, [61])), (6, (0, 0, 48, [])), (7, (2, 0, 0, [52])), (8, (2, 0, 0, [53])), (9, (0, 0, 29, [])), (10, (0, 1, 24, [])), (11, (0, 30, 30, [])), (12, (0, 1, 1, [])), (13, (0, 1, 30, [])), (14, (0, 0, 0, []))], [(9, [14, 0], [18]), (9, [10, 0], [0]), (9, [6, 0], [1]), (9, [7, 0], [7]), (9, [8, 0], [8]), (9, [4, 0], [16]), (9, [13, 0], [17]), (20, [4, 9], [61, 1, 762]), (20, [0], [60, 2, 3, 670, 0, 1, 14, 7, 8]), (20, [0], [60, 2, 2, 596, 0, 1, 7, 8]), (101, [0, 14], [18]), (20, [4, 9], [61, 1, 762]), (20, [0], [60, 2, 3, 670, 0, 1, 14, 7, 8]), (20, [0], [60, 2, 2, 596, 0, 1, 7, 8]), (101, [0, 13], [17]), (1, [13, 9, 12], []), (9, [9, 0], [17]), (7, [9, 11], [1]), (20, [4, 9], [61, 1, 762]), (20, [0], [50, 2, 0, 17, 18, 0, 8, 4, 3, 2, 0, 17, 2, 0, 18, 0, 30]), (20, [0], [60, 2, 3, 670, 0, 1, 14, 7, 8]), (20, [0], [60, 2, 2, 596, 0, 1, 7, 8])], [], [], [(20, [0, 13], [60, 0, 1, 737, 16])], [], [(13, 9, 1, 1)])
theorem oo_Gr_alter_at_kx_34 {kA : Nat → ClassId} : or_ok PRD kA GG o_Gr_alter_at_kx_34 := by
  refine or_mk fun A ta ws vs hD hth hl => ?_
  intro t0 r0 t4 r4 t6 k6 t7 r7 t8 r8 t9 k9 t10 k10 t11 k11 t12 k12 t13 k13 t14 k14 d0 f0 f1 f2 f3 f4 f5 f6 f7 f8 f9 ta1 w1 le1 s1 f11 f12 f13 ta2 w2 le2 s2 f15 f16 f17 f18 f19 f20 f21
  replace f5 := shm_188 f5
  have s1 : (∀ b j, w_el ws b j = w_el w1 b j) ∧ ∀ b j, w_fd ws b j = if b = v_ad (n_v vs 0) ∧ j = 18 then n_v vs 14 else w_fd w1 b j := s1.2
  have s2 : (∀ b j, w_el w1 b j = w_el w2 b j) ∧ ∀ b j, w_fd w1 b j = if b = v_ad (n_v vs 0) ∧ j = 17 then n_v vs 13 else w_fd w2 b j := s2.2
  replace f18 := shm_1743 f18
  have ar_0_7_1 : w_ar w1 (n_v vs 0) 7 = w_ar ws (n_v vs 0) 7 := by show v_ad (w_fd w1 _ _) = v_ad (w_fd ws _ _); rw [s1.2, if_neg (fun e => absurd e.2 (by decide))]
  have ar_0_7_2 : w_ar w2 (n_v vs 0) 7 = w_ar ws (n_v vs 0) 7 := by rw [← ar_0_7_1]; show v_ad (w_fd w2 _ _) = v_ad (w_fd w1 _ _); rw [s2.2, if_neg (fun e => absurd e.2 (by decide))]
  have ar_0_8_1 : w_ar w1 (n_v vs 0) 8 = w_ar ws (n_v vs 0) 8 := by show v_ad (w_fd w1 _ _) = v_ad (w_fd ws _ _); rw [s1.2, if_neg (fun e => absurd e.2 (by decide))]
  have ar_0_8_2 : w_ar w2 (n_v vs 0) 8 = w_ar ws (n_v vs 0) 8 := by rw [← ar_0_8_1]; show v_ad (w_fd w2 _ _) = v_ad (w_fd w1 _ _); rw [s2.2, if_neg (fun e => absurd e.2 (by decide))]
  have ar_0_14_1 : w_ar w1 (n_v vs 0) 14 = w_ar ws (n_v vs 0) 14 := by show v_ad (w_fd w1 _ _) = v_ad (w_fd ws _ _); rw [s1.2, if_neg (fun e => absurd e.2 (by decide))]
  have ar_0_14_2 : w_ar w2 (n_v vs 0) 14 = w_ar ws (n_v vs 0) 14 := by rw [← ar_0_14_1]; show v_ad (w_fd w2 _ _) = v_ad (w_fd w1 _ _); rw [s2.2, if_neg (fun e => absurd e.2 (by decide))]
  have ad_4 : v_ad (n_v vs 4) = w_ar ws (n_v vs 0) 16 := congrArg v_ad f5
  simp only [ad_4, ar_0_7_2, ar_0_8_2, ar_0_14_2] at f18
  have fe_0_0_1 : w_fi ws (n_v vs 0) 0 = w_fi w1 (n_v vs 0) 0 := by show v_iv (w_fd _ _ _) = v_iv (w_fd _ _ _); rw [s1.2, if_neg (fun e => absurd e.2 (by decide))]
  have fe_0_1_1 : w_fi ws (n_v vs 0) 1 = w_fi w1 (n_v vs 0) 1 := by show v_iv (w_fd _ _ _) = v_iv (w_fd _ _ _); rw [s1.2, if_neg (fun e => absurd e.2 (by decide))]
  have fe_0_17_1 : w_fi ws (n_v vs 0) 17 = w_fi w1 (n_v vs 0) 17 := by show v_iv (w_fd _ _ _) = v_iv (w_fd _ _ _); rw [s1.2, if_neg (fun e => absurd e.2 (by decide))]
  have fe_0_0_2 : w_fi w1 (n_v vs 0) 0 = w_fi w2 (n_v vs 0) 0 := by show v_iv (w_fd _ _ _) = v_iv (w_fd _ _ _); rw [s2.2, if_neg (fun e => absurd e.2 (by decide))]
  have fe_0_1_2 : w_fi w1 (n_v vs 0) 1 = w_fi w2 (n_v vs 0) 1 := by show v_iv (w_fd _ _ _) = v_iv (w_fd _ _ _); rw [s2.2, if_neg (fun e => absurd e.2 (by decide))]
  have fe_0_18_2 : w_fi w1 (n_v vs 0) 18 = w_fi w2 (n_v vs 0) 18 := by show v_iv (w_fd _ _ _) = v_iv (w_fd _ _ _); rw [s2.2, if_neg (fun e => absurd e.2 (by decide))]
  have hE_0_7_1 : ∀ j : Int, w_ei ws (w_ar ws (n_v vs 0) 7) j = w_ei w1 (w_ar ws (n_v vs 0) 7) j := fun j => s1.1 _ _
  have hE_0_7_2 : ∀ j : Int, w_ei w1 (w_ar ws (n_v vs 0) 7) j = w_ei w2 (w_ar ws (n_v vs 0) 7) j := fun j => s2.1 _ _
  have hE_0_8_1 : ∀ j : Int, w_ei ws (w_ar ws (n_v vs 0) 8) j = w_ei w1 (w_ar ws (n_v vs 0) 8) j := fun j => s1.1 _ _
  have hE_0_8_2 : ∀ j : Int, w_ei w1 (w_ar ws (n_v vs 0) 8) j = w_ei w2 (w_ar ws (n_v vs 0) 8) j := fun j => s2.1 _ _
  have hE_0_14_1 : ∀ j : Int, w_ei ws (w_ar ws (n_v vs 0) 14) j = w_ei w1 (w_ar ws (n_v vs 0) 14) j := fun j => s1.1 _ _
  have hE_0_14_2 : ∀ j : Int, w_ei w1 (w_ar ws (n_v vs 0) 14) j = w_ei w2 (w_ar ws (n_v vs 0) 14) j := fun j => s2.1 _ _
  have hE_0_16_1 : ∀ j : Int, w_ei ws (w_ar ws (n_v vs 0) 16) j = w_ei w1 (w_ar ws (n_v vs 0) 16) j := fun j => s1.1 _ _
  have hE_0_16_2 : ∀ j : Int, w_ei w1 (w_ar ws (n_v vs 0) 16) j = w_ei w2 (w_ar ws (n_v vs 0) 16) j := fun j => s2.1 _ _
  have kz_0_0 := fdq_23 hD hth r0
  have kz_0_1 := fdq_38 hD hth r0
  have kz_0_17 := fdq_282 hD hth r0
  have nf0 : fc_1 PRD (20, [0, 13], [60, 0, 1, 737, 16]) ws (vs) := ⟨nf_in hl rfl, sgq_821 (vc_Gr_alter_at_kx_34_0 (v_iv (n_v vs 9)) (v_iv (n_v vs 13)) (w_fi ws (n_v vs 0) 0) (w_fi ws (n_v vs 0) 1) (w_fi ws (n_v vs 0) 17) (w_ei ws (w_ar ws (n_v vs 0) 16)) (w_ei ws (w_ar ws (n_v vs 0) 14)) (w_ei ws (w_ar ws (n_v vs 0) 7)) (w_ei ws (w_ar ws (n_v vs 0) 8)) (w_ei w1 (w_ar ws (n_v vs 0) 16)) (w_ei w1 (w_ar ws (n_v vs 0) 14)) (w_ei w1 (w_ar ws (n_v vs 0) 7)) (w_ei w1 (w_ar ws (n_v vs 0) 8)) (w_fi w1 (n_v vs 0) 0) (w_fi w1 (n_v vs 0) 1) (w_ei w2 (w_ar ws (n_v vs 0) 16)) (w_fi w2 (n_v vs 0) 18) (w_ei w2 (w_ar ws (n_v vs 0) 14)) (w_ei w2 (w_ar ws (n_v vs 0) 7)) (w_ei w2 (w_ar ws (n_v vs 0) 8)) (w_fi w2 (n_v vs 0) 0) (w_fi w2 (n_v vs 0) 1) (w_fi w1 (n_v vs 0) 17) (w_fi w1 (n_v vs 0) 18) k9 k13 d0 f18 fe_0_0_1 fe_0_1_1 fe_0_17_1 fe_0_0_2 fe_0_1_2 fe_0_18_2 hE_0_7_1 hE_0_7_2 hE_0_8_1 hE_0_8_2 hE_0_14_1 hE_0_14_2 hE_0_16_1 hE_0_16_2 kz_0_0 kz_0_1 kz_0_17)⟩
  refine ⟨(fun _ h => (by cases h)), [], trivial, ?_, (fun _ h => (by cases h))⟩
  rw [List.append_nil]
  exact List.forall_mem_cons.mpr ⟨⟨show (20 : Nat) < 100 from by decide, nf0⟩, (fun _ h => (by cases h))⟩
set_option maxHeartbeats 4000000 in
theorem vc_Gr_alter_at_kx_35_0 (x13 : Int) (x14 : Int) (undone_0 : Int) (done_0 : Int) (k13 : 1 ≤ x13 ∧ x13 ≤ 30) (k14 : 0 ≤ x14 ∧ x14 ≤ 0) (g0 : x14 = undone_0) (g1 : x13 = done_0) (kz_0_17 : 0 ≤ done_0 ∧ done_0 ≤ 30) (kz_0_18 : 0 ≤ undone_0 ∧ undone_0 ≤ 30) : (done_0 + undone_0) ≤ 30 := by
  first
    | omega
  
set_option maxHeartbeats 4000000 in
theorem vc_Gr_alter_at_kx_35_1 (x13 : Int) (x14 : Int) (undone_0 : Int) (done_0 : Int) (past_0 : Int → Int) (k13 : 1 ≤ x13 ∧ x13 ≤ 30) (k14 : 0 ≤ x14 ∧ x14 ≤ 0) (g0 : x14 = undone_0) (g1 : x13 = done_0) (f8 : PRI (past_0) (x13)) (kz_0_17 : 0 ≤ done_0 ∧ done_0 ≤ 30) (kz_0_18 : 0 ≤ undone_0 ∧ undone_0 ≤ 30) : PDQ (done_0) (undone_0) (past_0) := by
  first
    | assumption
    | exact pri_pdq ‹PRI _ _› (by omega) (by omega)
  
def o_Gr_alter_at_kx_35 : or_T := (87, 15, [(0, (2, 0, 0, [3])), (4, (2, 0, 0, [61])), (6, (0, 0, 48, [])), (7, (2, 0, 0, [52])), (8, (2, 0, 0, [53])), (9, (0, 0, 29, [])), (10, (0, 1, 24, [])), (11, (0, 30, 30, [])), (12, (0, 1, 1, [])), (13, (0, 1, 30, [])), (14, (0, 0, 0, []))], [(9, [14, 0], [18]), (9, [13, 0], [17]), (9, [10, 0], [0]), (9, [6, 0], [1]), (9, [7, 0], [7]), (9, [8, 0], [8]), (9, [4, 0], [16]), (20, [0], [60, 2, 3, 670, 0, 1, 14, 7, 8]), (20, [0, 13], [60, 0, 1, 738, 16]), (20, [0], [60, 2, 2, 596, 0, 1, 7, 8]), (102, [14], [2305843009213693952]), (101, [0, 14], [18]), (101, [0, 13], [17]), (1, [13, 9, 12], []), (7, [9, 11], [1])], [], [], [(20, [0], [50, 2, 0, 17, 18, 0, 8, 4, 3, 2, 0, 17, 2, 0, 18, 0, 30]), (20, [0], [60, 2, 1, 739, 17, 18, 16])], [], [(13, 9, 1, 1)])
theorem oo_Gr_alter_at_kx_35 {kA : Nat → ClassId} : or_ok PRD kA GG o_Gr_alter_at_kx_35 := by
  refine or_mk fun A ta ws vs hD hth hl => ?_
  intro t0 r0 t4 r4 t6 k6 t7 r7 t8 r8 t9 k9 t10 k10 t11 k11 t12 k12 t13 k13 t14 k14 d0 f0 f1 f2 f3 f4 f5 f6 f7 f8 f9 ta1 w1 le1 s1 ta2 w2 le2 s2 ta3 w3 le3 s3 f13 f14
  replace f0 := shm_785 f0
  replace f1 := shm_781 f1
  have g0 : v_iv (n_v vs 14) = w_fi ws (n_v vs 0) 18 := congrArg v_iv f0
  have g1 : v_iv (n_v vs 13) = w_fi ws (n_v vs 0) 17 := congrArg v_iv f1
  have kz_0_17 := fdq_282 hD hth r0
  have kz_0_18 := fdq_283 hD hth r0
  have nf0 : fc_1 PRD (20, [0], [50, 2, 0, 17, 18, 0, 8, 4, 3, 2, 0, 17, 2, 0, 18, 0, 30]) ws (vs) := ⟨nf_in hl rfl, sgq_1462 (vc_Gr_alter_at_kx_35_0 (v_iv (n_v vs 13)) (v_iv (n_v vs 14)) (w_fi ws (n_v vs 0) 18) (w_fi ws (n_v vs 0) 17) k13 k14 g0 g1 kz_0_17 kz_0_18)⟩
  have nf1 : fc_1 PRD (20, [0], [60, 2, 1, 739, 17, 18, 16]) ws (vs) := ⟨nf_in hl rfl, sgq_1327 (vc_Gr_alter_at_kx_35_1 (v_iv (n_v vs 13)) (v_iv (n_v vs 14)) (w_fi ws (n_v vs 0) 18) (w_fi ws (n_v vs 0) 17) (w_ei ws (w_ar ws (n_v vs 0) 16)) k13 k14 g0 g1 (shm_826 f8) kz_0_17 kz_0_18)⟩
  refine ⟨(fun _ h => (by cases h)), [], trivial, ?_, (fun _ h => (by cases h))⟩
  rw [List.append_nil]
  exact List.forall_mem_cons.mpr ⟨⟨show (20 : Nat) < 100 from by decide, nf0⟩, List.forall_mem_cons.mpr ⟨⟨show (20 : Nat) < 100 from by decide, nf1⟩, (fun _ h => (by cases h))⟩⟩
set_option maxHeartbeats 4000000 in
theorem vc_Gr_alter_at_kx_36_0 (x12 : Int) (x14 : Int) (k12 : 122 ≤ x12 ∧ x12 ≤ 122) (k14 : 3660 ≤ x14 ∧ x14 ≤ 3660) : x12 + x14 ≤ 3782 := by
  first
    | omega
  
set_option maxHeartbeats 4000000 in
theorem vc_Gr_alter_at_kx_36_1 (x13 : Int) (x14 : Int) (k13 : 0 ≤ x13 ∧ x13 ≤ 0) (k14 : 3660 ≤ x14 ∧ x14 ≤ 3660) : x13 + x14 ≤ 3782 := by
  first
    | omega
  
set_option maxHeartbeats 4000000 in
theorem vc_Gr_alter_at_kx_36_2 (x9 : Int) (x12 : Int) (x13 : Int) (x14 : Int) (a4_0 : Int → Int) (k9 : 30 ≤ x9 ∧ x9 ≤ 30) (k12 : 122 ≤ x12 ∧ x12 ≤ 122) (k13 : 0 ≤ x13 ∧ x13 ≤ 0) (k14 : 3660 ≤ x14 ∧ x14 ≤ 3660) (f6 : PNI (a4_0) (x9)) : MV1 (a4_0) (a4_0) (x12) (x13) (x14) := by
  first
    | exact ⟨by omega, by omega, by omega, fun r a b => (‹PNI _ _›) r a (by omega)⟩
  
def o_Gr_alter_at_kx_36 : or_T := (56, 15, [(0, (2, 0, 0, [3])), (4, (2, 0, 0, [61])), (6, (0, 0, 48, [])), (7, (2, 0, 0, [52])), (8, (2, 0, 0, [53])), (9, (0, 30, 30, [])), (10, (0, 1, 24, [])), (11, (0, 30, 30, [])), (12, (0, 122, 122, [])), (13, (0, 0, 0, [])), (14, (0, 3660, 3660, []))], [(9, [10, 0], [0]), (9, [6, 0], [1]), (9, [7, 0], [7]), (9, [8, 0], [8]), (7, [9, 11], [0]), (9, [9, 0], [17]), (20, [4, 9], [61, 1, 762]), (20, [0], [50, 2, 0, 17, 18, 0, 8, 4, 3, 2, 0, 17, 2, 0, 18, 0, 30]), (20, [0], [60, 2, 3, 670, 0, 1, 14, 7, 8]), (20, [0], [60, 2, 2, 596, 0, 1, 7, 8])], [], [], [(21, [12, 14], [3782]), (21, [13, 14], [3782]), (20, [4, 4, 12, 13, 14], [61, 2, 763])], [], [])
theorem oo_Gr_alter_at_kx_36 {kA : Nat → ClassId} : or_ok PRD kA GG o_Gr_alter_at_kx_36 := by
  refine or_mk fun A ta ws vs hD hth hl => ?_
  intro t0 r0 t4 r4 t6 k6 t7 r7 t8 r8 t9 k9 t10 k10 t11 k11 t12 k12 t13 k13 t14 k14 f0 f1 f2 f3 f4 f5 f6 f7 f8 f9
  have nf0 : fc_1 PRD (21, [12, 14], [3782]) ws (vs) := ⟨nf_in hl rfl, sgq_1744 (vc_Gr_alter_at_kx_36_0 (v_iv (n_v vs 12)) (v_iv (n_v vs 14)) k12 k14)⟩
  have nf1 : fc_1 PRD (21, [13, 14], [3782]) ws (vs) := ⟨nf_in hl rfl, sgq_1744 (vc_Gr_alter_at_kx_36_1 (v_iv (n_v vs 13)) (v_iv (n_v vs 14)) k13 k14)⟩
  have nf2 : fc_1 PRD (20, [4, 4, 12, 13, 14], [61, 2, 763]) ws (vs) := ⟨nf_in hl rfl, sgq_1745 (vc_Gr_alter_at_kx_36_2 (v_iv (n_v vs 9)) (v_iv (n_v vs 12)) (v_iv (n_v vs 13)) (v_iv (n_v vs 14)) (w_ei ws (v_ad (n_v vs 4))) k9 k12 k13 k14 (shm_1743 f6))⟩
  refine ⟨(fun _ h => (by cases h)), [], trivial, ?_, (fun _ h => (by cases h))⟩
  rw [List.append_nil]
  exact List.forall_mem_cons.mpr ⟨⟨show (21 : Nat) < 100 from by decide, nf0⟩, List.forall_mem_cons.mpr ⟨⟨show (21 : Nat) < 100 from by decide, nf1⟩, List.forall_mem_cons.mpr ⟨⟨show (20 : Nat) < 100 from by decide, nf2⟩, (fun _ h => (by cases h))⟩⟩⟩
set_option maxHeartbeats 4000000 in
theorem vc_Gr_alter_at_kx_37_0 (x9 : Int) (x12 : Int) (x13 : Int) (x14 : Int) (nodes_0 : Int) (edges_0 : Int) (done_0 : Int) (near_0 : Int → Int) (tail_0 : Int → Int) (head_0 : Int → Int) (past_0 : Int → Int) (done_1 : Int) (near_1 : Int → Int) (tail_1 : Int → Int) (head_1 : Int → Int) (nodes_1 : Int) (edges_1 : Int) (past_1 : Int → Int) (k9 : 30 ≤ x9 ∧ x9 ≤ 30) (k12 : 122 ≤ x12 ∧ x12 ≤ 122) (k13 : 0 ≤ x13 ∧ x13 ≤ 0) (k14 : 3660 ≤ x14 ∧ x14 ≤ 3660) (f18 : MV2 (past_1) (past_1) (x12) (x13) (x14)) (fe_0_0_1 : nodes_0 = nodes_1) (fe_0_1_1 : edges_0 = edges_1) (fe_0_17_1 : done_0 = done_1) (hE_0_7_1 : ∀ j : Int, tail_0 j = tail_1 j) (hE_0_8_1 : ∀ j : Int, head_0 j = head_1 j) (hE_0_14_1 : ∀ j : Int, near_0 j = near_1 j) (hE_0_16_1 : ∀ j : Int, past_0 j = past_1 j) (kz_0_0 : 0 ≤ nodes_0 ∧ nodes_0 ≤ 24) (kz_0_1 : 0 ≤ edges_0 ∧ edges_0 ≤ 48) (kz_0_17 : 0 ≤ done_0 ∧ done_0 ≤ 30) : PRO (past_0) (x9) := by
  subst fe_0_0_1
  subst fe_0_1_1
  subst fe_0_17_1
  have e_hE_0_7_1 := funext hE_0_7_1; subst e_hE_0_7_1
  have e_hE_0_8_1 := funext hE_0_8_1; subst e_hE_0_8_1
  have e_hE_0_14_1 := funext hE_0_14_1; subst e_hE_0_14_1
  have e_hE_0_16_1 := funext hE_0_16_1; subst e_hE_0_16_1
  first
    | exact pro_pdq ‹PDQ _ _ _› (by omega) (by omega)
    | exact pri_pro ‹PNI _ _› (by omega)
    | (have q := (‹MV2 _ _ _ _ _›); exact fun r a b => q r a (by omega))
    | exact pro_zero (by omega) (fun j a b => by have q := hT10 j a (by omega); omega)
  
def o_Gr_alter_at_kx_37 : or_T := (82, 16, [(0, (2, 0, 0, [3])), (4, (2, 0, 0, [61])), (6, (0, 0, 48, [])), (7, (2, 0, 0, [52])), (8, (2, 0, 0, [53])), (9, (0, 30, 30, [])), (10, (0, 1, 24, [])), (11, (0, 30, 30, [])), (12, (0, 122, 122, [])), (13, (0, 0, 0, [])), (14, (0, 3660, 3660, [])), (15, (0, 0, 0, []))], [(9, [15, 0], [18]), (9, [10, 0], [0]), (9, [6, 0], [1]), (9, [7, 0], [7]), (9, [8, 0], [8]), (9, [4, 0], [16]), (9, [9, 0], [17]), (21, [12, 14], [3782]), (21, [13, 14], [3782]), (20, [0], [60, 2, 3, 670, 0, 1, 14, 7, 8]), (20, [0], [60, 2, 2, 596, 0, 1, 7, 8]), (20, [4, 4, 12, 13, 14], [61, 2, 764]), (101, [0, 15], [18]), (21, [12, 14], [3782]), (21, [13, 14], [3782]), (20, [0], [50, 2, 0, 17, 18, 0, 8, 4, 3, 2, 0, 17, 2, 0, 18, 0, 30]), (20, [0], [60, 2, 3, 670, 0, 1, 14, 7, 8]), (20, [0], [60, 2, 2, 596, 0, 1, 7, 8]), (20, [4, 4, 12, 13, 14], [61, 2, 764]), (102, [14], [2305843009213693952]), (21, [12, 14], [3782]), (21, [13, 14], [3782]), (7, [9, 11], [0])], [], [], [(20, [0, 9], [60, 0, 1, 737, 16])], [], [])
theorem oo_Gr_alter_at_kx_37 {kA : Nat → ClassId} : or_ok PRD kA GG o_Gr_alter_at_kx_37 := by
  refine or_mk fun A ta ws vs hD hth hl => ?_
  intro t0 r0 t4 r4 t6 k6 t7 r7 t8 r8 t9 k9 t10 k10 t11 k11 t12 k12 t13 k13 t14 k14 t15 k15 f0 f1 f2 f3 f4 f5 f6 f7 f8 f9 f10 f11 ta1 w1 le1 s1 f13 f14 f15 f16 f17 f18 ta2 w2 le2 s2 f20 f21 f22
  replace f5 := shm_188 f5
  have s1 : (∀ b j, w_el ws b j = w_el w1 b j) ∧ ∀ b j, w_fd ws b j = if b = v_ad (n_v vs 0) ∧ j = 18 then n_v vs 15 else w_fd w1 b j := s1.2
  replace f18 := shm_1746 f18
  have ar_0_7_1 : w_ar w1 (n_v vs 0) 7 = w_ar ws (n_v vs 0) 7 := by show v_ad (w_fd w1 _ _) = v_ad (w_fd ws _ _); rw [s1.2, if_neg (fun e => absurd e.2 (by decide))]
  have ar_0_8_1 : w_ar w1 (n_v vs 0) 8 = w_ar ws (n_v vs 0) 8 := by show v_ad (w_fd w1 _ _) = v_ad (w_fd ws _ _); rw [s1.2, if_neg (fun e => absurd e.2 (by decide))]
  have ar_0_14_1 : w_ar w1 (n_v vs 0) 14 = w_ar ws (n_v vs 0) 14 := by show v_ad (w_fd w1 _ _) = v_ad (w_fd ws _ _); rw [s1.2, if_neg (fun e => absurd e.2 (by decide))]
  have ad_4 : v_ad (n_v vs 4) = w_ar ws (n_v vs 0) 16 := congrArg v_ad f5
  simp only [ad_4, ar_0_7_1, ar_0_8_1, ar_0_14_1] at f18
  have fe_0_0_1 : w_fi ws (n_v vs 0) 0 = w_fi w1 (n_v vs 0) 0 := by show v_iv (w_fd _ _ _) = v_iv (w_fd _ _ _); rw [s1.2, if_neg (fun e => absurd e.2 (by decide))]
  have fe_0_1_1 : w_fi ws (n_v vs 0) 1 = w_fi w1 (n_v vs 0) 1 := by show v_iv (w_fd _ _ _) = v_iv (w_fd _ _ _); rw [s1.2, if_neg (fun e => absurd e.2 (by decide))]
  have fe_0_17_1 : w_fi ws (n_v vs 0) 17 = w_fi w1 (n_v vs 0) 17 := by show v_iv (w_fd _ _ _) = v_iv (w_fd _ _ _); rw [s1.2, if_neg (fun e => absurd e.2 (by decide))]
  have hE_0_7_1 : ∀ j : Int, w_ei ws (w_ar ws (n_v vs 0) 7) j = w_ei w1 (w_ar ws (n_v vs 0) 7) j := fun j => s1.1 _ _
  have hE_0_8_1 : ∀ j : Int, w_ei ws (w_ar ws (n_v vs 0) 8) j = w_ei w1 (w_ar ws (n_v vs 0) 8) j := fun j => s1.1 _ _
  have hE_0_14_1 : ∀ j : Int, w_ei ws (w_ar ws (n_v vs 0) 14) j = w_ei w1 (w_ar ws (n_v vs 0) 14) j := fun j => s1.1 _ _
  have hE_0_16_1 : ∀ j : Int, w_ei ws (w_ar ws (n_v vs 0) 16) j = w_ei w1 (w_ar ws (n_v vs 0) 16) j := fun j => s1.1 _ _
  have kz_0_0 := fdq_23 hD hth r0
  have kz_0_1 := fdq_38 hD hth r0
  have kz_0_17 := fdq_282 hD hth r0
  have nf0 : fc_1 PRD (20, [0, 9], [60, 0, 1, 737, 16]) ws (vs) := ⟨nf_in hl rfl, sgq_821 (vc_Gr_alter_at_kx_37_0 (v_iv (n_v vs 9)) (v_iv (n_v vs 12)) (v_iv (n_v vs 13)) (v_iv (n_v vs 14)) (w_fi ws (n_v vs 0) 0) (w_fi ws (n_v vs 0) 1) (w_fi ws (n_v vs 0) 17) (w_ei ws (w_ar ws (n_v vs 0) 14)) (w_ei ws (w_ar ws (n_v vs 0) 7)) (w_ei ws (w_ar ws (n_v vs 0) 8)) (w_ei ws (w_ar ws (n_v vs 0) 16)) (w_fi w1 (n_v vs 0) 17) (w_ei w1 (w_ar ws (n_v vs 0) 14)) (w_ei w1 (w_ar ws (n_v vs 0) 7)) (w_ei w1 (w_ar ws (n_v vs 0) 8)) (w_fi w1 (n_v vs 0) 0) (w_fi w1 (n_v vs 0) 1) (w_ei w1 (w_ar ws (n_v vs 0) 16)) k9 k12 k13 k14 f18 fe_0_0_1 fe_0_1_1 fe_0_17_1 hE_0_7_1 hE_0_8_1 hE_0_14_1 hE_0_16_1 kz_0_0 kz_0_1 kz_0_17)⟩
  refine ⟨(fun _ h => (by cases h)), [], trivial, ?_, (fun _ h => (by cases h))⟩
  rw [List.append_nil]
  exact List.forall_mem_cons.mpr ⟨⟨show (20 : Nat) < 100 from by decide, nf0⟩, (fun _ h => (by cases h))⟩
set_option maxHeartbeats 4000000 in
theorem vc_Gr_alter_at_kx_38_0 (x9 : Int) (x15 : Int) (undone_0 : Int) (done_0 : Int) (k9 : 30 ≤ x9 ∧ x9 ≤ 30) (k15 : 0 ≤ x15 ∧ x15 ≤ 0) (g0 : x15 = undone_0) (g5 : x9 = done_0) (kz_0_17 : 0 ≤ done_0 ∧ done_0 ≤ 30) (kz_0_18 : 0 ≤ undone_0 ∧ undone_0 ≤ 30) : (done_0 + undone_0) ≤ 30 := by
  first
    | omega
  
set_option maxHeartbeats 4000000 in
theorem vc_Gr_alter_at_kx_38_1 (x9 : Int) (x15 : Int) (undone_0 : Int) (done_0 : Int) (past_0 : Int → Int) (k9 : 30 ≤ x9 ∧ x9 ≤ 30) (k15 : 0 ≤ x15 ∧ x15 ≤ 0) (g0 : x15 = undone_0) (g5 : x9 = done_0) (f8 : PRI (past_0) (x9)) (kz_0_17 : 0 ≤ done_0 ∧ done_0 ≤ 30) (kz_0_18 : 0 ≤ undone_0 ∧ undone_0 ≤ 30) : PDQ (done_0) (undone_0) (past_0) := by
  first
    | assumption
    | exact pri_pdq ‹PRI _ _› (by omega) (by omega)
  
def o_Gr_alter_at_kx_38 : or_T := (87, 16, [(0, (2, 0, 0, [3])), (4, (2, 0, 0, [61])), (6, (0, 0, 48, [])), (7, (2, 0, 0, [52])), (8, (2, 0, 0, [53])), (9, (0, 30, 30, [])), (10, (0, 1, 24, [])), (11, (0, 30, 30, [])), (15, (0, 0, 0, []))], [(9, [15, 0], [18]), (9, [10, 0], [0]), (9, [6, 0], [1]), (9, [7, 0], [7]), (9, [8, 0], [8]), (9, [9, 0], [17]), (9, [4, 0], [16]), (20, [0], [60, 2, 3, 670, 0, 1, 14, 7, 8]), (20, [0, 9], [60, 0, 1, 738, 16]), (20, [0], [60, 2, 2, 596, 0, 1, 7, 8]), (102, [15], [2305843009213693952]), (101, [0, 15], [18]), (102, [14], [2305843009213693952]), (7, [9, 11], [0])], [], [], [(20, [0], [50, 2, 0, 17, 18, 0, 8, 4, 3, 2, 0, 17, 2, 0, 18, 0, 30]), (20, [0], [60, 2, 1, 739, 17, 18, 16])], [], [])
theorem oo_Gr_alter_at_kx_38 {kA : Nat → ClassId} : or_ok PRD kA GG o_Gr_alter_at_kx_38 := by
  refine or_mk fun A ta ws vs hD hth hl => ?_
  intro t0 r0 t4 r4 t6 k6 t7 r7 t8 r8 t9 k9 t10 k10 t11 k11 t15 k15 f0 f1 f2 f3 f4 f5 f6 f7 f8 f9 ta1 w1 le1 s1 ta2 w2 le2 s2 ta3 w3 le3 s3 f13
  replace f0 := shm_785 f0
  replace f5 := shm_781 f5
  have g0 : v_iv (n_v vs 15) = w_fi ws (n_v vs 0) 18 := congrArg v_iv f0
  have g5 : v_iv (n_v vs 9) = w_fi ws (n_v vs 0) 17 := congrArg v_iv f5
  have kz_0_17 := fdq_282 hD hth r0
  have kz_0_18 := fdq_283 hD hth r0
  have nf0 : fc_1 PRD (20, [0], [50, 2, 0, 17, 18, 0, 8, 4, 3, 2, 0, 17, 2, 0, 18, 0, 30]) ws (vs) := ⟨nf_in hl rfl, sgq_1462 (vc_Gr_alter_at_kx_38_0 (v_iv (n_v vs 9)) (v_iv (n_v vs 15)) (w_fi ws (n_v vs 0) 18) (w_fi ws (n_v vs 0) 17) k9 k15 g0 g5 kz_0_17 kz_0_18)⟩
  have nf1 : fc_1 PRD (20, [0], [60, 2, 1, 739, 17, 18, 16]) ws (vs) := ⟨nf_in hl rfl, sgq_1327 (vc_Gr_alter_at_kx_38_1 (v_iv (n_v vs 9)) (v_iv (n_v vs 15)) (w_fi ws (n_v vs 0) 18) (w_fi ws (n_v vs 0) 17) (w_ei ws (w_ar ws (n_v vs 0) 16)) k9 k15 g0 g5 (shm_826 f8) kz_0_17 kz_0_18)⟩
  refine ⟨(fun _ h => (by cases h)), [], trivial, ?_, (fun _ h => (by cases h))⟩
  rw [List.append_nil]
  exact List.forall_mem_cons.mpr ⟨⟨show (20 : Nat) < 100 from by decide, nf0⟩, List.forall_mem_cons.mpr ⟨⟨show (20 : Nat) < 100 from by decide, nf1⟩, (fun _ h => (by cases h))⟩⟩
set_option maxHeartbeats 4000000 in
theorem vc_Gr_alter_at_kx_39_0 (x9 : Int) (x13 : Int) (nodes_0 : Int) (edges_0 : Int) (done_0 : Int) (past_0 : Int → Int) (near_0 : Int → Int) (tail_0 : Int → Int) (head_0 : Int → Int) (past_1 : Int → Int) (near_1 : Int → Int) (tail_1 : Int → Int) (head_1 : Int → Int) (nodes_1 : Int) (edges_1 : Int) (past_2 : Int → Int) (undone_2 : Int) (near_2 : Int → Int) (tail_2 : Int → Int) (head_2 : Int → Int) (nodes_2 : Int) (edges_2 : Int) (done_1 : Int) (undone_1 : Int) (k9 : 0 ≤ x9 ∧ x9 ≤ 29) (k13 : 1 ≤ x13 ∧ x13 ≤ 30) (d0 : x9 + 1 ≤ x13 ∧ x13 ≤ x9 + 1) (f18 : PNI (past_2) (x9)) (fe_0_0_1 : nodes_0 = nodes_1) (fe_0_1_1 : edges_0 = edges_1) (fe_0_17_1 : done_0 = done_1) (fe_0_0_2 : nodes_1 = nodes_2) (fe_0_1_2 : edges_1 = edges_2) (fe_0_18_2 : undone_1 = undone_2) (hE_0_7_1 : ∀ j : Int, tail_0 j = tail_1 j) (hE_0_7_2 : ∀ j : Int, tail_1 j = tail_2 j) (hE_0_8_1 : ∀ j : Int, head_0 j = head_1 j) (hE_0_8_2 : ∀ j : Int, head_1 j = head_2 j) (hE_0_14_1 : ∀ j : Int, near_0 j = near_1 j) (hE_0_14_2 : ∀ j : Int, near_1 j = near_2 j) (hE_0_16_1 : ∀ j : Int, past_0 j = past_1 j) (hE_0_16_2 : ∀ j : Int, past_1 j = past_2 j) (kz_0_0 : 0 ≤ nodes_0 ∧ nodes_0 ≤ 24) (kz_0_1 : 0 ≤ edges_0 ∧ edges_0 ≤ 48) (kz_0_17 : 0 ≤ done_0 ∧ done_0 ≤ 30) : PRO (past_0) (x13) := by
  subst fe_0_0_1
  subst fe_0_1_1
  subst fe_0_17_1
  subst fe_0_0_2
  subst fe_0_1_2
  subst fe_0_18_2
  have e_hE_0_7_1 := funext hE_0_7_1; subst e_hE_0_7_1
  have e_hE_0_7_2 := funext hE_0_7_2; subst e_hE_0_7_2
  have e_hE_0_8_1 := funext hE_0_8_1; subst e_hE_0_8_1
  have e_hE_0_8_2 := funext hE_0_8_2; subst e_hE_0_8_2
  have e_hE_0_14_1 := funext hE_0_14_1; subst e_hE_0_14_1
  have e_hE_0_14_2 := funext hE_0_14_2; subst e_hE_0_14_2
  have e_hE_0_16_1 := funext hE_0_16_1; subst e_hE_0_16_1
  have e_hE_0_16_2 := funext hE_0_16_2; subst e_hE_0_16_2
  first
    | exact pro_pdq ‹PDQ _ _ _› (by omega) (by omega)
    | exact pri_pro ‹PNI _ _› (by omega)
    | (have q := (‹MV2 _ _ _ _ _›); exact fun r a b => q r a (by omega))
    | exact pro_zero (by omega) (fun j a b => by have q := hT10 j a (by omega); omega)
  
def o_Gr_alter_at_kx_39 : or_T := (82, 15, [(0, (2, 0, 0, [3])), (4, (2, 0, 0, [61])), (5, (0, 0, 24, [])), (7, (2, 0, 0, [52])), (8, (2, 0, 0, [53])), (9, (0, 0, 29, [])), (10, (0, 1, 48, [])), (11, (0, 30, 30, [])), (12, (0, 1, 1, [])), (13, (0, 1, 30, [])), (14, (0, 0, 0, []))], [(9, [14, 0], [18]), (9, [5, 0], [0]), (9, [10, 0], [1]), (9, [7, 0], [7]), (9, [8, 0], [8]), (9, [4, 0], [16]), (9, [13, 0], [17]), (20, [4, 9], [61, 1, 762]), (20, [0], [60, 2, 3, 670, 0, 1, 14, 7, 8]), (20, [0], [60, 2, 2, 596, 0, 1, 7, 8]), (101, [0, 14], [18]), (20, [4, 9], [61, 1, 762]), (20, [0], [60, 2, 3, 670, 0, 1, 14, 7, 8]), (20, [0], [60, 2, 2, 596, 0, 1, 7, 8]), (101, [0, 13], [17]), (1, [13, 9, 12], []), (9, [9, 0], [17]), (7, [9, 11], [1]), (20, [4, 9], [61, 1, 762]), (20, [0], [50, 2, 0, 17, 18, 0, 8, 4, 3, 2, 0, 17, 2, 0, 18, 0, 30]), (20, [0], [60, 2, 3, 670, 0, 1, 14, 7, 8]), (20, [0], [60, 2, 2, 596, 0, 1, 7, 8])], [], [], [(20, [0, 13], [60, 0, 1, 737, 16])], [], [(13, 9, 1, 1)])
theorem oo_Gr_alter_at_kx_39 {kA : Nat → ClassId} : or_ok PRD kA GG o_Gr_alter_at_kx_39 := by
  refine or_mk fun A ta ws vs hD hth hl => ?_
  intro t0 r0 t4 r4 t5 k5 t7 r7 t8 r8 t9 k9 t10 k10 t11 k11 t12 k12 t13 k13 t14 k14 d0 f0 f1 f2 f3 f4 f5 f6 f7 f8 f9 ta1 w1 le1 s1 f11 f12 f13 ta2 w2 le2 s2 f15 f16 f17 f18 f19 f20 f21
  replace f5 := shm_188 f5
  have s1 : (∀ b j, w_el ws b j = w_el w1 b j) ∧ ∀ b j, w_fd ws b j = if b = v_ad (n_v vs 0) ∧ j = 18 then n_v vs 14 else w_fd w1 b j := s1.2
  have s2 : (∀ b j, w_el w1 b j = w_el w2 b j) ∧ ∀ b j, w_fd w1 b j = if b = v_ad (n_v vs 0) ∧ j = 17 then n_v vs 13 else w_fd w2 b j := s2.2
  replace f18 := shm_1743 f18
  have ar_0_7_1 : w_ar w1 (n_v vs 0) 7 = w_ar ws (n_v vs 0) 7 := by show v_ad (w_fd w1 _ _) = v_ad (w_fd ws _ _); rw [s1.2, if_neg (fun e => absurd e.2 (by decide))]
  have ar_0_7_2 : w_ar w2 (n_v vs 0) 7 = w_ar ws (n_v vs 0) 7 := by rw [← ar_0_7_1]; show v_ad (w_fd w2 _ _) = v_ad (w_fd w1 _ _); rw [s2.2, if_neg (fun e => absurd e.2 (by decide))]
  have ar_0_8_1 : w_ar w1 (n_v vs 0) 8 = w_ar ws (n_v vs 0) 8 := by show v_ad (w_fd w1 _ _) = v_ad (w_fd ws _ _); rw [s1.2, if_neg (fun e => absurd e.2 (by decide))]
  have ar_0_8_2 : w_ar w2 (n_v vs 0) 8 = w_ar ws (n_v vs 0) 8 := by rw [← ar_0_8_1]; show v_ad (w_fd w2 _ _) = v_ad (w_fd w1 _ _); rw [s2.2, if_neg (fun e => absurd e.2 (by decide))]
  have ar_0_14_1 : w_ar w1 (n_v vs 0) 14 = w_ar ws (n_v vs 0) 14 := by show v_ad (w_fd w1 _ _) = v_ad (w_fd ws _ _); rw [s1.2, if_neg (fun e => absurd e.2 (by decide))]
  have ar_0_14_2 : w_ar w2 (n_v vs 0) 14 = w_ar ws (n_v vs 0) 14 := by rw [← ar_0_14_1]; show v_ad (w_fd w2 _ _) = v_ad (w_fd w1 _ _); rw [s2.2, if_neg (fun e => absurd e.2 (by decide))]
  have ad_4 : v_ad (n_v vs 4) = w_ar ws (n_v vs 0) 16 := congrArg v_ad f5
  simp only [ad_4, ar_0_7_2, ar_0_8_2, ar_0_14_2] at f18
  have fe_0_0_1 : w_fi ws (n_v vs 0) 0 = w_fi w1 (n_v vs 0) 0 := by show v_iv (w_fd _ _ _) = v_iv (w_fd _ _ _); rw [s1.2, if_neg (fun e => absurd e.2 (by decide))]
  have fe_0_1_1 : w_fi ws (n_v vs 0) 1 = w_fi w1 (n_v vs 0) 1 := by show v_iv (w_fd _ _ _) = v_iv (w_fd _ _ _); rw [s1.2, if_neg (fun e => absurd e.2 (by decide))]
  have fe_0_17_1 : w_fi ws (n_v vs 0) 17 = w_fi w1 (n_v vs 0) 17 := by show v_iv (w_fd _ _ _) = v_iv (w_fd _ _ _); rw [s1.2, if_neg (fun e => absurd e.2 (by decide))]
  have fe_0_0_2 : w_fi w1 (n_v vs 0) 0 = w_fi w2 (n_v vs 0) 0 := by show v_iv (w_fd _ _ _) = v_iv (w_fd _ _ _); rw [s2.2, if_neg (fun e => absurd e.2 (by decide))]
  have fe_0_1_2 : w_fi w1 (n_v vs 0) 1 = w_fi w2 (n_v vs 0) 1 := by show v_iv (w_fd _ _ _) = v_iv (w_fd _ _ _); rw [s2.2, if_neg (fun e => absurd e.2 (by decide))]
  have fe_0_18_2 : w_fi w1 (n_v vs 0) 18 = w_fi w2 (n_v vs 0) 18 := by show v_iv (w_fd _ _ _) = v_iv (w_fd _ _ _); rw [s2.2, if_neg (fun e => absurd e.2 (by decide))]
  have hE_0_7_1 : ∀ j : Int, w_ei ws (w_ar ws (n_v vs 0) 7) j = w_ei w1 (w_ar ws (n_v vs 0) 7) j := fun j => s1.1 _ _
  have hE_0_7_2 : ∀ j : Int, w_ei w1 (w_ar ws (n_v vs 0) 7) j = w_ei w2 (w_ar ws (n_v vs 0) 7) j := fun j => s2.1 _ _
  have hE_0_8_1 : ∀ j : Int, w_ei ws (w_ar ws (n_v vs 0) 8) j = w_ei w1 (w_ar ws (n_v vs 0) 8) j := fun j => s1.1 _ _
  have hE_0_8_2 : ∀ j : Int, w_ei w1 (w_ar ws (n_v vs 0) 8) j = w_ei w2 (w_ar ws (n_v vs 0) 8) j := fun j => s2.1 _ _
  have hE_0_14_1 : ∀ j : Int, w_ei ws (w_ar ws (n_v vs 0) 14) j = w_ei w1 (w_ar ws (n_v vs 0) 14) j := fun j => s1.1 _ _
  have hE_0_14_2 : ∀ j : Int, w_ei w1 (w_ar ws (n_v vs 0) 14) j = w_ei w2 (w_ar ws (n_v vs 0) 14) j := fun j => s2.1 _ _
  have hE_0_16_1 : ∀ j : Int, w_ei ws (w_ar ws (n_v vs 0) 16) j = w_ei w1 (w_ar ws (n_v vs 0) 16) j := fun j => s1.1 _ _
  have hE_0_16_2 : ∀ j : Int, w_ei w1 (w_ar ws (n_v vs 0) 16) j = w_ei w2 (w_ar ws (n_v vs 0) 16) j := fun j => s2.1 _ _
  have kz_0_0 := fdq_23 hD hth r0
  have kz_0_1 := fdq_38 hD hth r0
  have kz_0_17 := fdq_282 hD hth r0
  have nf0 : fc_1 PRD (20, [0, 13], [60, 0, 1, 737, 16]) ws (vs) := ⟨nf_in hl rfl, sgq_821 (vc_Gr_alter_at_kx_39_0 (v_iv (n_v vs 9)) (v_iv (n_v vs 13)) (w_fi ws (n_v vs 0) 0) (w_fi ws (n_v vs 0) 1) (w_fi ws (n_v vs 0) 17) (w_ei ws (w_ar ws (n_v vs 0) 16)) (w_ei ws (w_ar ws (n_v vs 0) 14)) (w_ei ws (w_ar ws (n_v vs 0) 7)) (w_ei ws (w_ar ws (n_v vs 0) 8)) (w_ei w1 (w_ar ws (n_v vs 0) 16)) (w_ei w1 (w_ar ws (n_v vs 0) 14)) (w_ei w1 (w_ar ws (n_v vs 0) 7)) (w_ei w1 (w_ar ws (n_v vs 0) 8)) (w_fi w1 (n_v vs 0) 0) (w_fi w1 (n_v vs 0) 1) (w_ei w2 (w_ar ws (n_v vs 0) 16)) (w_fi w2 (n_v vs 0) 18) (w_ei w2 (w_ar ws (n_v vs 0) 14)) (w_ei w2 (w_ar ws (n_v vs 0) 7)) (w_ei w2 (w_ar ws (n_v vs 0) 8)) (w_fi w2 (n_v vs 0) 0) (w_fi w2 (n_v vs 0) 1) (w_fi w1 (n_v vs 0) 17) (w_fi w1 (n_v vs 0) 18) k9 k13 d0 f18 fe_0_0_1 fe_0_1_1 fe_0_17_1 fe_0_0_2 fe_0_1_2 fe_0_18_2 hE_0_7_1 hE_0_7_2 hE_0_8_1 hE_0_8_2 hE_0_14_1 hE_0_14_2 hE_0_16_1 hE_0_16_2 kz_0_0 kz_0_1 kz_0_17)⟩
  refine ⟨(fun _ h => (by cases h)), [], trivial, ?_, (fun _ h => (by cases h))⟩
  rw [List.append_nil]
  exact List.forall_mem_cons.mpr ⟨⟨show (20 : Nat) < 100 from by decide, nf0⟩, (fun _ h => (by cases h))⟩
set_option maxHeartbeats 4000000 in
theorem vc_Gr_alter_at_kx_40_0 (x13 : Int) (x14 : Int) (undone_0 : Int) (done_0 : Int) (k13 : 1 ≤ x13 ∧ x13 ≤ 30) (k14 : 0 ≤ x14 ∧ x14 ≤ 0) (g0 : x14 = undone_0) (g1 : x13 = done_0) (kz_0_17 : 0 ≤ done_0 ∧ done_0 ≤ 30) (kz_0_18 : 0 ≤ undone_0 ∧ undone_0 ≤ 30) : (done_0 + undone_0) ≤ 30 := by
  first
    | omega
  
set_option maxHeartbeats 4000000 in
theorem vc_Gr_alter_at_kx_40_1 (x13 : Int) (x14 : Int) (undone_0 : Int) (done_0 : Int) (past_0 : Int → Int) (k13 : 1 ≤ x13 ∧ x13 ≤ 30) (k14 : 0 ≤ x14 ∧ x14 ≤ 0) (g0 : x14 = undone_0) (g1 : x13 = done_0) (f8 : PRI (past_0) (x13)) (kz_0_17 : 0 ≤ done_0 ∧ done_0 ≤ 30) (kz_0_18 : 0 ≤ undone_0 ∧ undone_0 ≤ 30) : PDQ (done_0) (undone_0) (past_0) := by
  first
    | assumption
    | exact pri_pdq ‹PRI _ _› (by omega) (by omega)
  
def o_Gr_alter_at_kx_40 : or_T := (87, 15, [(0, (2, 0, 0, [3])), (4, (2, 0, 0, [61])), (5, (0, 0, 24, [])), (7, (2, 0, 0, [52])), (8, (2, 0, 0, [53])), (9, (0, 0, 29, [])), (10, (0, 1, 48, [])), (11, (0, 30, 30, [])), (12, (0, 1, 1, [])), (13, (0, 1, 30, [])), (14, (0, 0, 0, []))], [(9, [14, 0], [18]), (9, [13, 0], [17]), (9, [5, 0], [0]), (9, [10, 0], [1]), (9, [7, 0], [7]), (9, [8, 0], [8]), (9, [4, 0], [16]), (20, [0], [60, 2, 3, 670, 0, 1, 14, 7, 8]), (20, [0, 13], [60, 0, 1, 738, 16]), (20, [0], [60, 2, 2, 596, 0, 1, 7, 8]), (102, [14], [2305843009213693952]), (101, [0, 14], [18]), (101, [0, 13], [17]), (1, [13, 9, 12], []), (7, [9, 11], [1])], [], [], [(20, [0], [50, 2, 0, 17, 18, 0, 8, 4, 3, 2, 0, 17, 2, 0, 18, 0, 30]), (20, [0], [60, 2, 1, 739, 17, 18, 16])], [], [(13, 9, 1, 1)])
theorem oo_Gr_alter_at_kx_40 {kA : Nat → ClassId} : or_ok PRD kA GG o_Gr_alter_at_kx_40 := by
  refine or_mk fun A ta ws vs hD hth hl => ?_
  intro t0 r0 t4 r4 t5 k5 t7 r7 t8 r8 t9 k9 t10 k10 t11 k11 t12 k12 t13 k13 t14 k14 d0 f0 f1 f2 f3 f4 f5 f6 f7 f8 f9 ta1 w1 le1 s1 ta2 w2 le2 s2 ta3 w3 le3 s3 f13 f14
  replace f0 := shm_785 f0
  replace f1 := shm_781 f1
  have g0 : v_iv (n_v vs 14) = w_fi ws (n_v vs 0) 18 := congrArg v_iv f0
  have g1 : v_iv (n_v vs 13) = w_fi ws (n_v vs 0) 17 := congrArg v_iv f1
  have kz_0_17 := fdq_282 hD hth r0
  have kz_0_18 := fdq_283 hD hth r0
  have nf0 : fc_1 PRD (20, [0], [50, 2, 0, 17, 18, 0, 8, 4, 3, 2, 0, 17, 2, 0, 18, 0, 30]) ws (vs) := ⟨nf_in hl rfl, sgq_1462 (vc_Gr_alter_at_kx_40_0 (v_iv (n_v vs 13)) (v_iv (n_v vs 14)) (w_fi ws (n_v vs 0) 18) (w_fi ws (n_v vs 0) 17) k13 k14 g0 g1 kz_0_17 kz_0_18)⟩
  have nf1 : fc_1 PRD (20, [0], [60, 2, 1, 739, 17, 18, 16]) ws (vs) := ⟨nf_in hl rfl, sgq_1327 (vc_Gr_alter_at_kx_40_1 (v_iv (n_v vs 13)) (v_iv (n_v vs 14)) (w_fi ws (n_v vs 0) 18) (w_fi ws (n_v vs 0) 17) (w_ei ws (w_ar ws (n_v vs 0) 16)) k13 k14 g0 g1 (shm_826 f8) kz_0_17 kz_0_18)⟩
  refine ⟨(fun _ h => (by cases h)), [], trivial, ?_, (fun _ h => (by cases h))⟩
  rw [List.append_nil]
  exact List.forall_mem_cons.mpr ⟨⟨show (20 : Nat) < 100 from by decide, nf0⟩, List.forall_mem_cons.mpr ⟨⟨show (20 : Nat) < 100 from by decide, nf1⟩, (fun _ h => (by cases h))⟩⟩
set_option maxHeartbeats 4000000 in
theorem vc_Gr_alter_at_kx_41_0 (x12 : Int) (x14 : Int) (k12 : 122 ≤ x12 ∧ x12 ≤ 122) (k14 : 3660 ≤ x14 ∧ x14 ≤ 3660) : x12 + x14 ≤ 3782 := by
  first
    | omega
  
set_option maxHeartbeats 4000000 in
theorem vc_Gr_alter_at_kx_41_1 (x13 : Int) (x14 : Int) (k13 : 0 ≤ x13 ∧ x13 ≤ 0) (k14 : 3660 ≤ x14 ∧ x14 ≤ 3660) : x13 + x14 ≤ 3782 := by
  first
    | omega
  
set_option maxHeartbeats 4000000 in
theorem vc_Gr_alter_at_kx_41_2 (x9 : Int) (x12 : Int) (x13 : Int) (x14 : Int) (a4_0 : Int → Int) (k9 : 30 ≤ x9 ∧ x9 ≤ 30) (k12 : 122 ≤ x12 ∧ x12 ≤ 122) (k13 : 0 ≤ x13 ∧ x13 ≤ 0) (k14 : 3660 ≤ x14 ∧ x14 ≤ 3660) (f6 : PNI (a4_0) (x9)) : MV1 (a4_0) (a4_0) (x12) (x13) (x14) := by
  first
    | exact ⟨by omega, by omega, by omega, fun r a b => (‹PNI _ _›) r a (by omega)⟩
  
def o_Gr_alter_at_kx_41 : or_T := (56, 15, [(0, (2, 0, 0, [3])), (4, (2, 0, 0, [61])), (5, (0, 0, 24, [])), (7, (2, 0, 0, [52])), (8, (2, 0, 0, [53])), (9, (0, 30, 30, [])), (10, (0, 1, 48, [])), (11, (0, 30, 30, [])), (12, (0, 122, 122, [])), (13, (0, 0, 0, [])), (14, (0, 3660, 3660, []))], [(9, [5, 0], [0]), (9, [10, 0], [1]), (9, [7, 0], [7]), (9, [8, 0], [8]), (7, [9, 11], [0]), (9, [9, 0], [17]), (20, [4, 9], [61, 1, 762]), (20, [0], [50, 2, 0, 17, 18, 0, 8, 4, 3, 2, 0, 17, 2, 0, 18, 0, 30]), (20, [0], [60, 2, 3, 670, 0, 1, 14, 7, 8]), (20, [0], [60, 2, 2, 596, 0, 1, 7, 8])], [], [], [(21, [12, 14], [3782]), (21, [13, 14], [3782]), (20, [4, 4, 12, 13, 14], [61, 2, 763])], [], [])
theorem oo_Gr_alter_at_kx_41 {kA : Nat → ClassId} : or_ok PRD kA GG o_Gr_alter_at_kx_41 := by
  refine or_mk fun A ta ws vs hD hth hl => ?_
  intro t0 r0 t4 r4 t5 k5 t7 r7 t8 r8 t9 k9 t10 k10 t11 k11 t12 k12 t13 k13 t14 k14 f0 f1 f2 f3 f4 f5 f6 f7 f8 f9
  have nf0 : fc_1 PRD (21, [12, 14], [3782]) ws (vs) := ⟨nf_in hl rfl, sgq_1744 (vc_Gr_alter_at_kx_41_0 (v_iv (n_v vs 12)) (v_iv (n_v vs 14)) k12 k14)⟩
  have nf1 : fc_1 PRD (21, [13, 14], [3782]) ws (vs) := ⟨nf_in hl rfl, sgq_1744 (vc_Gr_alter_at_kx_41_1 (v_iv (n_v vs 13)) (v_iv (n_v vs 14)) k13 k14)⟩
  have nf2 : fc_1 PRD (20, [4, 4, 12, 13, 14], [61, 2, 763]) ws (vs) := ⟨nf_in hl rfl, sgq_1745 (vc_Gr_alter_at_kx_41_2 (v_iv (n_v vs 9)) (v_iv (n_v vs 12)) (v_iv (n_v vs 13)) (v_iv (n_v vs 14)) (w_ei ws (v_ad (n_v vs 4))) k9 k12 k13 k14 (shm_1743 f6))⟩
  refine ⟨(fun _ h => (by cases h)), [], trivial, ?_, (fun _ h => (by cases h))⟩
  rw [List.append_nil]
  exact List.forall_mem_cons.mpr ⟨⟨show (21 : Nat) < 100 from by decide, nf0⟩, List.forall_mem_cons.mpr ⟨⟨show (21 : Nat) < 100 from by decide, nf1⟩, List.forall_mem_cons.mpr ⟨⟨show (20 : Nat) < 100 from by decide, nf2⟩, (fun _ h => (by cases h))⟩⟩⟩
set_option maxHeartbeats 4000000 in
theorem vc_Gr_alter_at_kx_42_0 (x9 : Int) (x12 : Int) (x13 : Int) (x14 : Int) (nodes_0 : Int) (edges_0 : Int) (done_0 : Int) (near_0 : Int → Int) (tail_0 : Int → Int) (head_0 : Int → Int) (past_0 : Int → Int) (done_1 : Int) (near_1 : Int → Int) (tail_1 : Int → Int) (head_1 : Int → Int) (nodes_1 : Int) (edges_1 : Int) (past_1 : Int → Int) (k9 : 30 ≤ x9 ∧ x9 ≤ 30) (k12 : 122 ≤ x12 ∧ x12 ≤ 122) (k13 : 0 ≤ x13 ∧ x13 ≤ 0) (k14 : 3660 ≤ x14 ∧ x14 ≤ 3660) (f18 : MV2 (past_1) (past_1) (x12) (x13) (x14)) (fe_0_0_1 : nodes_0 = nodes_1) (fe_0_1_1 : edges_0 = edges_1) (fe_0_17_1 : done_0 = done_1) (hE_0_7_1 : ∀ j : Int, tail_0 j = tail_1 j) (hE_0_8_1 : ∀ j : Int, head_0 j = head_1 j) (hE_0_14_1 : ∀ j : Int, near_0 j = near_1 j) (hE_0_16_1 : ∀ j : Int, past_0 j = past_1 j) (kz_0_0 : 0 ≤ nodes_0 ∧ nodes_0 ≤ 24) (kz_0_1 : 0 ≤ edges_0 ∧ edges_0 ≤ 48) (kz_0_17 : 0 ≤ done_0 ∧ done_0 ≤ 30) : PRO (past_0) (x9) := by
  subst fe_0_0_1
  subst fe_0_1_1
  subst fe_0_17_1
  have e_hE_0_7_1 := funext hE_0_7_1; subst e_hE_0_7_1
  have e_hE_0_8_1 := funext hE_0_8_1; subst e_hE_0_8_1
  have e_hE_0_14_1 := funext hE_0_14_1; subst e_hE_0_14_1
  have e_hE_0_16_1 := funext hE_0_16_1; subst e_hE_0_16_1
  first
    | exact pro_pdq ‹PDQ _ _ _› (by omega) (by omega)
    | exact pri_pro ‹PNI _ _› (by omega)
    | (have q := (‹MV2 _ _ _ _ _›); exact fun r a b => q r a (by omega))
    | exact pro_zero (by omega) (fun j a b => by have q := hT10 j a (by omega); omega)
  
def o_Gr_alter_at_kx_42 : or_T := (82, 16, [(0, (2, 0, 0, [3])), (4, (2, 0, 0, [61])), (5, (0, 0, 24, [])), (7, (2, 0, 0, [52])), (8, (2, 0, 0, [53])), (9, (0, 30, 30, [])), (10, (0, 1, 48, [])), (11, (0, 30, 30, [])), (12, (0, 122, 122, [])), (13, (0, 0, 0, [])), (14, (0, 3660, 3660, [])), (15, (0, 0, 0, []))], [(9, [15, 0], [18]), (9, [5, 0], [0]), (9, [10, 0], [1]), (9, [7, 0], [7]), (9, [8, 0], [8]), (9, [4, 0], [16]), (9, [9, 0], [17]), (21, [12, 14], [3782]), (21, [13, 14], [3782]), (20, [0], [60, 2, 3, 670, 0, 1, 14, 7, 8]), (20, [0], [60, 2, 2, 596, 0, 1, 7, 8]), (20, [4, 4, 12, 13, 14], [61, 2, 764]), (101, [0, 15], [18]), (21, [12, 14], [3782]), (21, [13, 14], [3782]), (20, [0], [50, 2, 0, 17, 18, 0, 8, 4, 3, 2, 0, 17, 2, 0, 18, 0, 30]), (20, [0], [60, 2, 3, 670, 0, 1, 14, 7, 8]), (20, [0], [60, 2, 2, 596, 0, 1, 7, 8]), (20, [4, 4, 12, 13, 14], [61, 2, 764]), (102, [14], [2305843009213693952]), (21, [12, 14], [3782]), (21, [13, 14], [3782]), (7, [9, 11], [0])], [], [], [(20, [0, 9], [60, 0, 1, 737, 16])], [], [])
theorem oo_Gr_alter_at_kx_42 {kA : Nat → ClassId} : or_ok PRD kA GG o_Gr_alter_at_kx_42 := by
  refine or_mk fun A ta ws vs hD hth hl => ?_
  intro t0 r0 t4 r4 t5 k5 t7 r7 t8 r8 t9 k9 t10 k10 t11 k11 t12 k12 t13 k13 t14 k14 t15 k15 f0 f1 f2 f3 f4 f5 f6 f7 f8 f9 f10 f11 ta1 w1 le1 s1 f13 f14 f15 f16 f17 f18 ta2 w2 le2 s2 f20 f21 f22
  replace f5 := shm_188 f5
  have s1 : (∀ b j, w_el ws b j = w_el w1 b j) ∧ ∀ b j, w_fd ws b j = if b = v_ad (n_v vs 0) ∧ j = 18 then n_v vs 15 else w_fd w1 b j := s1.2
  replace f18 := shm_1746 f18
  have ar_0_7_1 : w_ar w1 (n_v vs 0) 7 = w_ar ws (n_v vs 0) 7 := by show v_ad (w_fd w1 _ _) = v_ad (w_fd ws _ _); rw [s1.2, if_neg (fun e => absurd e.2 (by decide))]
  have ar_0_8_1 : w_ar w1 (n_v vs 0) 8 = w_ar ws (n_v vs 0) 8 := by show v_ad (w_fd w1 _ _) = v_ad (w_fd ws _ _); rw [s1.2, if_neg (fun e => absurd e.2 (by decide))]
  have ar_0_14_1 : w_ar w1 (n_v vs 0) 14 = w_ar ws (n_v vs 0) 14 := by show v_ad (w_fd w1 _ _) = v_ad (w_fd ws _ _); rw [s1.2, if_neg (fun e => absurd e.2 (by decide))]
  have ad_4 : v_ad (n_v vs 4) = w_ar ws (n_v vs 0) 16 := congrArg v_ad f5
  simp only [ad_4, ar_0_7_1, ar_0_8_1, ar_0_14_1] at f18
  have fe_0_0_1 : w_fi ws (n_v vs 0) 0 = w_fi w1 (n_v vs 0) 0 := by show v_iv (w_fd _ _ _) = v_iv (w_fd _ _ _); rw [s1.2, if_neg (fun e => absurd e.2 (by decide))]
  have fe_0_1_1 : w_fi ws (n_v vs 0) 1 = w_fi w1 (n_v vs 0) 1 := by show v_iv (w_fd _ _ _) = v_iv (w_fd _ _ _); rw [s1.2, if_neg (fun e => absurd e.2 (by decide))]
  have fe_0_17_1 : w_fi ws (n_v vs 0) 17 = w_fi w1 (n_v vs 0) 17 := by show v_iv (w_fd _ _ _) = v_iv (w_fd _ _ _); rw [s1.2, if_neg (fun e => absurd e.2 (by decide))]
  have hE_0_7_1 : ∀ j : Int, w_ei ws (w_ar ws (n_v vs 0) 7) j = w_ei w1 (w_ar ws (n_v vs 0) 7) j := fun j => s1.1 _ _
  have hE_0_8_1 : ∀ j : Int, w_ei ws (w_ar ws (n_v vs 0) 8) j = w_ei w1 (w_ar ws (n_v vs 0) 8) j := fun j => s1.1 _ _
  have hE_0_14_1 : ∀ j : Int, w_ei ws (w_ar ws (n_v vs 0) 14) j = w_ei w1 (w_ar ws (n_v vs 0) 14) j := fun j => s1.1 _ _
  have hE_0_16_1 : ∀ j : Int, w_ei ws (w_ar ws (n_v vs 0) 16) j = w_ei w1 (w_ar ws (n_v vs 0) 16) j := fun j => s1.1 _ _
  have kz_0_0 := fdq_23 hD hth r0
  have kz_0_1 := fdq_38 hD hth r0
  have kz_0_17 := fdq_282 hD hth r0
  have nf0 : fc_1 PRD (20, [0, 9], [60, 0, 1, 737, 16]) ws (vs) := ⟨nf_in hl rfl, sgq_821 (vc_Gr_alter_at_kx_42_0 (v_iv (n_v vs 9)) (v_iv (n_v vs 12)) (v_iv (n_v vs 13)) (v_iv (n_v vs 14)) (w_fi ws (n_v vs 0) 0) (w_fi ws (n_v vs 0) 1) (w_fi ws (n_v vs 0) 17) (w_ei ws (w_ar ws (n_v vs 0) 14)) (w_ei ws (w_ar ws (n_v vs 0) 7)) (w_ei ws (w_ar ws (n_v vs 0) 8)) (w_ei ws (w_ar ws (n_v vs 0) 16)) (w_fi w1 (n_v vs 0) 17) (w_ei w1 (w_ar ws (n_v vs 0) 14)) (w_ei w1 (w_ar ws (n_v vs 0) 7)) (w_ei w1 (w_ar ws (n_v vs 0) 8)) (w_fi w1 (n_v vs 0) 0) (w_fi w1 (n_v vs 0) 1) (w_ei w1 (w_ar ws (n_v vs 0) 16)) k9 k12 k13 k14 f18 fe_0_0_1 fe_0_1_1 fe_0_17_1 hE_0_7_1 hE_0_8_1 hE_0_14_1 hE_0_16_1 kz_0_0 kz_0_1 kz_0_17)⟩
  refine ⟨(fun _ h => (by cases h)), [], trivial, ?_, (fun _ h => (by cases h))⟩
  rw [List.append_nil]
  exact List.forall_mem_cons.mpr ⟨⟨show (20 : Nat) < 100 from by decide, nf0⟩, (fun _ h => (by cases h))⟩
set_option maxHeartbeats 4000000 in
theorem vc_Gr_alter_at_kx_43_0 (x9 : Int) (x15 : Int) (undone_0 : Int) (done_0 : Int) (k9 : 30 ≤ x9 ∧ x9 ≤ 30) (k15 : 0 ≤ x15 ∧ x15 ≤ 0) (g0 : x15 = undone_0) (g5 : x9 = done_0) (kz_0_17 : 0 ≤ done_0 ∧ done_0 ≤ 30) (kz_0_18 : 0 ≤ undone_0 ∧ undone_0 ≤ 30) : (done_0 + undone_0) ≤ 30 := by
  first
    | omega
  
set_option maxHeartbeats 4000000 in
theorem vc_Gr_alter_at_kx_43_1 (x9 : Int) (x15 : Int) (undone_0 : Int) (done_0 : Int) (past_0 : Int → Int) (k9 : 30 ≤ x9 ∧ x9 ≤ 30) (k15 : 0 ≤ x15 ∧ x15 ≤ 0) (g0 : x15 = undone_0) (g5 : x9 = done_0) (f8 : PRI (past_0) (x9)) (kz_0_17 : 0 ≤ done_0 ∧ done_0 ≤ 30) (kz_0_18 : 0 ≤ undone_0 ∧ undone_0 ≤ 30) : PDQ (done_0) (undone_0) (past_0) := by
  first
    | assumption
    | exact pri_pdq ‹PRI _ _› (by omega) (by omega)
  
def o_Gr_alter_at_kx_43 : or_T := (87, 16, [(0, (2, 0, 0, [3])), (4, (2, 0, 0, [61])), (5, (0, 0, 24, [])), (7, (2, 0, 0, [52])), (8, (2, 0, 0, [53])), (9, (0, 30, 30, [])), (10, (0, 1, 48, [])), (11, (0, 30, 30, [])), (15, (0, 0, 0, []))], [(9, [15, 0], [18]), (9, [5, 0], [0]), (9, [10, 0], [1]), (9, [7, 0], [7]), (9, [8, 0], [8]), (9, [9, 0], [17]), (9, [4, 0], [16]), (20, [0], [60, 2, 3, 670, 0, 1, 14, 7, 8]), (20, [0, 9], [60, 0, 1, 738, 16]), (20, [0], [60, 2, 2, 596, 0, 1, 7, 8]), (102, [15], [2305843009213693952]), (101, [0, 15], [18]), (102, [14], [2305843009213693952]), (7, [9, 11], [0])], [], [], [(20, [0], [50, 2, 0, 17, 18, 0, 8, 4, 3, 2, 0, 17, 2, 0, 18, 0, 30]), (20, [0], [60, 2, 1, 739, 17, 18, 16])], [], [])
theorem oo_Gr_alter_at_kx_43 {kA : Nat → ClassId} : or_ok PRD kA GG o_Gr_alter_at_kx_43 := by
  refine or_mk fun A ta ws vs hD hth hl => ?_
  intro t0 r0 t4 r4 t5 k5 t7 r7 t8 r8 t9 k9 t10 k10 t11 k11 t15 k15 f0 f1 f2 f3 f4 f5 f6 f7 f8 f9 ta1 w1 le1 s1 ta2 w2 le2 s2 ta3 w3 le3 s3 f13
  replace f0 := shm_785 f0
  replace f5 := shm_781 f5
  have g0 : v_iv (n_v vs 15) = w_fi ws (n_v vs 0) 18 := congrArg v_iv f0
  have g5 : v_iv (n_v vs 9) = w_fi ws (n_v vs 0) 17 := congrArg v_iv f5
  have kz_0_17 := fdq_282 hD hth r0
  have kz_0_18 := fdq_283 hD hth r0
  have nf0 : fc_1 PRD (20, [0], [50, 2, 0, 17, 18, 0, 8, 4, 3, 2, 0, 17, 2, 0, 18, 0, 30]) ws (vs) := ⟨nf_in hl rfl, sgq_1462 (vc_Gr_alter_at_kx_43_0 (v_iv (n_v vs 9)) (v_iv (n_v vs 15)) (w_fi ws (n_v vs 0) 18) (w_fi ws (n_v vs 0) 17) k9 k15 g0 g5 kz_0_17 kz_0_18)⟩
  have nf1 : fc_1 PRD (20, [0], [60, 2, 1, 739, 17, 18, 16]) ws (vs) := ⟨nf_in hl rfl, sgq_1327 (vc_Gr_alter_at_kx_43_1 (v_iv (n_v vs 9)) (v_iv (n_v vs 15)) (w_fi ws (n_v vs 0) 18) (w_fi ws (n_v vs 0) 17) (w_ei ws (w_ar ws (n_v vs 0) 16)) k9 k15 g0 g5 (shm_826 f8) kz_0_17 kz_0_18)⟩
  refine ⟨(fun _ h => (by cases h)), [], trivial, ?_, (fun _ h => (by cases h))⟩
  rw [List.append_nil]
  exact List.forall_mem_cons.mpr ⟨⟨show (20 : Nat) < 100 from by decide, nf0⟩, List.forall_mem_cons.mpr ⟨⟨show (20 : Nat) < 100 from by decide, nf1⟩, (fun _ h => (by cases h))⟩⟩
set_option maxHeartbeats 4000000 in
theorem vc_Gr_alter_at_kx_44_0 (x9 : Int) (x14 : Int) (nodes_0 : Int) (edges_0 : Int) (done_0 : Int) (past_0 : Int → Int) (near_0 : Int → Int) (tail_0 : Int → Int) (head_0 : Int → Int) (past_1 : Int → Int) (near_1 : Int → Int) (tail_1 : Int → Int) (head_1 : Int → Int) (nodes_1 : Int) (edges_1 : Int) (past_2 : Int → Int) (undone_2 : Int) (near_2 : Int → Int) (tail_2 : Int → Int) (head_2 : Int → Int) (nodes_2 : Int) (edges_2 : Int) (done_1 : Int) (undone_1 : Int) (k9 : 0 ≤ x9 ∧ x9 ≤ 29) (k14 : 1 ≤ x14 ∧ x14 ≤ 30) (d0 : x9 + 1 ≤ x14 ∧ x14 ≤ x9 + 1) (f18 : PNI (past_2) (x9)) (fe_0_0_1 : nodes_0 = nodes_1) (fe_0_1_1 : edges_0 = edges_1) (fe_0_17_1 : done_0 = done_1) (fe_0_0_2 : nodes_1 = nodes_2) (fe_0_1_2 : edges_1 = edges_2) (fe_0_18_2 : undone_1 = undone_2) (hE_0_7_1 : ∀ j : Int, tail_0 j = tail_1 j) (hE_0_7_2 : ∀ j : Int, tail_1 j = tail_2 j) (hE_0_8_1 : ∀ j : Int, head_0 j = head_1 j) (hE_0_8_2 : ∀ j : Int, head_1 j = head_2 j) (hE_0_14_1 : ∀ j : Int, near_0 j = near_1 j) (hE_0_14_2 : ∀ j : Int, near_1 j = near_2 j) (hE_0_16_1 : ∀ j : Int, past_0 j = past_1 j) (hE_0_16_2 : ∀ j : Int, past_1 j = past_2 j) (kz_0_0 : 0 ≤ nodes_0 ∧ nodes_0 ≤ 24) (kz_0_1 : 0 ≤ edges_0 ∧ edges_0 ≤ 48) (kz_0_17 : 0 ≤ done_0 ∧ done_0 ≤ 30) : PRO (past_0) (x14) := by
  subst fe_0_0_1
  subst fe_0_1_1
  subst fe_0_17_1
  subst fe_0_0_2
  subst fe_0_1_2
  subst fe_0_18_2
  have e_hE_0_7_1 := funext hE_0_7_1; subst e_hE_0_7_1
  have e_hE_0_7_2 := funext hE_0_7_2; subst e_hE_0_7_2
  have e_hE_0_8_1 := funext hE_0_8_1; subst e_hE_0_8_1
  have e_hE_0_8_2 := funext hE_0_8_2; subst e_hE_0_8_2
  have e_hE_0_14_1 := funext hE_0_14_1; subst e_hE_0_14_1
  have e_hE_0_14_2 := funext hE_0_14_2; subst e_hE_0_14_2
  have e_hE_0_16_1 := funext hE_0_16_1; subst e_hE_0_16_1
  have e_hE_0_16_2 := funext hE_0_16_2; subst e_hE_0_16_2
  first
    | exact pro_pdq ‹PDQ _ _ _› (by omega) (by omega)
    | exact pri_pro ‹PNI _ _› (by omega)
    | (have q := (‹MV2 _ _ _ _ _›); exact fun r a b => q r a (by omega))
    | exact pro_zero (by omega) (fun j a b => by have q := hT10 j a (by omega); omega)
  
def o_Gr_alter_at_kx_44 : or_T := (82, 16, [(0, (2, 0, 0, [3])), (4, (2, 0, 0, [61])), (5, (0, 0, 24, [])), (7, (2, 0, 0, [52])), (8, (2, 0, 0, [53])), (9, (0, 0, 29, [])), (11, (0, 0, 47, [])), (12, (0, 30, 30, [])), (13, (0, 1, 1, [])), (14, (0, 1, 30, [])), (15, (0, 0, 0, []))], [(9, [15, 0], [18]), (9, [5, 0], [0]), (9, [11, 0], [1]), (9, [7, 0], [7]), (9, [8, 0], [8]), (9, [4, 0], [16]), (9, [14, 0], [17]), (20, [4, 9], [61, 1, 762]), (20, [0], [60, 2, 3, 670, 0, 1, 14, 7, 8]), (20, [0], [60, 2, 2, 596, 0, 1, 7, 8]), (101, [0, 15], [18]), (20, [4, 9], [61, 1, 762]), (20, [0], [60, 2, 3, 670, 0, 1, 14, 7, 8]), (20, [0], [60, 2, 2, 596, 0, 1, 7, 8]), (101, [0, 14], [17]), (1, [14, 9, 13], []), (9, [9, 0], [17]), (7, [9, 12], [1]), (20, [4, 9], [61, 1, 762]), (20, [0], [50, 2, 0, 17, 18, 0, 8, 4, 3, 2, 0, 17, 2, 0, 18, 0, 30]), (20, [0], [60, 2, 3, 670, 0, 1, 14, 7, 8]), (20, [0], [60, 2, 2, 596, 0, 1, 7, 8])], [], [], [(20, [0, 14], [60, 0, 1, 737, 16])], [], [(14, 9, 1, 1)])
theorem oo_Gr_alter_at_kx_44 {kA : Nat → ClassId} : or_ok PRD kA GG o_Gr_alter_at_kx_44 := by
  refine or_mk fun A ta ws vs hD hth hl => ?_
  intro t0 r0 t4 r4 t5 k5 t7 r7 t8 r8 t9 k9 t11 k11 t12 k12 t13 k13 t14 k14 t15 k15 d0 f0 f1 f2 f3 f4 f5 f6 f7 f8 f9 ta1 w1 le1 s1 f11 f12 f13 ta2 w2 le2 s2 f15 f16 f17 f18 f19 f20 f21
  replace f5 := shm_188 f5
  have s1 : (∀ b j, w_el ws b j = w_el w1 b j) ∧ ∀ b j, w_fd ws b j = if b = v_ad (n_v vs 0) ∧ j = 18 then n_v vs 15 else w_fd w1 b j := s1.2
  have s2 : (∀ b j, w_el w1 b j = w_el w2 b j) ∧ ∀ b j, w_fd w1 b j = if b = v_ad (n_v vs 0) ∧ j = 17 then n_v vs 14 else w_fd w2 b j := s2.2
  replace f18 := shm_1743 f18
  have ar_0_7_1 : w_ar w1 (n_v vs 0) 7 = w_ar ws (n_v vs 0) 7 := by show v_ad (w_fd w1 _ _) = v_ad (w_fd ws _ _); rw [s1.2, if_neg (fun e => absurd e.2 (by decide))]
  have ar_0_7_2 : w_ar w2 (n_v vs 0) 7 = w_ar ws (n_v vs 0) 7 := by rw [← ar_0_7_1]; show v_ad (w_fd w2 _ _) = v_ad (w_fd w1 _ _); rw [s2.2, if_neg (fun e => absurd e.2 (by decide))]
  have ar_0_8_1 : w_ar w1 (n_v vs 0) 8 = w_ar ws (n_v vs 0) 8 := by show v_ad (w_fd w1 _ _) = v_ad (w_fd ws _ _); rw [s1.2, if_neg (fun e => absurd e.2 (by decide))]
  have ar_0_8_2 : w_ar w2 (n_v vs 0) 8 = w_ar ws (n_v vs 0) 8 := by rw [← ar_0_8_1]; show v_ad (w_fd w2 _ _) = v_ad (w_fd w1 _ _); rw [s2.2, if_neg (fun e => absurd e.2 (by decide))]
  have ar_0_14_1 : w_ar w1 (n_v vs 0) 14 = w_ar ws (n_v vs 0) 14 := by show v_ad (w_fd w1 _ _) = v_ad (w_fd ws _ _); rw [s1.2, if_neg (fun e => absurd e.2 (by decide))]
  have ar_0_14_2 : w_ar w2 (n_v vs 0) 14 = w_ar ws (n_v vs 0) 14 := by rw [← ar_0_14_1]; show v_ad (w_fd w2 _ _) = v_ad (w_fd w1 _ _); rw [s2.2, if_neg (fun e => absurd e.2 (by decide))]
  have ad_4 : v_ad (n_v vs 4) = w_ar ws (n_v vs 0) 16 := congrArg v_ad f5
  simp only [ad_4, ar_0_7_2, ar_0_8_2, ar_0_14_2] at f18
  have fe_0_0_1 : w_fi ws (n_v vs 0) 0 = w_fi w1 (n_v vs 0) 0 := by show v_iv (w_fd _ _ _) = v_iv (w_fd _ _ _); rw [s1.2, if_neg (fun e => absurd e.2 (by decide))]
  have fe_0_1_1 : w_fi ws (n_v vs 0) 1 = w_fi w1 (n_v vs 0) 1 := by show v_iv (w_fd _ _ _) = v_iv (w_fd _ _ _); rw [s1.2, if_neg (fun e => absurd e.2 (by decide))]
  have fe_0_17_1 : w_fi ws (n_v vs 0) 17 = w_fi w1 (n_v vs 0) 17 := by show v_iv (w_fd _ _ _) = v_iv (w_fd _ _ _); rw [s1.2, if_neg (fun e => absurd e.2 (by decide))]
  have fe_0_0_2 : w_fi w1 (n_v vs 0) 0 = w_fi w2 (n_v vs 0) 0 := by show v_iv (w_fd _ _ _) = v_iv (w_fd _ _ _); rw [s2.2, if_neg (fun e => absurd e.2 (by decide))]
  have fe_0_1_2 : w_fi w1 (n_v vs 0) 1 = w_fi w2 (n_v vs 0) 1 := by show v_iv (w_fd _ _ _) = v_iv (w_fd _ _ _); rw [s2.2, if_neg (fun e => absurd e.2 (by decide))]
  have fe_0_18_2 : w_fi w1 (n_v vs 0) 18 = w_fi w2 (n_v vs 0) 18 := by show v_iv (w_fd _ _ _) = v_iv (w_fd _ _ _); rw [s2.2, if_neg (fun e => absurd e.2 (by decide))]
  have hE_0_7_1 : ∀ j : Int, w_ei ws (w_ar ws (n_v vs 0) 7) j = w_ei w1 (w_ar ws (n_v vs 0) 7) j := fun j => s1.1 _ _
  have hE_0_7_2 : ∀ j : Int, w_ei w1 (w_ar ws (n_v vs 0) 7) j = w_ei w2 (w_ar ws (n_v vs 0) 7) j := fun j => s2.1 _ _
  have hE_0_8_1 : ∀ j : Int, w_ei ws (w_ar ws (n_v vs 0) 8) j = w_ei w1 (w_ar ws (n_v vs 0) 8) j := fun j => s1.1 _ _
  have hE_0_8_2 : ∀ j : Int, w_ei w1 (w_ar ws (n_v vs 0) 8) j = w_ei w2 (w_ar ws (n_v vs 0) 8) j := fun j => s2.1 _ _
  have hE_0_14_1 : ∀ j : Int, w_ei ws (w_ar ws (n_v vs 0) 14) j = w_ei w1 (w_ar ws (n_v vs 0) 14) j := fun j => s1.1 _ _
  have hE_0_14_2 : ∀ j : Int, w_ei w1 (w_ar ws (n_v vs 0) 14) j = w_ei w2 (w_ar ws (n_v vs 0) 14) j := fun j => s2.1 _ _
  have hE_0_16_1 : ∀ j : Int, w_ei ws (w_ar ws (n_v vs 0) 16) j = w_ei w1 (w_ar ws (n_v vs 0) 16) j := fun j => s1.1 _ _
  have hE_0_16_2 : ∀ j : Int, w_ei w1 (w_ar ws (n_v vs 0) 16) j = w_ei w2 (w_ar ws (n_v vs 0) 16) j := fun j => s2.1 _ _
  have kz_0_0 := fdq_23 hD hth r0
  have kz_0_1 := fdq_38 hD hth r0
  have kz_0_17 := fdq_282 hD hth r0
  have nf0 : fc_1 PRD (20, [0, 14], [60, 0, 1, 737, 16]) ws (vs) := ⟨nf_in hl rfl, sgq_821 (vc_Gr_alter_at_kx_44_0 (v_iv (n_v vs 9)) (v_iv (n_v vs 14)) (w_fi ws (n_v vs 0) 0) (w_fi ws (n_v vs 0) 1) (w_fi ws (n_v vs 0) 17) (w_ei ws (w_ar ws (n_v vs 0) 16)) (w_ei ws (w_ar ws (n_v vs 0) 14)) (w_ei ws (w_ar ws (n_v vs 0) 7)) (w_ei ws (w_ar ws (n_v vs 0) 8)) (w_ei w1 (w_ar ws (n_v vs 0) 16)) (w_ei w1 (w_ar ws (n_v vs 0) 14)) (w_ei w1 (w_ar ws (n_v vs 0) 7)) (w_ei w1 (w_ar ws (n_v vs 0) 8)) (w_fi w1 (n_v vs 0) 0) (w_fi w1 (n_v vs 0) 1) (w_ei w2 (w_ar ws (n_v vs 0) 16)) (w_fi w2 (n_v vs 0) 18) (w_ei w2 (w_ar ws (n_v vs 0) 14)) (w_ei w2 (w_ar ws (n_v vs 0) 7)) (w_ei w2 (w_ar ws (n_v vs 0) 8)) (w_fi w2 (n_v vs 0) 0) (w_fi w2 (n_v vs 0) 1) (w_fi w1 (n_v vs 0) 17) (w_fi w1 (n_v vs 0) 18) k9 k14 d0 f18 fe_0_0_1 fe_0_1_1 fe_0_17_1 fe_0_0_2 fe_0_1_2 fe_0_18_2 hE_0_7_1 hE_0_7_2 hE_0_8_1 hE_0_8_2 hE_0_14_1 hE_0_14_2 hE_0_16_1 hE_0_16_2 kz_0_0 kz_0_1 kz_0_17)⟩
  refine ⟨(fun _ h => (by cases h)), [], trivial, ?_, (fun _ h => (by cases h))⟩
  rw [List.append_nil]
  exact List.forall_mem_cons.mpr ⟨⟨show (20 : Nat) < 100 from by decide, nf0⟩, (fun _ h => (by cases h))⟩
set_option maxHeartbeats 4000000 in
theorem vc_Gr_alter_at_kx_45_0 (x14 : Int) (x15 : Int) (undone_0 : Int) (done_0 : Int) (k14 : 1 ≤ x14 ∧ x14 ≤ 30) (k15 : 0 ≤ x15 ∧ x15 ≤ 0) (g0 : x15 = undone_0) (g1 : x14 = done_0) (kz_0_17 : 0 ≤ done_0 ∧ done_0 ≤ 30) (kz_0_18 : 0 ≤ undone_0 ∧ undone_0 ≤ 30) : (done_0 + undone_0) ≤ 30 := by
  first
    | omega
  
set_option maxHeartbeats 4000000 in
theorem vc_Gr_alter_at_kx_45_1 (x14 : Int) (x15 : Int) (undone_0 : Int) (done_0 : Int) (past_0 : Int → Int) (k14 : 1 ≤ x14 ∧ x14 ≤ 30) (k15 : 0 ≤ x15 ∧ x15 ≤ 0) (g0 : x15 = undone_0) (g1 : x14 = done_0) (f8 : PRI (past_0) (x14)) (kz_0_17 : 0 ≤ done_0 ∧ done_0 ≤ 30) (kz_0_18 : 0 ≤ undone_0 ∧ undone_0 ≤ 30) : PDQ (done_0) (undone_0) (past_0) := by
  first
    | assumption
    | exact pri_pdq ‹PRI _ _› (by omega) (by omega)
  
def o_Gr_alter_at_kx_45 : or_T := (87, 16, [(0, (2, 0, 0, [3])), (4, (2, 0, 0, [61])), (5, (0, 0, 24, [])), (7, (2, 0, 0, [52])), (8, (2, 0, 0, [53])), (9, (0, 0, 29, [])), (11, (0, 0, 47, [])), (12, (0, 30, 30, [])), (13, (0, 1, 1, [])), (14, (0, 1, 30, [])), (15, (0, 0, 0, []))], [(9, [15, 0], [18]), (9, [14, 0], [17]), (9, [5, 0], [0]), (9, [11, 0], [1]), (9, [7, 0], [7]), (9, [8, 0], [8]), (9, [4, 0], [16]), (20, [0], [60, 2, 3, 670, 0, 1, 14, 7, 8]), (20, [0, 14], [60, 0, 1, 738, 16]), (20, [0], [60, 2, 2, 596, 0, 1, 7, 8]), (102, [15], [2305843009213693952]), (101, [0, 15], [18]), (101, [0, 14], [17]), (1, [14, 9, 13], []), (7, [9, 12], [1])], [], [], [(20, [0], [50, 2, 0, 17, 18, 0, 8, 4, 3, 2, 0, 17, 2, 0, 18, 0, 30]), (20, [0], [60, 2, 1, 739, 17, 18, 16])], [], [(14, 9, 1, 1)])
theorem oo_Gr_alter_at_kx_45 {kA : Nat → ClassId} : or_ok PRD kA GG o_Gr_alter_at_kx_45 := by
  refine or_mk fun A ta ws vs hD hth hl => ?_
  intro t0 r0 t4 r4 t5 k5 t7 r7 t8 r8 t9 k9 t11 k11 t12 k12 t13 k13 t14 k14 t15 k15 d0 f0 f1 f2 f3 f4 f5 f6 f7 f8 f9 ta1 w1 le1 s1 ta2 w2 le2 s2 ta3 w3 le3 s3 f13 f14
  replace f0 := shm_785 f0
  replace f1 := shm_781 f1
  have g0 : v_iv (n_v vs 15) = w_fi ws (n_v vs 0) 18 := congrArg v_iv f0
  have g1 : v_iv (n_v vs 14) = w_fi ws (n_v vs 0) 17 := congrArg v_iv f1
  have kz_0_17 := fdq_282 hD hth r0
  have kz_0_18 := fdq_283 hD hth r0
  have nf0 : fc_1 PRD (20, [0], [50, 2, 0, 17, 18, 0, 8, 4, 3, 2, 0, 17, 2, 0, 18, 0, 30]) ws (vs) := ⟨nf_in hl rfl, sgq_1462 (vc_Gr_alter_at_kx_45_0 (v_iv (n_v vs 14)) (v_iv (n_v vs 15)) (w_fi ws (n_v vs 0) 18) (w_fi ws (n_v vs 0) 17) k14 k15 g0 g1 kz_0_17 kz_0_18)⟩
  have nf1 : fc_1 PRD (20, [0], [60, 2, 1, 739, 17, 18, 16]) ws (vs) := ⟨nf_in hl rfl, sgq_1327 (vc_Gr_alter_at_kx_45_1 (v_iv (n_v vs 14)) (v_iv (n_v vs 15)) (w_fi ws (n_v vs 0) 18) (w_fi ws (n_v vs 0) 17) (w_ei ws (w_ar ws (n_v vs 0) 16)) k14 k15 g0 g1 (shm_826 f8) kz_0_17 kz_0_18)⟩
  refine ⟨(fun _ h => (by cases h)), [], trivial, ?_, (fun _ h => (by cases h))⟩
  rw [List.append_nil]
  exact List.forall_mem_cons.mpr ⟨⟨show (20 : Nat) < 100 from by decide, nf0⟩, List.forall_mem_cons.mpr ⟨⟨show (20 : Nat) < 100 from by decide, nf1⟩, (fun _ h => (by cases h))⟩⟩
set_option maxHeartbeats 4000000 in
theorem vc_Gr_alter_at_kx_46_0 (x13 : Int) (x15 : Int) (k13 : 122 ≤ x13 ∧ x13 ≤ 122) (k15 : 3660 ≤ x15 ∧ x15 ≤ 3660) : x13 + x15 ≤ 3782 := by
  first
    | omega
  
set_option maxHeartbeats 4000000 in
theorem vc_Gr_alter_at_kx_46_1 (x14 : Int) (x15 : Int) (k14 : 0 ≤ x14 ∧ x14 ≤ 0) (k15 : 3660 ≤ x15 ∧ x15 ≤ 3660) : x14 + x15 ≤ 3782 := by
  first
    | omega
  
set_option maxHeartbeats 4000000 in
theorem vc_Gr_alter_at_kx_46_2 (x9 : Int) (x13 : Int) (x14 : Int) (x15 : Int) (a4_0 : Int → Int) (k9 : 30 ≤ x9 ∧ x9 ≤ 30) (k13 : 122 ≤ x13 ∧ x13 ≤ 122) (k14 : 0 ≤ x14 ∧ x14 ≤ 0) (k15 : 3660 ≤ x15 ∧ x15 ≤ 3660) (f6 : PNI (a4_0) (x9)) : MV1 (a4_0) (a4_0) (x13) (x14) (x15) := by
  first
    | exact ⟨by omega, by omega, by omega, fun r a b => (‹PNI _ _›) r a (by omega)⟩
  
def o_Gr_alter_at_kx_46 : or_T := (56, 16, [(9, (0, 30, 30, [])), (13, (0, 122, 122, [])), (14, (0, 0, 0, [])), (15, (0, 3660, 3660, []))], [(20, [4, 9], [61, 1, 762])], [], [], [(21, [13, 15], [3782]), (21, [14, 15], [3782]), (20, [4, 4, 13, 14, 15], [61, 2, 763])], [], [])
theorem oo_Gr_alter_at_kx_46 {kA : Nat → ClassId} : or_ok PRD kA GG o_Gr_alter_at_kx_46 := by
  refine or_mk fun A ta ws vs hD hth hl => ?_
  intro t9 k9 t13 k13 t14 k14 t15 k15 f6
  have nf0 : fc_1 PRD (21, [13, 15], [3782]) ws (vs) := ⟨nf_in hl rfl, sgq_1744 (vc_Gr_alter_at_kx_46_0 (v_iv (n_v vs 13)) (v_iv (n_v vs 15)) k13 k15)⟩
  have nf1 : fc_1 PRD (21, [14, 15], [3782]) ws (vs) := ⟨nf_in hl rfl, sgq_1744 (vc_Gr_alter_at_kx_46_1 (v_iv (n_v vs 14)) (v_iv (n_v vs 15)) k14 k15)⟩
  have nf2 : fc_1 PRD (20, [4, 4, 13, 14, 15], [61, 2, 763]) ws (vs) := ⟨nf_in hl rfl, sgq_1745 (vc_Gr_alter_at_kx_46_2 (v_iv (n_v vs 9)) (v_iv (n_v vs 13)) (v_iv (n_v vs 14)) (v_iv (n_v vs 15)) (w_ei ws (v_ad (n_v vs 4))) k9 k13 k14 k15 (shm_1743 f6))⟩
  refine ⟨(fun _ h => (by cases h)), [], trivial, ?_, (fun _ h => (by cases h))⟩
  rw [List.append_nil]
  exact List.forall_mem_cons.mpr ⟨⟨show (21 : Nat) < 100 from by decide, nf0⟩, List.forall_mem_cons.mpr ⟨⟨show (21 : Nat) < 100 from by decide, nf1⟩, List.forall_mem_cons.mpr ⟨⟨show (20 : Nat) < 100 from by decide, nf2⟩, (fun _ h => (by cases h))⟩⟩⟩
set_option maxHeartbeats 4000000 in
theorem vc_Gr_alter_at_kx_47_0 (x9 : Int) (x13 : Int) (x14 : Int) (x15 : Int) (nodes_0 : Int) (edges_0 : Int) (done_0 : Int) (near_0 : Int → Int) (tail_0 : Int → Int) (head_0 : Int → Int) (past_0 : Int → Int) (done_1 : Int) (near_1 : Int → Int) (tail_1 : Int → Int) (head_1 : Int → Int) (nodes_1 : Int) (edges_1 : Int) (past_1 : Int → Int) (k9 : 30 ≤ x9 ∧ x9 ≤ 30) (k13 : 122 ≤ x13 ∧ x13 ≤ 122) (k14 : 0 ≤ x14 ∧ x14 ≤ 0) (k15 : 3660 ≤ x15 ∧ x15 ≤ 3660) (f18 : MV2 (past_1) (past_1) (x13) (x14) (x15)) (fe_0_0_1 : nodes_0 = nodes_1) (fe_0_1_1 : edges_0 = edges_1) (fe_0_17_1 : done_0 = done_1) (hE_0_7_1 : ∀ j : Int, tail_0 j = tail_1 j) (hE_0_8_1 : ∀ j : Int, head_0 j = head_1 j) (hE_0_14_1 : ∀ j : Int, near_0 j = near_1 j) (hE_0_16_1 : ∀ j : Int, past_0 j = past_1 j) (kz_0_0 : 0 ≤ nodes_0 ∧ nodes_0 ≤ 24) (kz_0_1 : 0 ≤ edges_0 ∧ edges_0 ≤ 48) (kz_0_17 : 0 ≤ done_0 ∧ done_0 ≤ 30) : PRO (past_0) (x9) := by
  subst fe_0_0_1
  subst fe_0_1_1
  subst fe_0_17_1
  have e_hE_0_7_1 := funext hE_0_7_1; subst e_hE_0_7_1
  have e_hE_0_8_1 := funext hE_0_8_1; subst e_hE_0_8_1
  have e_hE_0_14_1 := funext hE_0_14_1; subst e_hE_0_14_1
  have e_hE_0_16_1 := funext hE_0_16_1; subst e_hE_0_16_1
  first
    | exact pro_pdq ‹PDQ _ _ _› (by omega) (by omega)
    | exact pri_pro ‹PNI _ _› (by omega)
    | (have q := (‹MV2 _ _ _ _ _›); exact fun r a b => q r a (by omega))
    | exact pro_zero (by omega) (fun j a b => by have q := hT10 j a (by omega); omega)
  
def o_Gr_alter_at_kx_47 : or_T := (82, 17, [(0, (2, 0, 0, [3])), (4, (2, 0, 0, [61])), (5, (0, 0, 24, [])), (7, (2, 0, 0, [52])), (8, (2, 0, 0, [53])), (9, (0, 30, 30, [])), (11, (0, 0, 47, [])), (12, (0, 30, 30, [])), (13, (0, 122, 122, [])), (14, (0, 0, 0, [])), (15, (0, 3660, 3660, [])), (16, (0, 0, 0, []))], [(9, [16, 0], [18]), (9, [5, 0], [0]), (9, [11, 0], [1]), (9, [7, 0], [7]), (9, [8, 0], [8]), (9, [4, 0], [16]), (9, [9, 0], [17]), (21, [13, 15], [3782]), (21, [14, 15], [3782]), (20, [0], [60, 2, 3, 670, 0, 1, 14, 7, 8]), (20, [0], [60, 2, 2, 596, 0, 1, 7, 8]), (20, [4, 4, 13, 14, 15], [61, 2, 764]), (101, [0, 16], [18]), (21, [13, 15], [3782]), (21, [14, 15], [3782]), (20, [0], [50, 2, 0, 17, 18, 0, 8, 4, 3, 2, 0, 17, 2, 0, 18, 0, 30]), (20, [0], [60, 2, 3, 670, 0, 1, 14, 7, 8]), (20, [0], [60, 2, 2, 596, 0, 1, 7, 8]), (20, [4, 4, 13, 14, 15], [61, 2, 764]), (102, [15], [2305843009213693952]), (21, [13, 15], [3782]), (21, [14, 15], [3782]), (7, [9, 12], [0])], [], [], [(20, [0, 9], [60, 0, 1, 737, 16])], [], [])
theorem oo_Gr_alter_at_kx_47 {kA : Nat → ClassId} : or_ok PRD kA GG o_Gr_alter_at_kx_47 := by
  refine or_mk fun A ta ws vs hD hth hl => ?_
  intro t0 r0 t4 r4 t5 k5 t7 r7 t8 r8 t9 k9 t11 k11 t12 k12 t13 k13 t14 k14 t15 k15 t16 k16 f0 f1 f2 f3 f4 f5 f6 f7 f8 f9 f10 f11 ta1 w1 le1 s1 f13 f14 f15 f16 f17 f18 ta2 w2 le2 s2 f20 f21 f22
  replace f5 := shm_188 f5
  have s1 : (∀ b j, w_el ws b j = w_el w1 b j) ∧ ∀ b j, w_fd ws b j = if b = v_ad (n_v vs 0) ∧ j = 18 then n_v vs 16 else w_fd w1 b j := s1.2
  replace f18 := shm_1746 f18
  have ar_0_7_1 : w_ar w1 (n_v vs 0) 7 = w_ar ws (n_v vs 0) 7 := by show v_ad (w_fd w1 _ _) = v_ad (w_fd ws _ _); rw [s1.2, if_neg (fun e => absurd e.2 (by decide))]
  have ar_0_8_1 : w_ar w1 (n_v vs 0) 8 = w_ar ws (n_v vs 0) 8 := by show v_ad (w_fd w1 _ _) = v_ad (w_fd ws _ _); rw [s1.2, if_neg (fun e => absurd e.2 (by decide))]
  have ar_0_14_1 : w_ar w1 (n_v vs 0) 14 = w_ar ws (n_v vs 0) 14 := by show v_ad (w_fd w1 _ _) = v_ad (w_fd ws _ _); rw [s1.2, if_neg (fun e => absurd e.2 (by decide))]
  have ad_4 : v_ad (n_v vs 4) = w_ar ws (n_v vs 0) 16 := congrArg v_ad f5
  simp only [ad_4, ar_0_7_1, ar_0_8_1, ar_0_14_1] at f18
  have fe_0_0_1 : w_fi ws (n_v vs 0) 0 = w_fi w1 (n_v vs 0) 0 := by show v_iv (w_fd _ _ _) = v_iv (w_fd _ _ _); rw [s1.2, if_neg (fun e => absurd e.2 (by decide))]
  have fe_0_1_1 : w_fi ws (n_v vs 0) 1 = w_fi w1 (n_v vs 0) 1 := by show v_iv (w_fd _ _ _) = v_iv (w_fd _ _ _); rw [s1.2, if_neg (fun e => absurd e.2 (by decide))]
  have fe_0_17_1 : w_fi ws (n_v vs 0) 17 = w_fi w1 (n_v vs 0) 17 := by show v_iv (w_fd _ _ _) = v_iv (w_fd _ _ _); rw [s1.2, if_neg (fun e => absurd e.2 (by decide))]
  have hE_0_7_1 : ∀ j : Int, w_ei ws (w_ar ws (n_v vs 0) 7) j = w_ei w1 (w_ar ws (n_v vs 0) 7) j := fun j => s1.1 _ _
  have hE_0_8_1 : ∀ j : Int, w_ei ws (w_ar ws (n_v vs 0) 8) j = w_ei w1 (w_ar ws (n_v vs 0) 8) j := fun j => s1.1 _ _
  have hE_0_14_1 : ∀ j : Int, w_ei ws (w_ar ws (n_v vs 0) 14) j = w_ei w1 (w_ar ws (n_v vs 0) 14) j := fun j => s1.1 _ _
  have hE_0_16_1 : ∀ j : Int, w_ei ws (w_ar ws (n_v vs 0) 16) j = w_ei w1 (w_ar ws (n_v vs 0) 16) j := fun j => s1.1 _ _
  have kz_0_0 := fdq_23 hD hth r0
  have kz_0_1 := fdq_38 hD hth r0
  have kz_0_17 := fdq_282 hD hth r0
  have nf0 : fc_1 PRD (20, [0, 9], [60, 0, 1, 737, 16]) ws (vs) := ⟨nf_in hl rfl, sgq_821 (vc_Gr_alter_at_kx_47_0 (v_iv (n_v vs 9)) (v_iv (n_v vs 13)) (v_iv (n_v vs 14)) (v_iv (n_v vs 15)) (w_fi ws (n_v vs 0) 0) (w_fi ws (n_v vs 0) 1) (w_fi ws (n_v vs 0) 17) (w_ei ws (w_ar ws (n_v vs 0) 14)) (w_ei ws (w_ar ws (n_v vs 0) 7)) (w_ei ws (w_ar ws (n_v vs 0) 8)) (w_ei ws (w_ar ws (n_v vs 0) 16)) (w_fi w1 (n_v vs 0) 17) (w_ei w1 (w_ar ws (n_v vs 0) 14)) (w_ei w1 (w_ar ws (n_v vs 0) 7)) (w_ei w1 (w_ar ws (n_v vs 0) 8)) (w_fi w1 (n_v vs 0) 0) (w_fi w1 (n_v vs 0) 1) (w_ei w1 (w_ar ws (n_v vs 0) 16)) k9 k13 k14 k15 f18 fe_0_0_1 fe_0_1_1 fe_0_17_1 hE_0_7_1 hE_0_8_1 hE_0_14_1 hE_0_16_1 kz_0_0 kz_0_1 kz_0_17)⟩
  refine ⟨(fun _ h => (by cases h)), [], trivial, ?_, (fun _ h => (by cases h))⟩
  rw [List.append_nil]
  exact List.forall_mem_cons.mpr ⟨⟨show (20 : Nat) < 100 from by decide, nf0⟩, (fun _ h => (by cases h))⟩
set_option maxHeartbeats 4000000 in
theorem vc_Gr_alter_at_kx_48_0 (x9 : Int) (x16 : Int) (undone_0 : Int) (done_0 : Int) (k9 : 30 ≤ x9 ∧ x9 ≤ 30) (k16 : 0 ≤ x16 ∧ x16 ≤ 0) (g0 : x16 = undone_0) (g5 : x9 = done_0) (kz_0_17 : 0 ≤ done_0 ∧ done_0 ≤ 30) (kz_0_18 : 0 ≤ undone_0 ∧ undone_0 ≤ 30) : (done_0 + undone_0) ≤ 30 := by
  first
    | omega
  
set_option maxHeartbeats 4000000 in
theorem vc_Gr_alter_at_kx_48_1 (x9 : Int) (x16 : Int) (undone_0 : Int) (done_0 : Int) (past_0 : Int → Int) (k9 : 30 ≤ x9 ∧ x9 ≤ 30) (k16 : 0 ≤ x16 ∧ x16 ≤ 0) (g0 : x16 = undone_0) (g5 : x9 = done_0) (f8 : PRI (past_0) (x9)) (kz_0_17 : 0 ≤ done_0 ∧ done_0 ≤ 30) (kz_0_18 : 0 ≤ undone_0 ∧ undone_0 ≤ 30) : PDQ (done_0) (undone_0) (past_0) := by
  first
    | assumption
    | exact pri_pdq ‹PRI _ _› (by omega) (by omega)
  
def o_Gr_alter_at_kx_48 : or_T := (87, 17, [(0, (2, 0, 0, [3])), (4, (2, 0, 0, [61])), (5, (0, 0, 24, [])), (7, (2, 0, 0, [52])), (8, (2, 0, 0, [53])), (9, (0, 30, 30, [])), (11, (0, 0, 47, [])), (12, (0, 30, 30, [])), (16, (0, 0, 0, []))], [(9, [16, 0], [18]), (9, [5, 0], [0]), (9, [11, 0], [1]), (9, [7, 0], [7]), (9, [8, 0], [8]), (9, [9, 0], [17]), (9, [4, 0], [16]), (20, [0], [60, 2, 3, 670, 0, 1, 14, 7, 8]), (20, [0, 9], [60, 0, 1, 738, 16]), (20, [0], [60, 2, 2, 596, 0, 1, 7, 8]), (102, [16], [2305843009213693952]), (101, [0, 16], [18]), (102, [15], [2305843009213693952]), (7, [9, 12], [0])], [], [], [(20, [0], [50, 2, 0, 17, 18, 0, 8, 4, 3, 2, 0, 17, 2, 0, 18, 0, 30]), (20, [0], [60, 2, 1, 739, 17, 18, 16])], [], [])
theorem oo_Gr_alter_at_kx_48 {kA : Nat → ClassId} : or_ok PRD kA GG o_Gr_alter_at_kx_48 := by
  refine or_mk fun A ta ws vs hD hth hl => ?_
  intro t0 r0 t4 r4 t5 k5 t7 r7 t8 r8 t9 k9 t11 k11 t12 k12 t16 k16 f0 f1 f2 f3 f4 f5 f6 f7 f8 f9 ta1 w1 le1 s1 ta2 w2 le2 s2 ta3 w3 le3 s3 f13
  replace f0 := shm_785 f0
  replace f5 := shm_781 f5
  have g0 : v_iv (n_v vs 16) = w_fi ws (n_v vs 0) 18 := congrArg v_iv f0
  have g5 : v_iv (n_v vs 9) = w_fi ws (n_v vs 0) 17 := congrArg v_iv f5
  have kz_0_17 := fdq_282 hD hth r0
  have kz_0_18 := fdq_283 hD hth r0
  have nf0 : fc_1 PRD (20, [0], [50, 2, 0, 17, 18, 0, 8, 4, 3, 2, 0, 17, 2, 0, 18, 0, 30]) ws (vs) := ⟨nf_in hl rfl, sgq_1462 (vc_Gr_alter_at_kx_48_0 (v_iv (n_v vs 9)) (v_iv (n_v vs 16)) (w_fi ws (n_v vs 0) 18) (w_fi ws (n_v vs 0) 17) k9 k16 g0 g5 kz_0_17 kz_0_18)⟩
  have nf1 : fc_1 PRD (20, [0], [60, 2, 1, 739, 17, 18, 16]) ws (vs) := ⟨nf_in hl rfl, sgq_1327 (vc_Gr_alter_at_kx_48_1 (v_iv (n_v vs 9)) (v_iv (n_v vs 16)) (w_fi ws (n_v vs 0) 18) (w_fi ws (n_v vs 0) 17) (w_ei ws (w_ar ws (n_v vs 0) 16)) k9 k16 g0 g5 (shm_826 f8) kz_0_17 kz_0_18)⟩
  refine ⟨(fun _ h => (by cases h)), [], trivial, ?_, (fun _ h => (by cases h))⟩
  rw [List.append_nil]
  exact List.forall_mem_cons.mpr ⟨⟨show (20 : Nat) < 100 from by decide, nf0⟩, List.forall_mem_cons.mpr ⟨⟨show (20 : Nat) < 100 from by decide, nf1⟩, (fun _ h => (by cases h))⟩⟩
set_option maxHeartbeats 4000000 in
theorem vc_Gr_alter_at_kx_49_0 (x9 : Int) (x13 : Int) (done_0 : Int) (past_0 : Int → Int) (near_0 : Int → Int) (tail_0 : Int → Int) (head_0 : Int → Int) (nodes_0 : Int) (edges_0 : Int) (past_1 : Int → Int) (near_1 : Int → Int) (tail_1 : Int → Int) (head_1 : Int → Int) (nodes_1 : Int) (edges_1 : Int) (past_2 : Int → Int) (undone_2 : Int) (near_2 : Int → Int) (tail_2 : Int → Int) (head_2 : Int → Int) (nodes_2 : Int) (edges_2 : Int) (done_1 : Int) (undone_1 : Int) (k9 : 0 ≤ x9 ∧ x9 ≤ 29) (k13 : 1 ≤ x13 ∧ x13 ≤ 30) (d0 : x9 + 1 ≤ x13 ∧ x13 ≤ x9 + 1) (f16 : PNI (past_2) (x9)) (fe_0_0_1 : nodes_0 = nodes_1) (fe_0_1_1 : edges_0 = edges_1) (fe_0_17_1 : done_0 = done_1) (fe_0_0_2 : nodes_1 = nodes_2) (fe_0_1_2 : edges_1 = edges_2) (fe_0_18_2 : undone_1 = undone_2) (hE_0_7_1 : ∀ j : Int, tail_0 j = tail_1 j) (hE_0_7_2 : ∀ j : Int, tail_1 j = tail_2 j) (hE_0_8_1 : ∀ j : Int, head_0 j = head_1 j) (hE_0_8_2 : ∀ j : Int, head_1 j = head_2 j) (hE_0_14_1 : ∀ j : Int, near_0 j = near_1 j) (hE_0_14_2 : ∀ j : Int, near_1 j = near_2 j) (hE_0_16_1 : ∀ j : Int, past_0 j = past_1 j) (hE_0_16_2 : ∀ j : Int, past_1 j = past_2 j) (kz_0_0 : 0 ≤ nodes_0 ∧ nodes_0 ≤ 24) (kz_0_1 : 0 ≤ edges_0 ∧ edges_0 ≤ 48) (kz_0_17 : 0 ≤ done_0 ∧ done_0 ≤ 30) : PRO (past_0) (x13) := by
  subst fe_0_0_1
  subst fe_0_1_1
  subst fe_0_17_1
  subst fe_0_0_2
  subst fe_0_1_2
  subst fe_0_18_2
  have e_hE_0_7_1 := funext hE_0_7_1; subst e_hE_0_7_1
  have e_hE_0_7_2 := funext hE_0_7_2; subst e_hE_0_7_2
  have e_hE_0_8_1 := funext hE_0_8_1; subst e_hE_0_8_1
  have e_hE_0_8_2 := funext hE_0_8_2; subst e_hE_0_8_2
  have e_hE_0_14_1 := funext hE_0_14_1; subst e_hE_0_14_1
  have e_hE_0_14_2 := funext hE_0_14_2; subst e_hE_0_14_2
  have e_hE_0_16_1 := funext hE_0_16_1; subst e_hE_0_16_1
  have e_hE_0_16_2 := funext hE_0_16_2; subst e_hE_0_16_2
  first
    | exact pro_pdq ‹PDQ _ _ _› (by omega) (by omega)
    | exact pri_pro ‹PNI _ _› (by omega)
    | (have q := (‹MV2 _ _ _ _ _›); exact fun r a b => q r a (by omega))
    | exact pro_zero (by omega) (fun j a b => by have q := hT10 j a (by omega); omega)
  
def o_Gr_alter_at_kx_49 : or_T := (82, 15, [(0, (2, 0, 0, [3])), (4, (2, 0, 0, [61])), (7, (2, 0, 0, [52])), (8, (2, 0, 0, [53])), (9, (0, 0, 29, [])), (11, (0, 30, 30, [])), (12, (0, 1, 1, [])), (13, (0, 1, 30, [])), (14, (0, 0, 0, []))], [(9, [14, 0], [18]), (9, [7, 0], [7]), (9, [8, 0], [8]), (9, [4, 0], [16]), (9, [13, 0], [17]), (20, [4, 9], [61, 1, 762]), (20, [0], [60, 2, 3, 670, 0, 1, 14, 7, 8]), (20, [0], [60, 2, 2, 596, 0, 1, 7, 8]), (101, [0, 14], [18]), (20, [4, 9], [61, 1, 762]), (20, [0], [60, 2, 3, 670, 0, 1, 14, 7, 8]), (20, [0], [60, 2, 2, 596, 0, 1, 7, 8]), (101, [0, 13], [17]), (1, [13, 9, 12], []), (9, [9, 0], [17]), (7, [9, 11], [1]), (20, [4, 9], [61, 1, 762]), (20, [0], [50, 2, 0, 17, 18, 0, 8, 4, 3, 2, 0, 17, 2, 0, 18, 0, 30]), (20, [0], [60, 2, 3, 670, 0, 1, 14, 7, 8]), (20, [0], [60, 2, 2, 596, 0, 1, 7, 8])], [], [], [(20, [0, 13], [60, 0, 1, 737, 16])], [], [(13, 9, 1, 1)])
theorem oo_Gr_alter_at_kx_49 {kA : Nat → ClassId} : or_ok PRD kA GG o_Gr_alter_at_kx_49 := by
  refine or_mk fun A ta ws vs hD hth hl => ?_
  intro t0 r0 t4 r4 t7 r7 t8 r8 t9 k9 t11 k11 t12 k12 t13 k13 t14 k14 d0 f0 f1 f2 f3 f4 f5 f6 f7 ta1 w1 le1 s1 f9 f10 f11 ta2 w2 le2 s2 f13 f14 f15 f16 f17 f18 f19
  replace f3 := shm_188 f3
  have s1 : (∀ b j, w_el ws b j = w_el w1 b j) ∧ ∀ b j, w_fd ws b j = if b = v_ad (n_v vs 0) ∧ j = 18 then n_v vs 14 else w_fd w1 b j := s1.2
  have s2 : (∀ b j, w_el w1 b j = w_el w2 b j) ∧ ∀ b j, w_fd w1 b j = if b = v_ad (n_v vs 0) ∧ j = 17 then n_v vs 13 else w_fd w2 b j := s2.2
  replace f16 := shm_1743 f16
  have ar_0_7_1 : w_ar w1 (n_v vs 0) 7 = w_ar ws (n_v vs 0) 7 := by show v_ad (w_fd w1 _ _) = v_ad (w_fd ws _ _); rw [s1.2, if_neg (fun e => absurd e.2 (by decide))]
  have ar_0_7_2 : w_ar w2 (n_v vs 0) 7 = w_ar ws (n_v vs 0) 7 := by rw [← ar_0_7_1]; show v_ad (w_fd w2 _ _) = v_ad (w_fd w1 _ _); rw [s2.2, if_neg (fun e => absurd e.2 (by decide))]
  have ar_0_8_1 : w_ar w1 (n_v vs 0) 8 = w_ar ws (n_v vs 0) 8 := by show v_ad (w_fd w1 _ _) = v_ad (w_fd ws _ _); rw [s1.2, if_neg (fun e => absurd e.2 (by decide))]
  have ar_0_8_2 : w_ar w2 (n_v vs 0) 8 = w_ar ws (n_v vs 0) 8 := by rw [← ar_0_8_1]; show v_ad (w_fd w2 _ _) = v_ad (w_fd w1 _ _); rw [s2.2, if_neg (fun e => absurd e.2 (by decide))]
  have ar_0_14_1 : w_ar w1 (n_v vs 0) 14 = w_ar ws (n_v vs 0) 14 := by show v_ad (w_fd w1 _ _) = v_ad (w_fd ws _ _); rw [s1.2, if_neg (fun e => absurd e.2 (by decide))]
  have ar_0_14_2 : w_ar w2 (n_v vs 0) 14 = w_ar ws (n_v vs 0) 14 := by rw [← ar_0_14_1]; show v_ad (w_fd w2 _ _) = v_ad (w_fd w1 _ _); rw [s2.2, if_neg (fun e => absurd e.2 (by decide))]
  have ad_4 : v_ad (n_v vs 4) = w_ar ws (n_v vs 0) 16 := congrArg v_ad f3
  simp only [ad_4, ar_0_7_2, ar_0_8_2, ar_0_14_2] at f16
  have fe_0_0_1 : w_fi ws (n_v vs 0) 0 = w_fi w1 (n_v vs 0) 0 := by show v_iv (w_fd _ _ _) = v_iv (w_fd _ _ _); rw [s1.2, if_neg (fun e => absurd e.2 (by decide))]
  have fe_0_1_1 : w_fi ws (n_v vs 0) 1 = w_fi w1 (n_v vs 0) 1 := by show v_iv (w_fd _ _ _) = v_iv (w_fd _ _ _); rw [s1.2, if_neg (fun e => absurd e.2 (by decide))]
  have fe_0_17_1 : w_fi ws (n_v vs 0) 17 = w_fi w1 (n_v vs 0) 17 := by show v_iv (w_fd _ _ _) = v_iv (w_fd _ _ _); rw [s1.2, if_neg (fun e => absurd e.2 (by decide))]
  have fe_0_0_2 : w_fi w1 (n_v vs 0) 0 = w_fi w2 (n_v vs 0) 0 := by show v_iv (w_fd _ _ _) = v_iv (w_fd _ _ _); rw [s2.2, if_neg (fun e => absurd e.2 (by decide))]
  have fe_0_1_2 : w_fi w1 (n_v vs 0) 1 = w_fi w2 (n_v vs 0) 1 := by show v_iv (w_fd _ _ _) = v_iv (w_fd _ _ _); rw [s2.2, if_neg (fun e => absurd e.2 (by decide))]
  have fe_0_18_2 : w_fi w1 (n_v vs 0) 18 = w_fi w2 (n_v vs 0) 18 := by show v_iv (w_fd _ _ _) = v_iv (w_fd _ _ _); rw [s2.2, if_neg (fun e => absurd e.2 (by decide))]
  have hE_0_7_1 : ∀ j : Int, w_ei ws (w_ar ws (n_v vs 0) 7) j = w_ei w1 (w_ar ws (n_v vs 0) 7) j := fun j => s1.1 _ _
  have hE_0_7_2 : ∀ j : Int, w_ei w1 (w_ar ws (n_v vs 0) 7) j = w_ei w2 (w_ar ws (n_v vs 0) 7) j := fun j => s2.1 _ _
  have hE_0_8_1 : ∀ j : Int, w_ei ws (w_ar ws (n_v vs 0) 8) j = w_ei w1 (w_ar ws (n_v vs 0) 8) j := fun j => s1.1 _ _
  have hE_0_8_2 : ∀ j : Int, w_ei w1 (w_ar ws (n_v vs 0) 8) j = w_ei w2 (w_ar ws (n_v vs 0) 8) j := fun j => s2.1 _ _
  have hE_0_14_1 : ∀ j : Int, w_ei ws (w_ar ws (n_v vs 0) 14) j = w_ei w1 (w_ar ws (n_v vs 0) 14) j := fun j => s1.1 _ _
  have hE_0_14_2 : ∀ j : Int, w_ei w1 (w_ar ws (n_v vs 0) 14) j = w_ei w2 (w_ar ws (n_v vs 0) 14) j := fun j => s2.1 _ _
  have hE_0_16_1 : ∀ j : Int, w_ei ws (w_ar ws (n_v vs 0) 16) j = w_ei w1 (w_ar ws (n_v vs 0) 16) j := fun j => s1.1 _ _
  have hE_0_16_2 : ∀ j : Int, w_ei w1 (w_ar ws (n_v vs 0) 16) j = w_ei w2 (w_ar ws (n_v vs 0) 16) j := fun j => s2.1 _ _
  have kz_0_0 := fdq_23 hD hth r0
  have kz_0_1 := fdq_38 hD hth r0
  have kz_0_17 := fdq_282 hD hth r0
  have nf0 : fc_1 PRD (20, [0, 13], [60, 0, 1, 737, 16]) ws (vs) := ⟨nf_in hl rfl, sgq_821 (vc_Gr_alter_at_kx_49_0 (v_iv (n_v vs 9)) (v_iv (n_v vs 13)) (w_fi ws (n_v vs 0) 17) (w_ei ws (w_ar ws (n_v vs 0) 16)) (w_ei ws (w_ar ws (n_v vs 0) 14)) (w_ei ws (w_ar ws (n_v vs 0) 7)) (w_ei ws (w_ar ws (n_v vs 0) 8)) (w_fi ws (n_v vs 0) 0) (w_fi ws (n_v vs 0) 1) (w_ei w1 (w_ar ws (n_v vs 0) 16)) (w_ei w1 (w_ar ws (n_v vs 0) 14)) (w_ei w1 (w_ar ws (n_v vs 0) 7)) (w_ei w1 (w_ar ws (n_v vs 0) 8)) (w_fi w1 (n_v vs 0) 0) (w_fi w1 (n_v vs 0) 1) (w_ei w2 (w_ar ws (n_v vs 0) 16)) (w_fi w2 (n_v vs 0) 18) (w_ei w2 (w_ar ws (n_v vs 0) 14)) (w_ei w2 (w_ar ws (n_v vs 0) 7)) (w_ei w2 (w_ar ws (n_v vs 0) 8)) (w_fi w2 (n_v vs 0) 0) (w_fi w2 (n_v vs 0) 1) (w_fi w1 (n_v vs 0) 17) (w_fi w1 (n_v vs 0) 18) k9 k13 d0 f16 fe_0_0_1 fe_0_1_1 fe_0_17_1 fe_0_0_2 fe_0_1_2 fe_0_18_2 hE_0_7_1 hE_0_7_2 hE_0_8_1 hE_0_8_2 hE_0_14_1 hE_0_14_2 hE_0_16_1 hE_0_16_2 kz_0_0 kz_0_1 kz_0_17)⟩
  refine ⟨(fun _ h => (by cases h)), [], trivial, ?_, (fun _ h => (by cases h))⟩
  rw [List.append_nil]
  exact List.forall_mem_cons.mpr ⟨⟨show (20 : Nat) < 100 from by decide, nf0⟩, (fun _ h => (by cases h))⟩
set_option maxHeartbeats 4000000 in
theorem vc_Gr_alter_at_kx_50_0 (x9 : Int) (x13 : Int) (x14 : Int) (undone_0 : Int) (done_0 : Int) (k9 : 0 ≤ x9 ∧ x9 ≤ 29) (k13 : 1 ≤ x13 ∧ x13 ≤ 30) (k14 : 0 ≤ x14 ∧ x14 ≤ 0) (d0 : x9 + 1 ≤ x13 ∧ x13 ≤ x9 + 1) (g0 : x14 = undone_0) (g1 : x13 = done_0) (kz_0_17 : 0 ≤ done_0 ∧ done_0 ≤ 30) (kz_0_18 : 0 ≤ undone_0 ∧ undone_0 ≤ 30) : (done_0 + undone_0) ≤ 30 := by
  first
    | omega
  
set_option maxHeartbeats 4000000 in
theorem vc_Gr_alter_at_kx_50_1 (x13 : Int) (x14 : Int) (undone_0 : Int) (done_0 : Int) (past_0 : Int → Int) (k13 : 1 ≤ x13 ∧ x13 ≤ 30) (k14 : 0 ≤ x14 ∧ x14 ≤ 0) (g0 : x14 = undone_0) (g1 : x13 = done_0) (f6 : PRI (past_0) (x13)) (kz_0_17 : 0 ≤ done_0 ∧ done_0 ≤ 30) (kz_0_18 : 0 ≤ undone_0 ∧ undone_0 ≤ 30) : PDQ (done_0) (undone_0) (past_0) := by
  first
    | assumption
    | exact pri_pdq ‹PRI _ _› (by omega) (by omega)
  
def o_Gr_alter_at_kx_50 : or_T := (87, 15, [(0, (2, 0, 0, [3])), (4, (2, 0, 0, [61])), (7, (2, 0, 0, [52])), (8, (2, 0, 0, [53])), (9, (0, 0, 29, [])), (11, (0, 30, 30, [])), (12, (0, 1, 1, [])), (13, (0, 1, 30, [])), (14, (0, 0, 0, []))], [(9, [14, 0], [18]), (9, [13, 0], [17]), (9, [7, 0], [7]), (9, [8, 0], [8]), (9, [4, 0], [16]), (20, [0], [60, 2, 3, 670, 0, 1, 14, 7, 8]), (20, [0, 13], [60, 0, 1, 738, 16]), (20, [0], [60, 2, 2, 596, 0, 1, 7, 8]), (102, [14], [2305843009213693952]), (101, [0, 14], [18]), (101, [0, 13], [17]), (1, [13, 9, 12], []), (7, [9, 11], [1])], [], [], [(20, [0], [50, 2, 0, 17, 18, 0, 8, 4, 3, 2, 0, 17, 2, 0, 18, 0, 30]), (20, [0], [60, 2, 1, 739, 17, 18, 16])], [], [(13, 9, 1, 1)])
theorem oo_Gr_alter_at_kx_50 {kA : Nat → ClassId} : or_ok PRD kA GG o_Gr_alter_at_kx_50 := by
  refine or_mk fun A ta ws vs hD hth hl => ?_
  intro t0 r0 t4 r4 t7 r7 t8 r8 t9 k9 t11 k11 t12 k12 t13 k13 t14 k14 d0 f0 f1 f2 f3 f4 f5 f6 f7 ta1 w1 le1 s1 ta2 w2 le2 s2 ta3 w3 le3 s3 f11 f12
  replace f0 := shm_785 f0
  replace f1 := shm_781 f1
  have g0 : v_iv (n_v vs 14) = w_fi ws (n_v vs 0) 18 := congrArg v_iv f0
  have g1 : v_iv (n_v vs 13) = w_fi ws (n_v vs 0) 17 := congrArg v_iv f1
  have kz_0_17 := fdq_282 hD hth r0
  have kz_0_18 := fdq_283 hD hth r0
  have nf0 : fc_1 PRD (20, [0], [50, 2, 0, 17, 18, 0, 8, 4, 3, 2, 0, 17, 2, 0, 18, 0, 30]) ws (vs) := ⟨nf_in hl rfl, sgq_1462 (vc_Gr_alter_at_kx_50_0 (v_iv (n_v vs 9)) (v_iv (n_v vs 13)) (v_iv (n_v vs 14)) (w_fi ws (n_v vs 0) 18) (w_fi ws (n_v vs 0) 17) k9 k13 k14 d0 g0 g1 kz_0_17 kz_0_18)⟩
  have nf1 : fc_1 PRD (20, [0], [60, 2, 1, 739, 17, 18, 16]) ws (vs) := ⟨nf_in hl rfl, sgq_1327 (vc_Gr_alter_at_kx_50_1 (v_iv (n_v vs 13)) (v_iv (n_v vs 14)) (w_fi ws (n_v vs 0) 18) (w_fi ws (n_v vs 0) 17) (w_ei ws (w_ar ws (n_v vs 0) 16)) k13 k14 g0 g1 (shm_826 f6) kz_0_17 kz_0_18)⟩
  refine ⟨(fun _ h => (by cases h)), [], trivial, ?_, (fun _ h => (by cases h))⟩
  rw [List.append_nil]
  exact List.forall_mem_cons.mpr ⟨⟨show (20 : Nat) < 100 from by decide, nf0⟩, List.forall_mem_cons.mpr ⟨⟨show (20 : Nat) < 100 from by decide, nf1⟩, (fun _ h => (by cases h))⟩⟩
set_option maxHeartbeats 4000000 in
theorem vc_Gr_alter_at_kx_51_0 (x12 : Int) (x14 : Int) (k12 : 122 ≤ x12 ∧ x12 ≤ 122) (k14 : 3660 ≤ x14 ∧ x14 ≤ 3660) : x12 + x14 ≤ 3782 := by
  first
    | omega
  
set_option maxHeartbeats 4000000 in
theorem vc_Gr_alter_at_kx_51_1 (x13 : Int) (x14 : Int) (k13 : 0 ≤ x13 ∧ x13 ≤ 0) (k14 : 3660 ≤ x14 ∧ x14 ≤ 3660) : x13 + x14 ≤ 3782 := by
  first
    | omega
  
set_option maxHeartbeats 4000000 in
theorem vc_Gr_alter_at_kx_51_2 (x9 : Int) (x12 : Int) (x13 : Int) (x14 : Int) (a4_0 : Int → Int) (k9 : 30 ≤ x9 ∧ x9 ≤ 30) (k12 : 122 ≤ x12 ∧ x12 ≤ 122) (k13 : 0 ≤ x13 ∧ x13 ≤ 0) (k14 : 3660 ≤ x14 ∧ x14 ≤ 3660) (f4 : PNI (a4_0) (x9)) : MV1 (a4_0) (a4_0) (x12) (x13) (x14) := by
  first
    | exact ⟨by omega, by omega, by omega, fun r a b => (‹PNI _ _›) r a (by omega)⟩
  
def o_Gr_alter_at_kx_51 : or_T := (56, 15, [(0, (2, 0, 0, [3])), (4, (2, 0, 0, [61])), (7, (2, 0, 0, [52])), (8, (2, 0, 0, [53])), (9, (0, 30, 30, [])), (11, (0, 30, 30, [])), (12, (0, 122, 122, [])), (13, (0, 0, 0, [])), (14, (0, 3660, 3660, []))], [(9, [7, 0], [7]), (9, [8, 0], [8]), (7, [9, 11], [0]), (9, [9, 0], [17]), (20, [4, 9], [61, 1, 762]), (20, [0], [50, 2, 0, 17, 18, 0, 8, 4, 3, 2, 0, 17, 2, 0, 18, 0, 30]), (20, [0], [60, 2, 3, 670, 0, 1, 14, 7, 8]), (20, [0], [60, 2, 2, 596, 0, 1, 7, 8])], [], [], [(21, [12, 14], [3782]), (21, [13, 14], [3782]), (20, [4, 4, 12, 13, 14], [61, 2, 763])], [], [])
theorem oo_Gr_alter_at_kx_51 {kA : Nat → ClassId} : or_ok PRD kA GG o_Gr_alter_at_kx_51 := by
  refine or_mk fun A ta ws vs hD hth hl => ?_
  intro t0 r0 t4 r4 t7 r7 t8 r8 t9 k9 t11 k11 t12 k12 t13 k13 t14 k14 f0 f1 f2 f3 f4 f5 f6 f7
  have nf0 : fc_1 PRD (21, [12, 14], [3782]) ws (vs) := ⟨nf_in hl rfl, sgq_1744 (vc_Gr_alter_at_kx_51_0 (v_iv (n_v vs 12)) (v_iv (n_v vs 14)) k12 k14)⟩
  have nf1 : fc_1 PRD (21, [13, 14], [3782]) ws (vs) := ⟨nf_in hl rfl, sgq_1744 (vc_Gr_alter_at_kx_51_1 (v_iv (n_v vs 13)) (v_iv (n_v vs 14)) k13 k14)⟩
  have nf2 : fc_1 PRD (20, [4, 4, 12, 13, 14], [61, 2, 763]) ws (vs) := ⟨nf_in hl rfl, sgq_1745 (vc_Gr_alter_at_kx_51_2 (v_iv (n_v vs 9)) (v_iv (n_v vs 12)) (v_iv (n_v vs 13)) (v_iv (n_v vs 14)) (w_ei ws (v_ad (n_v vs 4))) k9 k12 k13 k14 (shm_1743 f4))⟩
  refine ⟨(fun _ h => (by cases h)), [], trivial, ?_, (fun _ h => (by cases h))⟩
  rw [List.append_nil]
  exact List.forall_mem_cons.mpr ⟨⟨show (21 : Nat) < 100 from by decide, nf0⟩, List.forall_mem_cons.mpr ⟨⟨show (21 : Nat) < 100 from by decide, nf1⟩, List.forall_mem_cons.mpr ⟨⟨show (20 : Nat) < 100 from by decide, nf2⟩, (fun _ h => (by cases h))⟩⟩⟩
set_option maxHeartbeats 4000000 in
theorem vc_Gr_alter_at_kx_52_0 (x9 : Int) (x12 : Int) (x13 : Int) (x14 : Int) (done_0 : Int) (near_0 : Int → Int) (tail_0 : Int → Int) (head_0 : Int → Int) (nodes_0 : Int) (edges_0 : Int) (past_0 : Int → Int) (done_1 : Int) (near_1 : Int → Int) (tail_1 : Int → Int) (head_1 : Int → Int) (nodes_1 : Int) (edges_1 : Int) (past_1 : Int → Int) (k9 : 30 ≤ x9 ∧ x9 ≤ 30) (k12 : 122 ≤ x12 ∧ x12 ≤ 122) (k13 : 0 ≤ x13 ∧ x13 ≤ 0) (k14 : 3660 ≤ x14 ∧ x14 ≤ 3660) (f16 : MV2 (past_1) (past_1) (x12) (x13) (x14)) (fe_0_0_1 : nodes_0 = nodes_1) (fe_0_1_1 : edges_0 = edges_1) (fe_0_17_1 : done_0 = done_1) (hE_0_7_1 : ∀ j : Int, tail_0 j = tail_1 j) (hE_0_8_1 : ∀ j : Int, head_0 j = head_1 j) (hE_0_14_1 : ∀ j : Int, near_0 j = near_1 j) (hE_0_16_1 : ∀ j : Int, past_0 j = past_1 j) (kz_0_0 : 0 ≤ nodes_0 ∧ nodes_0 ≤ 24) (kz_0_1 : 0 ≤ edges_0 ∧ edges_0 ≤ 48) (kz_0_17 : 0 ≤ done_0 ∧ done_0 ≤ 30) : PRO (past_0) (x9) := by
  subst fe_0_0_1
  subst fe_0_1_1
  subst fe_0_17_1
  have e_hE_0_7_1 := funext hE_0_7_1; subst e_hE_0_7_1
  have e_hE_0_8_1 := funext hE_0_8_1; subst e_hE_0_8_1
  have e_hE_0_14_1 := funext hE_0_14_1; subst e_hE_0_14_1
  have e_hE_0_16_1 := funext hE_0_16_1; subst e_hE_0_16_1
  first
    | exact pro_pdq ‹PDQ _ _ _› (by omega) (by omega)
    | exact pri_pro ‹PNI _ _› (by omega)
    | (have q := (‹MV2 _ _ _ _ _›); exact fun r a b => q r a (by omega))
    | exact pro_zero (by omega) (fun j a b => by have q := hT10 j a (by omega); omega)
  
def o_Gr_alter_at_kx_52 : or_T := (82, 16, [(0, (2, 0, 0, [3])), (4, (2, 0, 0, [61])), (7, (2, 0, 0, [52])), (8, (2, 0, 0, [53])), (9, (0, 30, 30, [])), (11, (0, 30, 30, [])), (12, (0, 122, 122, [])), (13, (0, 0, 0, [])), (14, (0, 3660, 3660, [])), (15, (0, 0, 0, []))], [(9, [15, 0], [18]), (9, [7, 0], [7]), (9, [8, 0], [8]), (9, [4, 0], [16]), (9, [9, 0], [17]), (21, [12, 14], [3782]), (21, [13, 14], [3782]), (20, [0], [60, 2, 3, 670, 0, 1, 14, 7, 8]), (20, [0], [60, 2, 2, 596, 0, 1, 7, 8]), (20, [4, 4, 12, 13, 14], [61, 2, 764]), (101, [0, 15], [18]), (21, [12, 14], [3782]), (21, [13, 14], [3782]), (20, [0], [50, 2, 0, 17, 18, 0, 8, 4, 3, 2, 0, 17, 2, 0, 18, 0, 30]), (20, [0], [60, 2, 3, 670, 0, 1, 14, 7, 8]), (20, [0], [60, 2, 2, 596, 0, 1, 7, 8]), (20, [4, 4, 12, 13, 14], [61, 2, 764]), (102, [14], [2305843009213693952]), (21, [12, 14], [3782]), (21, [13, 14], [3782]), (7, [9, 11], [0])], [], [], [(20, [0, 9], [60, 0, 1, 737, 16])], [], [])
theorem oo_Gr_alter_at_kx_52 {kA : Nat → ClassId} : or_ok PRD kA GG o_Gr_alter_at_kx_52 := by
  refine or_mk fun A ta ws vs hD hth hl => ?_
  intro t0 r0 t4 r4 t7 r7 t8 r8 t9 k9 t11 k11 t12 k12 t13 k13 t14 k14 t15 k15 f0 f1 f2 f3 f4 f5 f6 f7 f8 f9 ta1 w1 le1 s1 f11 f12 f13 f14 f15 f16 ta2 w2 le2 s2 f18 f19 f20
  replace f3 := shm_188 f3
  have s1 : (∀ b j, w_el ws b j = w_el w1 b j) ∧ ∀ b j, w_fd ws b j = if b = v_ad (n_v vs 0) ∧ j = 18 then n_v vs 15 else w_fd w1 b j := s1.2
  replace f16 := shm_1746 f16
  have ar_0_7_1 : w_ar w1 (n_v vs 0) 7 = w_ar ws (n_v vs 0) 7 := by show v_ad (w_fd w1 _ _) = v_ad (w_fd ws _ _); rw [s1.2, if_neg (fun e => absurd e.2 (by decide))]
  have ar_0_8_1 : w_ar w1 (n_v vs 0) 8 = w_ar ws (n_v vs 0) 8 := by show v_ad (w_fd w1 _ _) = v_ad (w_fd ws _ _); rw [s1.2, if_neg (fun e => absurd e.2 (by decide))]
  have ar_0_14_1 : w_ar w1 (n_v vs 0) 14 = w_ar ws (n_v vs 0) 14 := by show v_ad (w_fd w1 _ _) = v_ad (w_fd ws _ _); rw [s1.2, if_neg (fun e => absurd e.2 (by decide))]
  have ad_4 : v_ad (n_v vs 4) = w_ar ws (n_v vs 0) 16 := congrArg v_ad f3
  simp only [ad_4, ar_0_7_1, ar_0_8_1, ar_0_14_1] at f16
  have fe_0_0_1 : w_fi ws (n_v vs 0) 0 = w_fi w1 (n_v vs 0) 0 := by show v_iv (w_fd _ _ _) = v_iv (w_fd _ _ _); rw [s1.2, if_neg (fun e => absurd e.2 (by decide))]
  have fe_0_1_1 : w_fi ws (n_v vs 0) 1 = w_fi w1 (n_v vs 0) 1 := by show v_iv (w_fd _ _ _) = v_iv (w_fd _ _ _); rw [s1.2, if_neg (fun e => absurd e.2 (by decide))]
  have fe_0_17_1 : w_fi ws (n_v vs 0) 17 = w_fi w1 (n_v vs 0) 17 := by show v_iv (w_fd _ _ _) = v_iv (w_fd _ _ _); rw [s1.2, if_neg (fun e => absurd e.2 (by decide))]
  have hE_0_7_1 : ∀ j : Int, w_ei ws (w_ar ws (n_v vs 0) 7) j = w_ei w1 (w_ar ws (n_v vs 0) 7) j := fun j => s1.1 _ _
  have hE_0_8_1 : ∀ j : Int, w_ei ws (w_ar ws (n_v vs 0) 8) j = w_ei w1 (w_ar ws (n_v vs 0) 8) j := fun j => s1.1 _ _
  have hE_0_14_1 : ∀ j : Int, w_ei ws (w_ar ws (n_v vs 0) 14) j = w_ei w1 (w_ar ws (n_v vs 0) 14) j := fun j => s1.1 _ _
  have hE_0_16_1 : ∀ j : Int, w_ei ws (w_ar ws (n_v vs 0) 16) j = w_ei w1 (w_ar ws (n_v vs 0) 16) j := fun j => s1.1 _ _
  have kz_0_0 := fdq_23 hD hth r0
  have kz_0_1 := fdq_38 hD hth r0
  have kz_0_17 := fdq_282 hD hth r0
  have nf0 : fc_1 PRD (20, [0, 9], [60, 0, 1, 737, 16]) ws (vs) := ⟨nf_in hl rfl, sgq_821 (vc_Gr_alter_at_kx_52_0 (v_iv (n_v vs 9)) (v_iv (n_v vs 12)) (v_iv (n_v vs 13)) (v_iv (n_v vs 14)) (w_fi ws (n_v vs 0) 17) (w_ei ws (w_ar ws (n_v vs 0) 14)) (w_ei ws (w_ar ws (n_v vs 0) 7)) (w_ei ws (w_ar ws (n_v vs 0) 8)) (w_fi ws (n_v vs 0) 0) (w_fi ws (n_v vs 0) 1) (w_ei ws (w_ar ws (n_v vs 0) 16)) (w_fi w1 (n_v vs 0) 17) (w_ei w1 (w_ar ws (n_v vs 0) 14)) (w_ei w1 (w_ar ws (n_v vs 0) 7)) (w_ei w1 (w_ar ws (n_v vs 0) 8)) (w_fi w1 (n_v vs 0) 0) (w_fi w1 (n_v vs 0) 1) (w_ei w1 (w_ar ws (n_v vs 0) 16)) k9 k12 k13 k14 f16 fe_0_0_1 fe_0_1_1 fe_0_17_1 hE_0_7_1 hE_0_8_1 hE_0_14_1 hE_0_16_1 kz_0_0 kz_0_1 kz_0_17)⟩
  refine ⟨(fun _ h => (by cases h)), [], trivial, ?_, (fun _ h => (by cases h))⟩
  rw [List.append_nil]
  exact List.forall_mem_cons.mpr ⟨⟨show (20 : Nat) < 100 from by decide, nf0⟩, (fun _ h => (by cases h))⟩
set_option maxHeartbeats 4000000 in
theorem vc_Gr_alter_at_kx_53_0 (x9 : Int) (x15 : Int) (undone_0 : Int) (done_0 : Int) (k9 : 30 ≤ x9 ∧ x9 ≤ 30) (k15 : 0 ≤ x15 ∧ x15 ≤ 0) (g0 : x15 = undone_0) (g3 : x9 = done_0) (kz_0_17 : 0 ≤ done_0 ∧ done_0 ≤ 30) (kz_0_18 : 0 ≤ undone_0 ∧ undone_0 ≤ 30) : (done_0 + undone_0) ≤ 30 := by
  first
    | omega
  
set_option maxHeartbeats 4000000 in
theorem vc_Gr_alter_at_kx_53_1 (x9 : Int) (x15 : Int) (undone_0 : Int) (done_0 : Int) (past_0 : Int → Int) (k9 : 30 ≤ x9 ∧ x9 ≤ 30) (k15 : 0 ≤ x15 ∧ x15 ≤ 0) (g0 : x15 = undone_0) (g3 : x9 = done_0) (f6 : PRI (past_0) (x9)) (kz_0_17 : 0 ≤ done_0 ∧ done_0 ≤ 30) (kz_0_18 : 0 ≤ undone_0 ∧ undone_0 ≤ 30) : PDQ (done_0) (undone_0) (past_0) := by
  first
    | assumption
    | exact pri_pdq ‹PRI _ _› (by omega) (by omega)
  
def o_Gr_alter_at_kx_53 : or_T := (87, 16, [(0, (2, 0, 0, [3])), (4, (2, 0, 0, [61])), (7, (2, 0, 0, [52])), (8, (2, 0, 0, [53])), (9, (0, 30, 30, [])), (11, (0, 30, 30, [])), (15, (0, 0, 0, []))], [(9, [15, 0], [18]), (9, [7, 0], [7]), (9, [8, 0], [8]), (9, [9, 0], [17]), (9, [4, 0], [16]), (20, [0], [60, 2, 3, 670, 0, 1, 14, 7, 8]), (20, [0, 9], [60, 0, 1, 738, 16]), (20, [0], [60, 2, 2, 596, 0, 1, 7, 8]), (102, [15], [2305843009213693952]), (101, [0, 15], [18]), (102, [14], [2305843009213693952]), (7, [9, 11], [0])], [], [], [(20, [0], [50, 2, 0, 17, 18, 0, 8, 4, 3, 2, 0, 17, 2, 0, 18, 0, 30]), (20, [0], [60, 2, 1, 739, 17, 18, 16])], [], [])
theorem oo_Gr_alter_at_kx_53 {kA : Nat → ClassId} : or_ok PRD kA GG o_Gr_alter_at_kx_53 := by
  refine or_mk fun A ta ws vs hD hth hl => ?_
  intro t0 r0 t4 r4 t7 r7 t8 r8 t9 k9 t11 k11 t15 k15 f0 f1 f2 f3 f4 f5 f6 f7 ta1 w1 le1 s1 ta2 w2 le2 s2 ta3 w3 le3 s3 f11
  replace f0 := shm_785 f0
  replace f3 := shm_781 f3
  have g0 : v_iv (n_v vs 15) = w_fi ws (n_v vs 0) 18 := congrArg v_iv f0
  have g3 : v_iv (n_v vs 9) = w_fi ws (n_v vs 0) 17 := congrArg v_iv f3
  have kz_0_17 := fdq_282 hD hth r0
  have kz_0_18 := fdq_283 hD hth r0
  have nf0 : fc_1 PRD (20, [0], [50, 2, 0, 17, 18, 0, 8, 4, 3, 2, 0, 17, 2, 0, 18, 0, 30]) ws (vs) := ⟨nf_in hl rfl, sgq_1462 (vc_Gr_alter_at_kx_53_0 (v_iv (n_v vs 9)) (v_iv (n_v vs 15)) (w_fi ws (n_v vs 0) 18) (w_fi ws (n_v vs 0) 17) k9 k15 g0 g3 kz_0_17 kz_0_18)⟩
  have nf1 : fc_1 PRD (20, [0], [60, 2, 1, 739, 17, 18, 16]) ws (vs) := ⟨nf_in hl rfl, sgq_1327 (vc_Gr_alter_at_kx_53_1 (v_iv (n_v vs 9)) (v_iv (n_v vs 15)) (w_fi ws (n_v vs 0) 18) (w_fi ws (n_v vs 0) 17) (w_ei ws (w_ar ws (n_v vs 0) 16)) k9 k15 g0 g3 (shm_826 f6) kz_0_17 kz_0_18)⟩
  refine ⟨(fun _ h => (by cases h)), [], trivial, ?_, (fun _ h => (by cases h))⟩
  rw [List.append_nil]
  exact List.forall_mem_cons.mpr ⟨⟨show (20 : Nat) < 100 from by decide, nf0⟩, List.forall_mem_cons.mpr ⟨⟨show (20 : Nat) < 100 from by decide, nf1⟩, (fun _ h => (by cases h))⟩⟩
def n_Gr_alter_at_kx_an : List an_T := []
def t_Gr_alter_at_kx_ct : ct_L := [(1, 126, e_Gr_pack), (88, 129, e_Gr_perform_at_kx), (171, 77, e_acp_0)]
