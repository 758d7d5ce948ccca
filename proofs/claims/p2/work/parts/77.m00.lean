def o_Gr_removeNode_0 : or_T := (33, 6, [(0, (2, 0, 0, [3])), (1, (0, 0, 23, [])), (2, (0, 0, 47, [])), (3, (0, 1, 48, [])), (4, (2, 0, 0, [52])), (5, (0, 0, 23, []))], [(7, [5, 1], [0]), (10, [5, 4, 2], []), (9, [4, 0], [7]), (8, [2], [3]), (20, [0], [30, -1, -1, 1, 0]), (20, [1, 0], [30, -1, 1, 0, 0, -1, 1, 0])], [], [], [(7, [2, 3], [2])], [], [(5, 1, 0, 0), (1, 2, -4294967296, 24), (1, 3, -4294967296, 23), (2, 1, -4294967296, 47), (2, 3, -4294967296, -1), (3, 1, -4294967296, 48), (3, 2, -4294967296, 49)])
theorem oo_Gr_removeNode_0 {kA : Nat → ClassId} : or_ok kA GG o_Gr_removeNode_0 := by
  intro A ta ws vs hD hth hl hk hds hf
  have hl : vs.length = 6 := hl
  have hk : ∀ q ∈ ([(0, (2, 0, 0, [3])), (1, (0, 0, 23, [])), (2, (0, 0, 47, [])), (3, (0, 1, 48, [])), (4, (2, 0, 0, [52])), (5, (0, 0, 23, []))] : List (Nat × tv_T)), tv_ok ta q.2 (n_v vs q.1) := hk
  obtain ⟨t0, hk⟩ := List.forall_mem_cons.mp hk
  have t0 : tv_ok ta (2, 0, 0, [3]) (n_v vs 0) := t0
  have r0 : ta (v_ad (n_v vs 0)) = some 3 := tv_rg t0
  obtain ⟨t1, hk⟩ := List.forall_mem_cons.mp hk
  have t1 : tv_ok ta (0, 0, 23, []) (n_v vs 1) := t1
  have k1 : 0 ≤ v_iv (n_v vs 1) ∧ v_iv (n_v vs 1) ≤ 23 := tv_rng t1
  obtain ⟨t2, hk⟩ := List.forall_mem_cons.mp hk
  have t2 : tv_ok ta (0, 0, 47, []) (n_v vs 2) := t2
  have k2 : 0 ≤ v_iv (n_v vs 2) ∧ v_iv (n_v vs 2) ≤ 47 := tv_rng t2
  obtain ⟨t3, hk⟩ := List.forall_mem_cons.mp hk
  have t3 : tv_ok ta (0, 1, 48, []) (n_v vs 3) := t3
  have k3 : 1 ≤ v_iv (n_v vs 3) ∧ v_iv (n_v vs 3) ≤ 48 := tv_rng t3
  obtain ⟨t4, hk⟩ := List.forall_mem_cons.mp hk
  have t4 : tv_ok ta (2, 0, 0, [52]) (n_v vs 4) := t4
  have r4 : ta (v_ad (n_v vs 4)) = some 52 := tv_rg t4
  obtain ⟨t5, hk⟩ := List.forall_mem_cons.mp hk
  have t5 : tv_ok ta (0, 0, 23, []) (n_v vs 5) := t5
  have k5 : 0 ≤ v_iv (n_v vs 5) ∧ v_iv (n_v vs 5) ≤ 23 := tv_rng t5
  have hds : ∀ q ∈ ([(5, 1, 0, 0), (1, 2, -4294967296, 24), (1, 3, -4294967296, 23), (2, 1, -4294967296, 47), (2, 3, -4294967296, -1), (3, 1, -4294967296, 48), (3, 2, -4294967296, 49)] : List of_T), n_iv vs q.2.1 + q.2.2.1 ≤ n_iv vs q.1 ∧ n_iv vs q.1 ≤ n_iv vs q.2.1 + q.2.2.2 := hds
  obtain ⟨d0, hds⟩ := List.forall_mem_cons.mp hds
  have d0 : v_iv (n_v vs 1) + 0 ≤ v_iv (n_v vs 5) ∧ v_iv (n_v vs 5) ≤ v_iv (n_v vs 1) + 0 := d0
  obtain ⟨d1, hds⟩ := List.forall_mem_cons.mp hds
  have d1 : v_iv (n_v vs 2) + (-4294967296) ≤ v_iv (n_v vs 1) ∧ v_iv (n_v vs 1) ≤ v_iv (n_v vs 2) + 24 := d1
  obtain ⟨d2, hds⟩ := List.forall_mem_cons.mp hds
  have d2 : v_iv (n_v vs 3) + (-4294967296) ≤ v_iv (n_v vs 1) ∧ v_iv (n_v vs 1) ≤ v_iv (n_v vs 3) + 23 := d2
  obtain ⟨d3, hds⟩ := List.forall_mem_cons.mp hds
  have d3 : v_iv (n_v vs 1) + (-4294967296) ≤ v_iv (n_v vs 2) ∧ v_iv (n_v vs 2) ≤ v_iv (n_v vs 1) + 47 := d3
  obtain ⟨d4, hds⟩ := List.forall_mem_cons.mp hds
  have d4 : v_iv (n_v vs 3) + (-4294967296) ≤ v_iv (n_v vs 2) ∧ v_iv (n_v vs 2) ≤ v_iv (n_v vs 3) + (-1) := d4
  obtain ⟨d5, hds⟩ := List.forall_mem_cons.mp hds
  have d5 : v_iv (n_v vs 1) + (-4294967296) ≤ v_iv (n_v vs 3) ∧ v_iv (n_v vs 3) ≤ v_iv (n_v vs 1) + 48 := d5
  obtain ⟨d6, hds⟩ := List.forall_mem_cons.mp hds
  have d6 : v_iv (n_v vs 2) + (-4294967296) ≤ v_iv (n_v vs 3) ∧ v_iv (n_v vs 3) ≤ v_iv (n_v vs 2) + 49 := d6
  have hf : fc_ok [(7, [5, 1], [0]), (10, [5, 4, 2], []), (9, [4, 0], [7]), (8, [2], [3]), (20, [0], [30, -1, -1, 1, 0]), (20, [1, 0], [30, -1, 1, 0, 0, -1, 1, 0])] ta ws vs := hf
  obtain ⟨f0, hf⟩ := fc_un (by decide) hf
  have f0 : v_iv (n_v vs 5) = v_iv (n_v vs 1) := f0
  obtain ⟨f1, hf⟩ := fc_un (by decide) hf
  have f1 : v_iv (n_v vs 5) = w_el ws (v_ad (n_v vs 4)) (v_iv (n_v vs 2)).toNat := f1
  obtain ⟨f2, hf⟩ := fc_un (by decide) hf
  have f2 : n_v vs 4 = w_fd ws (v_ad (n_v vs 0)) 7 := f2
  obtain ⟨f3, hf⟩ := fc_un (by decide) hf
  have f3 : 0 ≤ v_iv (n_v vs 2) := f3
  obtain ⟨f4, hf⟩ := fc_un (by decide) hf
  have f4 : (-1) * w_fi ws (n_v vs 0) 0 + 0 ≤ (-1) := f4
  obtain ⟨f5, hf⟩ := fc_un (by decide) hf
  have f5 : 1 * v_iv (n_v vs 1) + ((-1) * w_fi ws (n_v vs 0) 0 + 0) ≤ (-1) := f5
  have cr_0_7 : ta (w_ar ws (n_v vs 0) 7) = some 52 := tv_rg (th_fd hD hth r0 (g := GG_3) rfl (k := 7) (t := (2, 0, 0, [52])) rfl rfl)
  have ad_4 : v_ad (n_v vs 4) = w_ar ws (n_v vs 0) 7 := congrArg v_ad f2
  rw [ad_4] at f1
  have nf0 : fc_1 (7, [2, 3], [2]) ws (vs) := by
    refine ⟨fun n hn => ?_, ?_⟩
    · have hn : n ∈ [2, 3] := hn
      rw [hl]
      simp only [List.mem_cons, List.not_mem_nil, or_false] at hn
      show n < 6; omega
    · show v_iv (n_v vs 2) < v_iv (n_v vs 3)
      omega
  refine ⟨(fun _ h => (by cases h)), [], trivial, ?_, (fun _ h => (by cases h))⟩
  rw [List.append_nil]
  exact List.forall_mem_cons.mpr ⟨⟨by decide, nf0⟩, (fun _ h => (by cases h))⟩
def o_Gr_removeNode_1 : or_T := (33, 8, [(0, (2, 0, 0, [3])), (1, (0, 0, 23, [])), (2, (0, 0, 47, [])), (3, (0, 1, 48, [])), (4, (2, 0, 0, [52])), (5, (0, 0, 23, [])), (6, (2, 0, 0, [53])), (7, (0, 0, 23, []))], [(7, [7, 1], [0]), (10, [7, 6, 2], []), (9, [6, 0], [8]), (7, [5, 1], [1]), (10, [5, 4, 2], []), (9, [4, 0], [7]), (8, [2], [3]), (20, [0], [30, -1, -1, 1, 0]), (20, [1, 0], [30, -1, 1, 0, 0, -1, 1, 0])], [], [], [(7, [2, 3], [2])], [], [(7, 1, 0, 0), (1, 2, -4294967296, 24), (1, 3, -4294967296, 23), (2, 1, -4294967296, 47), (2, 3, -4294967296, -1), (3, 1, -4294967296, 48), (3, 2, -4294967296, 49)])
theorem oo_Gr_removeNode_1 {kA : Nat → ClassId} : or_ok kA GG o_Gr_removeNode_1 := by
  intro A ta ws vs hD hth hl hk hds hf
  have hl : vs.length = 8 := hl
  have hk : ∀ q ∈ ([(0, (2, 0, 0, [3])), (1, (0, 0, 23, [])), (2, (0, 0, 47, [])), (3, (0, 1, 48, [])), (4, (2, 0, 0, [52])), (5, (0, 0, 23, [])), (6, (2, 0, 0, [53])), (7, (0, 0, 23, []))] : List (Nat × tv_T)), tv_ok ta q.2 (n_v vs q.1) := hk
  obtain ⟨t0, hk⟩ := List.forall_mem_cons.mp hk
  have t0 : tv_ok ta (2, 0, 0, [3]) (n_v vs 0) := t0
  have r0 : ta (v_ad (n_v vs 0)) = some 3 := tv_rg t0
  obtain ⟨t1, hk⟩ := List.forall_mem_cons.mp hk
  have t1 : tv_ok ta (0, 0, 23, []) (n_v vs 1) := t1
  have k1 : 0 ≤ v_iv (n_v vs 1) ∧ v_iv (n_v vs 1) ≤ 23 := tv_rng t1
  obtain ⟨t2, hk⟩ := List.forall_mem_cons.mp hk
  have t2 : tv_ok ta (0, 0, 47, []) (n_v vs 2) := t2
  have k2 : 0 ≤ v_iv (n_v vs 2) ∧ v_iv (n_v vs 2) ≤ 47 := tv_rng t2
  obtain ⟨t3, hk⟩ := List.forall_mem_cons.mp hk
  have t3 : tv_ok ta (0, 1, 48, []) (n_v vs 3) := t3
  have k3 : 1 ≤ v_iv (n_v vs 3) ∧ v_iv (n_v vs 3) ≤ 48 := tv_rng t3
  obtain ⟨t4, hk⟩ := List.forall_mem_cons.mp hk
  have t4 : tv_ok ta (2, 0, 0, [52]) (n_v vs 4) := t4
  have r4 : ta (v_ad (n_v vs 4)) = some 52 := tv_rg t4
  obtain ⟨t5, hk⟩ := List.forall_mem_cons.mp hk
  have t5 : tv_ok ta (0, 0, 23, []) (n_v vs 5) := t5
  have k5 : 0 ≤ v_iv (n_v vs 5) ∧ v_iv (n_v vs 5) ≤ 23 := tv_rng t5
  obtain ⟨t6, hk⟩ := List.forall_mem_cons.mp hk
  have t6 : tv_ok ta (2, 0, 0, [53]) (n_v vs 6) := t6
  have r6 : ta (v_ad (n_v vs 6)) = some 53 := tv_rg t6
  obtain ⟨t7, hk⟩ := List.forall_mem_cons.mp hk
  have t7 : tv_ok ta (0, 0, 23, []) (n_v vs 7) := t7
  have k7 : 0 ≤ v_iv (n_v vs 7) ∧ v_iv (n_v vs 7) ≤ 23 := tv_rng t7
  have hds : ∀ q ∈ ([(7, 1, 0, 0), (1, 2, -4294967296, 24), (1, 3, -4294967296, 23), (2, 1, -4294967296, 47), (2, 3, -4294967296, -1), (3, 1, -4294967296, 48), (3, 2, -4294967296, 49)] : List of_T), n_iv vs q.2.1 + q.2.2.1 ≤ n_iv vs q.1 ∧ n_iv vs q.1 ≤ n_iv vs q.2.1 + q.2.2.2 := hds
  obtain ⟨d0, hds⟩ := List.forall_mem_cons.mp hds
  have d0 : v_iv (n_v vs 1) + 0 ≤ v_iv (n_v vs 7) ∧ v_iv (n_v vs 7) ≤ v_iv (n_v vs 1) + 0 := d0
  obtain ⟨d1, hds⟩ := List.forall_mem_cons.mp hds
  have d1 : v_iv (n_v vs 2) + (-4294967296) ≤ v_iv (n_v vs 1) ∧ v_iv (n_v vs 1) ≤ v_iv (n_v vs 2) + 24 := d1
  obtain ⟨d2, hds⟩ := List.forall_mem_cons.mp hds
  have d2 : v_iv (n_v vs 3) + (-4294967296) ≤ v_iv (n_v vs 1) ∧ v_iv (n_v vs 1) ≤ v_iv (n_v vs 3) + 23 := d2
  obtain ⟨d3, hds⟩ := List.forall_mem_cons.mp hds
  have d3 : v_iv (n_v vs 1) + (-4294967296) ≤ v_iv (n_v vs 2) ∧ v_iv (n_v vs 2) ≤ v_iv (n_v vs 1) + 47 := d3
  obtain ⟨d4, hds⟩ := List.forall_mem_cons.mp hds
  have d4 : v_iv (n_v vs 3) + (-4294967296) ≤ v_iv (n_v vs 2) ∧ v_iv (n_v vs 2) ≤ v_iv (n_v vs 3) + (-1) := d4
  obtain ⟨d5, hds⟩ := List.forall_mem_cons.mp hds
  have d5 : v_iv (n_v vs 1) + (-4294967296) ≤ v_iv (n_v vs 3) ∧ v_iv (n_v vs 3) ≤ v_iv (n_v vs 1) + 48 := d5
  obtain ⟨d6, hds⟩ := List.forall_mem_cons.mp hds
  have d6 : v_iv (n_v vs 2) + (-4294967296) ≤ v_iv (n_v vs 3) ∧ v_iv (n_v vs 3) ≤ v_iv (n_v vs 2) + 49 := d6
  have hf : fc_ok [(7, [7, 1], [0]), (10, [7, 6, 2], []), (9, [6, 0], [8]), (7, [5, 1], [1]), (10, [5, 4, 2], []), (9, [4, 0], [7]), (8, [2], [3]), (20, [0], [30, -1, -1, 1, 0]), (20, [1, 0], [30, -1, 1, 0, 0, -1, 1, 0])] ta ws vs := hf
  obtain ⟨f0, hf⟩ := fc_un (by decide) hf
  have f0 : v_iv (n_v vs 7) = v_iv (n_v vs 1) := f0
  obtain ⟨f1, hf⟩ := fc_un (by decide) hf
  have f1 : v_iv (n_v vs 7) = w_el ws (v_ad (n_v vs 6)) (v_iv (n_v vs 2)).toNat := f1
  obtain ⟨f2, hf⟩ := fc_un (by decide) hf
  have f2 : n_v vs 6 = w_fd ws (v_ad (n_v vs 0)) 8 := f2
  obtain ⟨f3, hf⟩ := fc_un (by decide) hf
  have f3 : v_iv (n_v vs 5) ≠ v_iv (n_v vs 1) := f3
  obtain ⟨f4, hf⟩ := fc_un (by decide) hf
  have f4 : v_iv (n_v vs 5) = w_el ws (v_ad (n_v vs 4)) (v_iv (n_v vs 2)).toNat := f4
  obtain ⟨f5, hf⟩ := fc_un (by decide) hf
  have f5 : n_v vs 4 = w_fd ws (v_ad (n_v vs 0)) 7 := f5
  obtain ⟨f6, hf⟩ := fc_un (by decide) hf
  have f6 : 0 ≤ v_iv (n_v vs 2) := f6
  obtain ⟨f7, hf⟩ := fc_un (by decide) hf
  have f7 : (-1) * w_fi ws (n_v vs 0) 0 + 0 ≤ (-1) := f7
  obtain ⟨f8, hf⟩ := fc_un (by decide) hf
  have f8 : 1 * v_iv (n_v vs 1) + ((-1) * w_fi ws (n_v vs 0) 0 + 0) ≤ (-1) := f8
  have cr_0_7 : ta (w_ar ws (n_v vs 0) 7) = some 52 := tv_rg (th_fd hD hth r0 (g := GG_3) rfl (k := 7) (t := (2, 0, 0, [52])) rfl rfl)
  have cr_0_8 : ta (w_ar ws (n_v vs 0) 8) = some 53 := tv_rg (th_fd hD hth r0 (g := GG_3) rfl (k := 8) (t := (2, 0, 0, [53])) rfl rfl)
  have ad_6 : v_ad (n_v vs 6) = w_ar ws (n_v vs 0) 8 := congrArg v_ad f2
  have ad_4 : v_ad (n_v vs 4) = w_ar ws (n_v vs 0) 7 := congrArg v_ad f5
  rw [ad_6] at f1
  rw [ad_4] at f4
  have nf0 : fc_1 (7, [2, 3], [2]) ws (vs) := by
    refine ⟨fun n hn => ?_, ?_⟩
    · have hn : n ∈ [2, 3] := hn
      rw [hl]
      simp only [List.mem_cons, List.not_mem_nil, or_false] at hn
      show n < 8; omega
    · show v_iv (n_v vs 2) < v_iv (n_v vs 3)
      omega
  refine ⟨(fun _ h => (by cases h)), [], trivial, ?_, (fun _ h => (by cases h))⟩
  rw [List.append_nil]
  exact List.forall_mem_cons.mpr ⟨⟨by decide, nf0⟩, (fun _ h => (by cases h))⟩
def o_Gr_removeNode_2 : or_T := (110, 5, [(0, (2, 0, 0, [3])), (1, (0, 0, 23, [])), (4, (0, 0, 24, []))], [(9, [4, 0], [0]), (20, [0], [30, -1, -1, 1, 0]), (20, [1, 0], [30, -1, 1, 0, 0, -1, 1, 0])], [(4, (0, 1, 24, []))], [], [], [], [])
theorem oo_Gr_removeNode_2 {kA : Nat → ClassId} : or_ok kA GG o_Gr_removeNode_2 := by
  intro A ta ws vs hD hth hl hk hds hf
  have hl : vs.length = 5 := hl
  have hk : ∀ q ∈ ([(0, (2, 0, 0, [3])), (1, (0, 0, 23, [])), (4, (0, 0, 24, []))] : List (Nat × tv_T)), tv_ok ta q.2 (n_v vs q.1) := hk
  obtain ⟨t0, hk⟩ := List.forall_mem_cons.mp hk
  have t0 : tv_ok ta (2, 0, 0, [3]) (n_v vs 0) := t0
  have r0 : ta (v_ad (n_v vs 0)) = some 3 := tv_rg t0
  obtain ⟨t1, hk⟩ := List.forall_mem_cons.mp hk
  have t1 : tv_ok ta (0, 0, 23, []) (n_v vs 1) := t1
  have k1 : 0 ≤ v_iv (n_v vs 1) ∧ v_iv (n_v vs 1) ≤ 23 := tv_rng t1
  obtain ⟨t4, hk⟩ := List.forall_mem_cons.mp hk
  have t4 : tv_ok ta (0, 0, 24, []) (n_v vs 4) := t4
  have k4 : 0 ≤ v_iv (n_v vs 4) ∧ v_iv (n_v vs 4) ≤ 24 := tv_rng t4
  have hf : fc_ok [(9, [4, 0], [0]), (20, [0], [30, -1, -1, 1, 0]), (20, [1, 0], [30, -1, 1, 0, 0, -1, 1, 0])] ta ws vs := hf
  obtain ⟨f0, hf⟩ := fc_un (by decide) hf
  have f0 : n_v vs 4 = w_fd ws (v_ad (n_v vs 0)) 0 := f0
  obtain ⟨f1, hf⟩ := fc_un (by decide) hf
  have f1 : (-1) * w_fi ws (n_v vs 0) 0 + 0 ≤ (-1) := f1
  obtain ⟨f2, hf⟩ := fc_un (by decide) hf
  have f2 : 1 * v_iv (n_v vs 1) + ((-1) * w_fi ws (n_v vs 0) 0 + 0) ≤ (-1) := f2
  have g0 : v_iv (n_v vs 4) = w_fi ws (n_v vs 0) 0 := congrArg v_iv f0
  have rf4 : tv_ok ta (0, 1, 24, []) (n_v vs 4) := tv_in t4 (by omega) (by omega)
  refine ⟨List.forall_mem_cons.mpr ⟨rf4, (fun _ h => (by cases h))⟩, [], trivial, ?_, (fun _ h => (by cases h))⟩
  rw [List.append_nil]
  exact (fun _ h => (by cases h))
def o_Gr_removeNode_3 : or_T := (114, 8, [(0, (2, 0, 0, [3])), (1, (0, 0, 23, [])), (4, (0, 1, 24, [])), (5, (0, -22, 24, [])), (6, (0, 1, 1, [])), (7, (0, -23, 23, []))], [(2, [7, 5, 6], []), (2, [5, 4, 1], []), (9, [4, 0], [0]), (20, [0], [30, -1, -1, 1, 0]), (20, [1, 0], [30, -1, 1, 0, 0, -1, 1, 0])], [(7, (0, 0, 23, []))], [], [], [], [(7, 5, -1, -1), (7, 4, -24, -1), (5, 4, -23, 0)])
theorem oo_Gr_removeNode_3 {kA : Nat → ClassId} : or_ok kA GG o_Gr_removeNode_3 := by
  intro A ta ws vs hD hth hl hk hds hf
  have hl : vs.length = 8 := hl
  have hk : ∀ q ∈ ([(0, (2, 0, 0, [3])), (1, (0, 0, 23, [])), (4, (0, 1, 24, [])), (5, (0, -22, 24, [])), (6, (0, 1, 1, [])), (7, (0, -23, 23, []))] : List (Nat × tv_T)), tv_ok ta q.2 (n_v vs q.1) := hk
  obtain ⟨t0, hk⟩ := List.forall_mem_cons.mp hk
  have t0 : tv_ok ta (2, 0, 0, [3]) (n_v vs 0) := t0
  have r0 : ta (v_ad (n_v vs 0)) = some 3 := tv_rg t0
  obtain ⟨t1, hk⟩ := List.forall_mem_cons.mp hk
  have t1 : tv_ok ta (0, 0, 23, []) (n_v vs 1) := t1
  have k1 : 0 ≤ v_iv (n_v vs 1) ∧ v_iv (n_v vs 1) ≤ 23 := tv_rng t1
  obtain ⟨t4, hk⟩ := List.forall_mem_cons.mp hk
  have t4 : tv_ok ta (0, 1, 24, []) (n_v vs 4) := t4
  have k4 : 1 ≤ v_iv (n_v vs 4) ∧ v_iv (n_v vs 4) ≤ 24 := tv_rng t4
  obtain ⟨t5, hk⟩ := List.forall_mem_cons.mp hk
  have t5 : tv_ok ta (0, -22, 24, []) (n_v vs 5) := t5
  have k5 : (-22) ≤ v_iv (n_v vs 5) ∧ v_iv (n_v vs 5) ≤ 24 := tv_rng t5
  obtain ⟨t6, hk⟩ := List.forall_mem_cons.mp hk
  have t6 : tv_ok ta (0, 1, 1, []) (n_v vs 6) := t6
  have k6 : 1 ≤ v_iv (n_v vs 6) ∧ v_iv (n_v vs 6) ≤ 1 := tv_rng t6
  obtain ⟨t7, hk⟩ := List.forall_mem_cons.mp hk
  have t7 : tv_ok ta (0, -23, 23, []) (n_v vs 7) := t7
  have k7 : (-23) ≤ v_iv (n_v vs 7) ∧ v_iv (n_v vs 7) ≤ 23 := tv_rng t7
  have hds : ∀ q ∈ ([(7, 5, -1, -1), (7, 4, -24, -1), (5, 4, -23, 0)] : List of_T), n_iv vs q.2.1 + q.2.2.1 ≤ n_iv vs q.1 ∧ n_iv vs q.1 ≤ n_iv vs q.2.1 + q.2.2.2 := hds
  obtain ⟨d0, hds⟩ := List.forall_mem_cons.mp hds
  have d0 : v_iv (n_v vs 5) + (-1) ≤ v_iv (n_v vs 7) ∧ v_iv (n_v vs 7) ≤ v_iv (n_v vs 5) + (-1) := d0
  obtain ⟨d1, hds⟩ := List.forall_mem_cons.mp hds
  have d1 : v_iv (n_v vs 4) + (-24) ≤ v_iv (n_v vs 7) ∧ v_iv (n_v vs 7) ≤ v_iv (n_v vs 4) + (-1) := d1
  obtain ⟨d2, hds⟩ := List.forall_mem_cons.mp hds
  have d2 : v_iv (n_v vs 4) + (-23) ≤ v_iv (n_v vs 5) ∧ v_iv (n_v vs 5) ≤ v_iv (n_v vs 4) + 0 := d2
  have hf : fc_ok [(2, [7, 5, 6], []), (2, [5, 4, 1], []), (9, [4, 0], [0]), (20, [0], [30, -1, -1, 1, 0]), (20, [1, 0], [30, -1, 1, 0, 0, -1, 1, 0])] ta ws vs := hf
  obtain ⟨f0, hf⟩ := fc_un (by decide) hf
  have f0 : v_iv (n_v vs 7) = v_iv (n_v vs 5) - v_iv (n_v vs 6) := f0
  obtain ⟨f1, hf⟩ := fc_un (by decide) hf
  have f1 : v_iv (n_v vs 5) = v_iv (n_v vs 4) - v_iv (n_v vs 1) := f1
  obtain ⟨f2, hf⟩ := fc_un (by decide) hf
  have f2 : n_v vs 4 = w_fd ws (v_ad (n_v vs 0)) 0 := f2
  obtain ⟨f3, hf⟩ := fc_un (by decide) hf
  have f3 : (-1) * w_fi ws (n_v vs 0) 0 + 0 ≤ (-1) := f3
  obtain ⟨f4, hf⟩ := fc_un (by decide) hf
  have f4 : 1 * v_iv (n_v vs 1) + ((-1) * w_fi ws (n_v vs 0) 0 + 0) ≤ (-1) := f4
  have g2 : v_iv (n_v vs 4) = w_fi ws (n_v vs 0) 0 := congrArg v_iv f2
  have rf7 : tv_ok ta (0, 0, 23, []) (n_v vs 7) := tv_in t7 (by omega) (by omega)
  refine ⟨List.forall_mem_cons.mpr ⟨rf7, (fun _ h => (by cases h))⟩, [], trivial, ?_, (fun _ h => (by cases h))⟩
  rw [List.append_nil]
  exact (fun _ h => (by cases h))
def o_Gr_removeNode_4 : or_T := (137, 17, [(0, (2, 0, 0, [3])), (1, (0, 0, 23, [])), (4, (0, 1, 24, [])), (5, (0, -22, 24, [])), (6, (0, 1, 1, [])), (7, (0, 0, 23, [])), (9, (0, 1, 1, [])), (10, (0, 1, 24, [])), (11, (0, 8, 8, [])), (12, (0, 8, 192, [])), (13, (0, 8, 8, [])), (14, (0, 0, 184, [])), (15, (0, 8, 8, [])), (16, (0, 0, 184, []))], [(3, [16, 7, 15], []), (3, [14, 1, 13], []), (3, [12, 10, 11], []), (1, [10, 1, 9], []), (2, [7, 5, 6], []), (2, [5, 4, 1], []), (9, [4, 0], [0]), (20, [0], [30, -1, -1, 1, 0]), (20, [1, 0], [30, -1, 1, 0, 0, -1, 1, 0])], [], [], [(21, [12, 16], [192]), (21, [14, 16], [192])], [], [(10, 1, 1, 1), (7, 5, -1, -1), (7, 4, -24, -1), (5, 4, -23, 0)])
theorem oo_Gr_removeNode_4 {kA : Nat → ClassId} : or_ok kA GG o_Gr_removeNode_4 := by
  intro A ta ws vs hD hth hl hk hds hf
  have hl : vs.length = 17 := hl
  have hk : ∀ q ∈ ([(0, (2, 0, 0, [3])), (1, (0, 0, 23, [])), (4, (0, 1, 24, [])), (5, (0, -22, 24, [])), (6, (0, 1, 1, [])), (7, (0, 0, 23, [])), (9, (0, 1, 1, [])), (10, (0, 1, 24, [])), (11, (0, 8, 8, [])), (12, (0, 8, 192, [])), (13, (0, 8, 8, [])), (14, (0, 0, 184, [])), (15, (0, 8, 8, [])), (16, (0, 0, 184, []))] : List (Nat × tv_T)), tv_ok ta q.2 (n_v vs q.1) := hk
  obtain ⟨t0, hk⟩ := List.forall_mem_cons.mp hk
  have t0 : tv_ok ta (2, 0, 0, [3]) (n_v vs 0) := t0
  have r0 : ta (v_ad (n_v vs 0)) = some 3 := tv_rg t0
  obtain ⟨t1, hk⟩ := List.forall_mem_cons.mp hk
  have t1 : tv_ok ta (0, 0, 23, []) (n_v vs 1) := t1
  have k1 : 0 ≤ v_iv (n_v vs 1) ∧ v_iv (n_v vs 1) ≤ 23 := tv_rng t1
  obtain ⟨t4, hk⟩ := List.forall_mem_cons.mp hk
  have t4 : tv_ok ta (0, 1, 24, []) (n_v vs 4) := t4
  have k4 : 1 ≤ v_iv (n_v vs 4) ∧ v_iv (n_v vs 4) ≤ 24 := tv_rng t4
  obtain ⟨t5, hk⟩ := List.forall_mem_cons.mp hk
  have t5 : tv_ok ta (0, -22, 24, []) (n_v vs 5) := t5
  have k5 : (-22) ≤ v_iv (n_v vs 5) ∧ v_iv (n_v vs 5) ≤ 24 := tv_rng t5
  obtain ⟨t6, hk⟩ := List.forall_mem_cons.mp hk
  have t6 : tv_ok ta (0, 1, 1, []) (n_v vs 6) := t6
  have k6 : 1 ≤ v_iv (n_v vs 6) ∧ v_iv (n_v vs 6) ≤ 1 := tv_rng t6
  obtain ⟨t7, hk⟩ := List.forall_mem_cons.mp hk
  have t7 : tv_ok ta (0, 0, 23, []) (n_v vs 7) := t7
  have k7 : 0 ≤ v_iv (n_v vs 7) ∧ v_iv (n_v vs 7) ≤ 23 := tv_rng t7
  obtain ⟨t9, hk⟩ := List.forall_mem_cons.mp hk
  have t9 : tv_ok ta (0, 1, 1, []) (n_v vs 9) := t9
  have k9 : 1 ≤ v_iv (n_v vs 9) ∧ v_iv (n_v vs 9) ≤ 1 := tv_rng t9
  obtain ⟨t10, hk⟩ := List.forall_mem_cons.mp hk
  have t10 : tv_ok ta (0, 1, 24, []) (n_v vs 10) := t10
  have k10 : 1 ≤ v_iv (n_v vs 10) ∧ v_iv (n_v vs 10) ≤ 24 := tv_rng t10
  obtain ⟨t11, hk⟩ := List.forall_mem_cons.mp hk
  have t11 : tv_ok ta (0, 8, 8, []) (n_v vs 11) := t11
  have k11 : 8 ≤ v_iv (n_v vs 11) ∧ v_iv (n_v vs 11) ≤ 8 := tv_rng t11
  obtain ⟨t12, hk⟩ := List.forall_mem_cons.mp hk
  have t12 : tv_ok ta (0, 8, 192, []) (n_v vs 12) := t12
  have k12 : 8 ≤ v_iv (n_v vs 12) ∧ v_iv (n_v vs 12) ≤ 192 := tv_rng t12
  obtain ⟨t13, hk⟩ := List.forall_mem_cons.mp hk
  have t13 : tv_ok ta (0, 8, 8, []) (n_v vs 13) := t13
  have k13 : 8 ≤ v_iv (n_v vs 13) ∧ v_iv (n_v vs 13) ≤ 8 := tv_rng t13
  obtain ⟨t14, hk⟩ := List.forall_mem_cons.mp hk
  have t14 : tv_ok ta (0, 0, 184, []) (n_v vs 14) := t14
  have k14 : 0 ≤ v_iv (n_v vs 14) ∧ v_iv (n_v vs 14) ≤ 184 := tv_rng t14
  obtain ⟨t15, hk⟩ := List.forall_mem_cons.mp hk
  have t15 : tv_ok ta (0, 8, 8, []) (n_v vs 15) := t15
  have k15 : 8 ≤ v_iv (n_v vs 15) ∧ v_iv (n_v vs 15) ≤ 8 := tv_rng t15
  obtain ⟨t16, hk⟩ := List.forall_mem_cons.mp hk
  have t16 : tv_ok ta (0, 0, 184, []) (n_v vs 16) := t16
  have k16 : 0 ≤ v_iv (n_v vs 16) ∧ v_iv (n_v vs 16) ≤ 184 := tv_rng t16
  have hds : ∀ q ∈ ([(10, 1, 1, 1), (7, 5, -1, -1), (7, 4, -24, -1), (5, 4, -23, 0)] : List of_T), n_iv vs q.2.1 + q.2.2.1 ≤ n_iv vs q.1 ∧ n_iv vs q.1 ≤ n_iv vs q.2.1 + q.2.2.2 := hds
  obtain ⟨d0, hds⟩ := List.forall_mem_cons.mp hds
  have d0 : v_iv (n_v vs 1) + 1 ≤ v_iv (n_v vs 10) ∧ v_iv (n_v vs 10) ≤ v_iv (n_v vs 1) + 1 := d0
  obtain ⟨d1, hds⟩ := List.forall_mem_cons.mp hds
  have d1 : v_iv (n_v vs 5) + (-1) ≤ v_iv (n_v vs 7) ∧ v_iv (n_v vs 7) ≤ v_iv (n_v vs 5) + (-1) := d1
  obtain ⟨d2, hds⟩ := List.forall_mem_cons.mp hds
  have d2 : v_iv (n_v vs 4) + (-24) ≤ v_iv (n_v vs 7) ∧ v_iv (n_v vs 7) ≤ v_iv (n_v vs 4) + (-1) := d2
  obtain ⟨d3, hds⟩ := List.forall_mem_cons.mp hds
  have d3 : v_iv (n_v vs 4) + (-23) ≤ v_iv (n_v vs 5) ∧ v_iv (n_v vs 5) ≤ v_iv (n_v vs 4) + 0 := d3
  have hf : fc_ok [(3, [16, 7, 15], []), (3, [14, 1, 13], []), (3, [12, 10, 11], []), (1, [10, 1, 9], []), (2, [7, 5, 6], []), (2, [5, 4, 1], []), (9, [4, 0], [0]), (20, [0], [30, -1, -1, 1, 0]), (20, [1, 0], [30, -1, 1, 0, 0, -1, 1, 0])] ta ws vs := hf
  obtain ⟨f0, hf⟩ := fc_un (by decide) hf
  have f0 : v_iv (n_v vs 16) = v_iv (n_v vs 7) * v_iv (n_v vs 15) := f0
  rw [show v_iv (n_v vs 15) = 8 from by omega] at f0
  obtain ⟨f1, hf⟩ := fc_un (by decide) hf
  have f1 : v_iv (n_v vs 14) = v_iv (n_v vs 1) * v_iv (n_v vs 13) := f1
  rw [show v_iv (n_v vs 13) = 8 from by omega] at f1
  obtain ⟨f2, hf⟩ := fc_un (by decide) hf
  have f2 : v_iv (n_v vs 12) = v_iv (n_v vs 10) * v_iv (n_v vs 11) := f2
  rw [show v_iv (n_v vs 11) = 8 from by omega] at f2
  obtain ⟨f3, hf⟩ := fc_un (by decide) hf
  have f3 : v_iv (n_v vs 10) = v_iv (n_v vs 1) + v_iv (n_v vs 9) := f3
  obtain ⟨f4, hf⟩ := fc_un (by decide) hf
  have f4 : v_iv (n_v vs 7) = v_iv (n_v vs 5) - v_iv (n_v vs 6) := f4
  obtain ⟨f5, hf⟩ := fc_un (by decide) hf
  have f5 : v_iv (n_v vs 5) = v_iv (n_v vs 4) - v_iv (n_v vs 1) := f5
  obtain ⟨f6, hf⟩ := fc_un (by decide) hf
  have f6 : n_v vs 4 = w_fd ws (v_ad (n_v vs 0)) 0 := f6
  obtain ⟨f7, hf⟩ := fc_un (by decide) hf
  have f7 : (-1) * w_fi ws (n_v vs 0) 0 + 0 ≤ (-1) := f7
  obtain ⟨f8, hf⟩ := fc_un (by decide) hf
  have f8 : 1 * v_iv (n_v vs 1) + ((-1) * w_fi ws (n_v vs 0) 0 + 0) ≤ (-1) := f8
  have g6 : v_iv (n_v vs 4) = w_fi ws (n_v vs 0) 0 := congrArg v_iv f6
  have nf0 : fc_1 (21, [12, 16], [192]) ws (vs) := by
    refine ⟨fun n hn => ?_, ?_⟩
    · have hn : n ∈ [12, 16] := hn
      rw [hl]
      simp only [List.mem_cons, List.not_mem_nil, or_false] at hn
      show n < 17; omega
    · show v_iv (n_v vs 12) + v_iv (n_v vs 16) ≤ 192
      omega
  have nf1 : fc_1 (21, [14, 16], [192]) ws (vs) := by
    refine ⟨fun n hn => ?_, ?_⟩
    · have hn : n ∈ [14, 16] := hn
      rw [hl]
      simp only [List.mem_cons, List.not_mem_nil, or_false] at hn
      show n < 17; omega
    · show v_iv (n_v vs 14) + v_iv (n_v vs 16) ≤ 192
      omega
  refine ⟨(fun _ h => (by cases h)), [], trivial, ?_, (fun _ h => (by cases h))⟩
  rw [List.append_nil]
  exact List.forall_mem_cons.mpr ⟨⟨by decide, nf0⟩, List.forall_mem_cons.mpr ⟨⟨by decide, nf1⟩, (fun _ h => (by cases h))⟩⟩
def o_Gr_removeNode_5 : or_T := (153, 20, [(0, (2, 0, 0, [3])), (1, (0, 0, 23, [])), (4, (0, 1, 24, [])), (5, (0, -22, 24, [])), (6, (0, 1, 1, [])), (7, (0, 0, 23, [])), (18, (0, 1, 1, [])), (19, (0, 1, 24, []))], [(1, [19, 1, 18], []), (20, [0], [30, -1, -1, 1, 0]), (20, [1, 0], [30, -1, 1, 0, 0, -1, 1, 0]), (102, [16], [281474976710656]), (2, [7, 5, 6], []), (2, [5, 4, 1], [])], [], [], [(21, [19, 7], [24]), (21, [1, 7], [24])], [], [(19, 1, 1, 1), (7, 5, -1, -1), (7, 4, -24, -1), (5, 4, -23, 0)])
theorem oo_Gr_removeNode_5 {kA : Nat → ClassId} : or_ok kA GG o_Gr_removeNode_5 := by
  intro A ta ws vs hD hth hl hk hds hf
  have hl : vs.length = 20 := hl
  have hk : ∀ q ∈ ([(0, (2, 0, 0, [3])), (1, (0, 0, 23, [])), (4, (0, 1, 24, [])), (5, (0, -22, 24, [])), (6, (0, 1, 1, [])), (7, (0, 0, 23, [])), (18, (0, 1, 1, [])), (19, (0, 1, 24, []))] : List (Nat × tv_T)), tv_ok ta q.2 (n_v vs q.1) := hk
  obtain ⟨t0, hk⟩ := List.forall_mem_cons.mp hk
  have t0 : tv_ok ta (2, 0, 0, [3]) (n_v vs 0) := t0
  have r0 : ta (v_ad (n_v vs 0)) = some 3 := tv_rg t0
  obtain ⟨t1, hk⟩ := List.forall_mem_cons.mp hk
  have t1 : tv_ok ta (0, 0, 23, []) (n_v vs 1) := t1
  have k1 : 0 ≤ v_iv (n_v vs 1) ∧ v_iv (n_v vs 1) ≤ 23 := tv_rng t1
  obtain ⟨t4, hk⟩ := List.forall_mem_cons.mp hk
  have t4 : tv_ok ta (0, 1, 24, []) (n_v vs 4) := t4
  have k4 : 1 ≤ v_iv (n_v vs 4) ∧ v_iv (n_v vs 4) ≤ 24 := tv_rng t4
  obtain ⟨t5, hk⟩ := List.forall_mem_cons.mp hk
  have t5 : tv_ok ta (0, -22, 24, []) (n_v vs 5) := t5
  have k5 : (-22) ≤ v_iv (n_v vs 5) ∧ v_iv (n_v vs 5) ≤ 24 := tv_rng t5
  obtain ⟨t6, hk⟩ := List.forall_mem_cons.mp hk
  have t6 : tv_ok ta (0, 1, 1, []) (n_v vs 6) := t6
  have k6 : 1 ≤ v_iv (n_v vs 6) ∧ v_iv (n_v vs 6) ≤ 1 := tv_rng t6
  obtain ⟨t7, hk⟩ := List.forall_mem_cons.mp hk
  have t7 : tv_ok ta (0, 0, 23, []) (n_v vs 7) := t7
  have k7 : 0 ≤ v_iv (n_v vs 7) ∧ v_iv (n_v vs 7) ≤ 23 := tv_rng t7
  obtain ⟨t18, hk⟩ := List.forall_mem_cons.mp hk
  have t18 : tv_ok ta (0, 1, 1, []) (n_v vs 18) := t18
  have k18 : 1 ≤ v_iv (n_v vs 18) ∧ v_iv (n_v vs 18) ≤ 1 := tv_rng t18
  obtain ⟨t19, hk⟩ := List.forall_mem_cons.mp hk
  have t19 : tv_ok ta (0, 1, 24, []) (n_v vs 19) := t19
  have k19 : 1 ≤ v_iv (n_v vs 19) ∧ v_iv (n_v vs 19) ≤ 24 := tv_rng t19
  have hds : ∀ q ∈ ([(19, 1, 1, 1), (7, 5, -1, -1), (7, 4, -24, -1), (5, 4, -23, 0)] : List of_T), n_iv vs q.2.1 + q.2.2.1 ≤ n_iv vs q.1 ∧ n_iv vs q.1 ≤ n_iv vs q.2.1 + q.2.2.2 := hds
  obtain ⟨d0, hds⟩ := List.forall_mem_cons.mp hds
  have d0 : v_iv (n_v vs 1) + 1 ≤ v_iv (n_v vs 19) ∧ v_iv (n_v vs 19) ≤ v_iv (n_v vs 1) + 1 := d0
  obtain ⟨d1, hds⟩ := List.forall_mem_cons.mp hds
  have d1 : v_iv (n_v vs 5) + (-1) ≤ v_iv (n_v vs 7) ∧ v_iv (n_v vs 7) ≤ v_iv (n_v vs 5) + (-1) := d1
  obtain ⟨d2, hds⟩ := List.forall_mem_cons.mp hds
  have d2 : v_iv (n_v vs 4) + (-24) ≤ v_iv (n_v vs 7) ∧ v_iv (n_v vs 7) ≤ v_iv (n_v vs 4) + (-1) := d2
  obtain ⟨d3, hds⟩ := List.forall_mem_cons.mp hds
  have d3 : v_iv (n_v vs 4) + (-23) ≤ v_iv (n_v vs 5) ∧ v_iv (n_v vs 5) ≤ v_iv (n_v vs 4) + 0 := d3
  have hf : fc_ok [(1, [19, 1, 18], []), (20, [0], [30, -1, -1, 1, 0]), (20, [1, 0], [30, -1, 1, 0, 0, -1, 1, 0]), (102, [16], [281474976710656]), (2, [7, 5, 6], []), (2, [5, 4, 1], [])] ta ws vs := hf
  obtain ⟨f0, hf⟩ := fc_un (by decide) hf
  have f0 : v_iv (n_v vs 19) = v_iv (n_v vs 1) + v_iv (n_v vs 18) := f0
  obtain ⟨f1, hf⟩ := fc_un (by decide) hf
  have f1 : (-1) * w_fi ws (n_v vs 0) 0 + 0 ≤ (-1) := f1
  obtain ⟨f2, hf⟩ := fc_un (by decide) hf
  have f2 : 1 * v_iv (n_v vs 1) + ((-1) * w_fi ws (n_v vs 0) 0 + 0) ≤ (-1) := f2
  obtain ⟨ta1, w1, le1, ⟨_, s1⟩, hf⟩ := fc_us (by decide) hf
  obtain ⟨f4, hf⟩ := fc_un (by decide) hf
  have f4 : v_iv (n_v vs 7) = v_iv (n_v vs 5) - v_iv (n_v vs 6) := f4
  obtain ⟨f5, hf⟩ := fc_un (by decide) hf
  have f5 : v_iv (n_v vs 5) = v_iv (n_v vs 4) - v_iv (n_v vs 1) := f5
  have nf0 : fc_1 (21, [19, 7], [24]) ws (vs) := by
    refine ⟨fun n hn => ?_, ?_⟩
    · have hn : n ∈ [19, 7] := hn
      rw [hl]
      simp only [List.mem_cons, List.not_mem_nil, or_false] at hn
      show n < 20; omega
    · show v_iv (n_v vs 19) + v_iv (n_v vs 7) ≤ 24
      omega
  have nf1 : fc_1 (21, [1, 7], [24]) ws (vs) := by
    refine ⟨fun n hn => ?_, ?_⟩
    · have hn : n ∈ [1, 7] := hn
      rw [hl]
      simp only [List.mem_cons, List.not_mem_nil, or_false] at hn
      show n < 20; omega
    · show v_iv (n_v vs 1) + v_iv (n_v vs 7) ≤ 24
      omega
  refine ⟨(fun _ h => (by cases h)), [], trivial, ?_, (fun _ h => (by cases h))⟩
  rw [List.append_nil]
  exact List.forall_mem_cons.mpr ⟨⟨by decide, nf0⟩, List.forall_mem_cons.mpr ⟨⟨by decide, nf1⟩, (fun _ h => (by cases h))⟩⟩
def o_Gr_removeNode_6 : or_T := (169, 23, [(0, (2, 0, 0, [3])), (1, (0, 0, 23, [])), (4, (0, 1, 24, [])), (5, (0, -22, 24, [])), (6, (0, 1, 1, [])), (7, (0, 0, 23, [])), (18, (0, 1, 1, [])), (19, (0, 1, 24, [])), (21, (0, 1, 1, [])), (22, (0, 1, 24, []))], [(1, [22, 1, 21], []), (21, [19, 7], [24]), (21, [1, 7], [24]), (20, [0], [30, -1, -1, 1, 0]), (20, [1, 0], [30, -1, 1, 0, 0, -1, 1, 0]), (102, [19], [562949953421312]), (21, [19, 7], [24]), (21, [1, 7], [24]), (1, [19, 1, 18], []), (102, [16], [281474976710656]), (2, [7, 5, 6], []), (2, [5, 4, 1], [])], [], [], [(21, [22, 7], [24])], [], [(22, 1, 1, 1), (19, 1, 1, 1), (7, 5, -1, -1), (7, 4, -24, -1), (5, 4, -23, 0)])
theorem oo_Gr_removeNode_6 {kA : Nat → ClassId} : or_ok kA GG o_Gr_removeNode_6 := by
  intro A ta ws vs hD hth hl hk hds hf
  have hl : vs.length = 23 := hl
  have hk : ∀ q ∈ ([(0, (2, 0, 0, [3])), (1, (0, 0, 23, [])), (4, (0, 1, 24, [])), (5, (0, -22, 24, [])), (6, (0, 1, 1, [])), (7, (0, 0, 23, [])), (18, (0, 1, 1, [])), (19, (0, 1, 24, [])), (21, (0, 1, 1, [])), (22, (0, 1, 24, []))] : List (Nat × tv_T)), tv_ok ta q.2 (n_v vs q.1) := hk
  obtain ⟨t0, hk⟩ := List.forall_mem_cons.mp hk
  have t0 : tv_ok ta (2, 0, 0, [3]) (n_v vs 0) := t0
  have r0 : ta (v_ad (n_v vs 0)) = some 3 := tv_rg t0
  obtain ⟨t1, hk⟩ := List.forall_mem_cons.mp hk
  have t1 : tv_ok ta (0, 0, 23, []) (n_v vs 1) := t1
  have k1 : 0 ≤ v_iv (n_v vs 1) ∧ v_iv (n_v vs 1) ≤ 23 := tv_rng t1
  obtain ⟨t4, hk⟩ := List.forall_mem_cons.mp hk
  have t4 : tv_ok ta (0, 1, 24, []) (n_v vs 4) := t4
  have k4 : 1 ≤ v_iv (n_v vs 4) ∧ v_iv (n_v vs 4) ≤ 24 := tv_rng t4
  obtain ⟨t5, hk⟩ := List.forall_mem_cons.mp hk
  have t5 : tv_ok ta (0, -22, 24, []) (n_v vs 5) := t5
  have k5 : (-22) ≤ v_iv (n_v vs 5) ∧ v_iv (n_v vs 5) ≤ 24 := tv_rng t5
  obtain ⟨t6, hk⟩ := List.forall_mem_cons.mp hk
  have t6 : tv_ok ta (0, 1, 1, []) (n_v vs 6) := t6
  have k6 : 1 ≤ v_iv (n_v vs 6) ∧ v_iv (n_v vs 6) ≤ 1 := tv_rng t6
  obtain ⟨t7, hk⟩ := List.forall_mem_cons.mp hk
  have t7 : tv_ok ta (0, 0, 23, []) (n_v vs 7) := t7
  have k7 : 0 ≤ v_iv (n_v vs 7) ∧ v_iv (n_v vs 7) ≤ 23 := tv_rng t7
  obtain ⟨t18, hk⟩ := List.forall_mem_cons.mp hk
  have t18 : tv_ok ta (0, 1, 1, []) (n_v vs 18) := t18
  have k18 : 1 ≤ v_iv (n_v vs 18) ∧ v_iv (n_v vs 18) ≤ 1 := tv_rng t18
  obtain ⟨t19, hk⟩ := List.forall_mem_cons.mp hk
  have t19 : tv_ok ta (0, 1, 24, []) (n_v vs 19) := t19
  have k19 : 1 ≤ v_iv (n_v vs 19) ∧ v_iv (n_v vs 19) ≤ 24 := tv_rng t19
  obtain ⟨t21, hk⟩ := List.forall_mem_cons.mp hk
  have t21 : tv_ok ta (0, 1, 1, []) (n_v vs 21) := t21
  have k21 : 1 ≤ v_iv (n_v vs 21) ∧ v_iv (n_v vs 21) ≤ 1 := tv_rng t21
  obtain ⟨t22, hk⟩ := List.forall_mem_cons.mp hk
  have t22 : tv_ok ta (0, 1, 24, []) (n_v vs 22) := t22
  have k22 : 1 ≤ v_iv (n_v vs 22) ∧ v_iv (n_v vs 22) ≤ 24 := tv_rng t22
  have hds : ∀ q ∈ ([(22, 1, 1, 1), (19, 1, 1, 1), (7, 5, -1, -1), (7, 4, -24, -1), (5, 4, -23, 0)] : List of_T), n_iv vs q.2.1 + q.2.2.1 ≤ n_iv vs q.1 ∧ n_iv vs q.1 ≤ n_iv vs q.2.1 + q.2.2.2 := hds
  obtain ⟨d0, hds⟩ := List.forall_mem_cons.mp hds
  have d0 : v_iv (n_v vs 1) + 1 ≤ v_iv (n_v vs 22) ∧ v_iv (n_v vs 22) ≤ v_iv (n_v vs 1) + 1 := d0
  obtain ⟨d1, hds⟩ := List.forall_mem_cons.mp hds
  have d1 : v_iv (n_v vs 1) + 1 ≤ v_iv (n_v vs 19) ∧ v_iv (n_v vs 19) ≤ v_iv (n_v vs 1) + 1 := d1
  obtain ⟨d2, hds⟩ := List.forall_mem_cons.mp hds
  have d2 : v_iv (n_v vs 5) + (-1) ≤ v_iv (n_v vs 7) ∧ v_iv (n_v vs 7) ≤ v_iv (n_v vs 5) + (-1) := d2
  obtain ⟨d3, hds⟩ := List.forall_mem_cons.mp hds
  have d3 : v_iv (n_v vs 4) + (-24) ≤ v_iv (n_v vs 7) ∧ v_iv (n_v vs 7) ≤ v_iv (n_v vs 4) + (-1) := d3
  obtain ⟨d4, hds⟩ := List.forall_mem_cons.mp hds
  have d4 : v_iv (n_v vs 4) + (-23) ≤ v_iv (n_v vs 5) ∧ v_iv (n_v vs 5) ≤ v_iv (n_v vs 4) + 0 := d4
  have hf : fc_ok [(1, [22, 1, 21], []), (21, [19, 7], [24]), (21, [1, 7], [24]), (20, [0], [30, -1, -1, 1, 0]), (20, [1, 0], [30, -1, 1, 0, 0, -1, 1, 0]), (102, [19], [562949953421312]), (21, [19, 7], [24]), (21, [1, 7], [24]), (1, [19, 1, 18], []), (102, [16], [281474976710656]), (2, [7, 5, 6], []), (2, [5, 4, 1], [])] ta ws vs := hf
  obtain ⟨f0, hf⟩ := fc_un (by decide) hf
  have f0 : v_iv (n_v vs 22) = v_iv (n_v vs 1) + v_iv (n_v vs 21) := f0
  obtain ⟨f1, hf⟩ := fc_un (by decide) hf
  have f1 : v_iv (n_v vs 19) + v_iv (n_v vs 7) ≤ 24 := f1
  obtain ⟨f2, hf⟩ := fc_un (by decide) hf
  have f2 : v_iv (n_v vs 1) + v_iv (n_v vs 7) ≤ 24 := f2
  obtain ⟨f3, hf⟩ := fc_un (by decide) hf
  have f3 : (-1) * w_fi ws (n_v vs 0) 0 + 0 ≤ (-1) := f3
  obtain ⟨f4, hf⟩ := fc_un (by decide) hf
  have f4 : 1 * v_iv (n_v vs 1) + ((-1) * w_fi ws (n_v vs 0) 0 + 0) ≤ (-1) := f4
  obtain ⟨ta1, w1, le1, ⟨_, s1⟩, hf⟩ := fc_us (by decide) hf
  obtain ⟨f6, hf⟩ := fc_un (by decide) hf
  have f6 : v_iv (n_v vs 19) + v_iv (n_v vs 7) ≤ 24 := f6
  obtain ⟨f7, hf⟩ := fc_un (by decide) hf
  have f7 : v_iv (n_v vs 1) + v_iv (n_v vs 7) ≤ 24 := f7
  obtain ⟨f8, hf⟩ := fc_un (by decide) hf
  have f8 : v_iv (n_v vs 19) = v_iv (n_v vs 1) + v_iv (n_v vs 18) := f8
  obtain ⟨ta2, w2, le2, ⟨_, s2⟩, hf⟩ := fc_us (by decide) hf
  obtain ⟨f10, hf⟩ := fc_un (by decide) hf
  have f10 : v_iv (n_v vs 7) = v_iv (n_v vs 5) - v_iv (n_v vs 6) := f10
  obtain ⟨f11, hf⟩ := fc_un (by decide) hf
  have f11 : v_iv (n_v vs 5) = v_iv (n_v vs 4) - v_iv (n_v vs 1) := f11
  have nf0 : fc_1 (21, [22, 7], [24]) ws (vs) := by
    refine ⟨fun n hn => ?_, ?_⟩
    · have hn : n ∈ [22, 7] := hn
      rw [hl]
      simp only [List.mem_cons, List.not_mem_nil, or_false] at hn
      show n < 23; omega
    · show v_iv (n_v vs 22) + v_iv (n_v vs 7) ≤ 24
      omega
  refine ⟨(fun _ h => (by cases h)), [], trivial, ?_, (fun _ h => (by cases h))⟩
  rw [List.append_nil]
  exact List.forall_mem_cons.mpr ⟨⟨by decide, nf0⟩, (fun _ h => (by cases h))⟩
def o_Gr_removeNode_7 : or_T := (185, 26, [(0, (2, 0, 0, [3])), (1, (0, 0, 23, [])), (4, (0, 1, 24, [])), (5, (0, -22, 24, [])), (6, (0, 1, 1, [])), (7, (0, 0, 23, [])), (18, (0, 1, 1, [])), (19, (0, 1, 24, [])), (21, (0, 1, 1, [])), (22, (0, 1, 24, [])), (24, (0, 1, 1, [])), (25, (0, 1, 24, []))], [(1, [25, 1, 24], []), (21, [22, 7], [24]), (21, [19, 7], [24]), (21, [1, 7], [24]), (20, [0], [30, -1, -1, 1, 0]), (20, [1, 0], [30, -1, 1, 0, 0, -1, 1, 0]), (102, [22], [1125899906842624]), (21, [22, 7], [24]), (1, [22, 1, 21], []), (21, [19, 7], [24]), (21, [1, 7], [24]), (102, [19], [562949953421312]), (21, [19, 7], [24]), (21, [1, 7], [24]), (1, [19, 1, 18], []), (102, [16], [281474976710656]), (2, [7, 5, 6], []), (2, [5, 4, 1], [])], [], [], [(21, [25, 7], [24])], [], [(25, 1, 1, 1), (22, 1, 1, 1), (19, 1, 1, 1), (7, 5, -1, -1), (7, 4, -24, -1), (5, 4, -23, 0)])
theorem oo_Gr_removeNode_7 {kA : Nat → ClassId} : or_ok kA GG o_Gr_removeNode_7 := by
  intro A ta ws vs hD hth hl hk hds hf
  have hl : vs.length = 26 := hl
  have hk : ∀ q ∈ ([(0, (2, 0, 0, [3])), (1, (0, 0, 23, [])), (4, (0, 1, 24, [])), (5, (0, -22, 24, [])), (6, (0, 1, 1, [])), (7, (0, 0, 23, [])), (18, (0, 1, 1, [])), (19, (0, 1, 24, [])), (21, (0, 1, 1, [])), (22, (0, 1, 24, [])), (24, (0, 1, 1, [])), (25, (0, 1, 24, []))] : List (Nat × tv_T)), tv_ok ta q.2 (n_v vs q.1) := hk
  obtain ⟨t0, hk⟩ := List.forall_mem_cons.mp hk
  have t0 : tv_ok ta (2, 0, 0, [3]) (n_v vs 0) := t0
  have r0 : ta (v_ad (n_v vs 0)) = some 3 := tv_rg t0
  obtain ⟨t1, hk⟩ := List.forall_mem_cons.mp hk
  have t1 : tv_ok ta (0, 0, 23, []) (n_v vs 1) := t1
  have k1 : 0 ≤ v_iv (n_v vs 1) ∧ v_iv (n_v vs 1) ≤ 23 := tv_rng t1
  obtain ⟨t4, hk⟩ := List.forall_mem_cons.mp hk
  have t4 : tv_ok ta (0, 1, 24, []) (n_v vs 4) := t4
  have k4 : 1 ≤ v_iv (n_v vs 4) ∧ v_iv (n_v vs 4) ≤ 24 := tv_rng t4
  obtain ⟨t5, hk⟩ := List.forall_mem_cons.mp hk
  have t5 : tv_ok ta (0, -22, 24, []) (n_v vs 5) := t5
  have k5 : (-22) ≤ v_iv (n_v vs 5) ∧ v_iv (n_v vs 5) ≤ 24 := tv_rng t5
  obtain ⟨t6, hk⟩ := List.forall_mem_cons.mp hk
  have t6 : tv_ok ta (0, 1, 1, []) (n_v vs 6) := t6
  have k6 : 1 ≤ v_iv (n_v vs 6) ∧ v_iv (n_v vs 6) ≤ 1 := tv_rng t6
  obtain ⟨t7, hk⟩ := List.forall_mem_cons.mp hk
  have t7 : tv_ok ta (0, 0, 23, []) (n_v vs 7) := t7
  have k7 : 0 ≤ v_iv (n_v vs 7) ∧ v_iv (n_v vs 7) ≤ 23 := tv_rng t7
  obtain ⟨t18, hk⟩ := List.forall_mem_cons.mp hk
  have t18 : tv_ok ta (0, 1, 1, []) (n_v vs 18) := t18
  have k18 : 1 ≤ v_iv (n_v vs 18) ∧ v_iv (n_v vs 18) ≤ 1 := tv_rng t18
  obtain ⟨t19, hk⟩ := List.forall_mem_cons.mp hk
  have t19 : tv_ok ta (0, 1, 24, []) (n_v vs 19) := t19
  have k19 : 1 ≤ v_iv (n_v vs 19) ∧ v_iv (n_v vs 19) ≤ 24 := tv_rng t19
  obtain ⟨t21, hk⟩ := List.forall_mem_cons.mp hk
  have t21 : tv_ok ta (0, 1, 1, []) (n_v vs 21) := t21
  have k21 : 1 ≤ v_iv (n_v vs 21) ∧ v_iv (n_v vs 21) ≤ 1 := tv_rng t21
  obtain ⟨t22, hk⟩ := List.forall_mem_cons.mp hk
  have t22 : tv_ok ta (0, 1, 24, []) (n_v vs 22) := t22
  have k22 : 1 ≤ v_iv (n_v vs 22) ∧ v_iv (n_v vs 22) ≤ 24 := tv_rng t22
  obtain ⟨t24, hk⟩ := List.forall_mem_cons.mp hk
  have t24 : tv_ok ta (0, 1, 1, []) (n_v vs 24) := t24
  have k24 : 1 ≤ v_iv (n_v vs 24) ∧ v_iv (n_v vs 24) ≤ 1 := tv_rng t24
  obtain ⟨t25, hk⟩ := List.forall_mem_cons.mp hk
  have t25 : tv_ok ta (0, 1, 24, []) (n_v vs 25) := t25
  have k25 : 1 ≤ v_iv (n_v vs 25) ∧ v_iv (n_v vs 25) ≤ 24 := tv_rng t25
  have hds : ∀ q ∈ ([(25, 1, 1, 1), (22, 1, 1, 1), (19, 1, 1, 1), (7, 5, -1, -1), (7, 4, -24, -1), (5, 4, -23, 0)] : List of_T), n_iv vs q.2.1 + q.2.2.1 ≤ n_iv vs q.1 ∧ n_iv vs q.1 ≤ n_iv vs q.2.1 + q.2.2.2 := hds
  obtain ⟨d0, hds⟩ := List.forall_mem_cons.mp hds
  have d0 : v_iv (n_v vs 1) + 1 ≤ v_iv (n_v vs 25) ∧ v_iv (n_v vs 25) ≤ v_iv (n_v vs 1) + 1 := d0
  obtain ⟨d1, hds⟩ := List.forall_mem_cons.mp hds
  have d1 : v_iv (n_v vs 1) + 1 ≤ v_iv (n_v vs 22) ∧ v_iv (n_v vs 22) ≤ v_iv (n_v vs 1) + 1 := d1
  obtain ⟨d2, hds⟩ := List.forall_mem_cons.mp hds
  have d2 : v_iv (n_v vs 1) + 1 ≤ v_iv (n_v vs 19) ∧ v_iv (n_v vs 19) ≤ v_iv (n_v vs 1) + 1 := d2
  obtain ⟨d3, hds⟩ := List.forall_mem_cons.mp hds
  have d3 : v_iv (n_v vs 5) + (-1) ≤ v_iv (n_v vs 7) ∧ v_iv (n_v vs 7) ≤ v_iv (n_v vs 5) + (-1) := d3
  obtain ⟨d4, hds⟩ := List.forall_mem_cons.mp hds
  have d4 : v_iv (n_v vs 4) + (-24) ≤ v_iv (n_v vs 7) ∧ v_iv (n_v vs 7) ≤ v_iv (n_v vs 4) + (-1) := d4
  obtain ⟨d5, hds⟩ := List.forall_mem_cons.mp hds
  have d5 : v_iv (n_v vs 4) + (-23) ≤ v_iv (n_v vs 5) ∧ v_iv (n_v vs 5) ≤ v_iv (n_v vs 4) + 0 := d5
  have hf : fc_ok [(1, [25, 1, 24], []), (21, [22, 7], [24]), (21, [19, 7], [24]), (21, [1, 7], [24]), (20, [0], [30, -1, -1, 1, 0]), (20, [1, 0], [30, -1, 1, 0, 0, -1, 1, 0]), (102, [22], [1125899906842624]), (21, [22, 7], [24]), (1, [22, 1, 21], []), (21, [19, 7], [24]), (21, [1, 7], [24]), (102, [19], [562949953421312]), (21, [19, 7], [24]), (21, [1, 7], [24]), (1, [19, 1, 18], []), (102, [16], [281474976710656]), (2, [7, 5, 6], []), (2, [5, 4, 1], [])] ta ws vs := hf
  obtain ⟨f0, hf⟩ := fc_un (by decide) hf
  have f0 : v_iv (n_v vs 25) = v_iv (n_v vs 1) + v_iv (n_v vs 24) := f0
  obtain ⟨f1, hf⟩ := fc_un (by decide) hf
  have f1 : v_iv (n_v vs 22) + v_iv (n_v vs 7) ≤ 24 := f1
  obtain ⟨f2, hf⟩ := fc_un (by decide) hf
  have f2 : v_iv (n_v vs 19) + v_iv (n_v vs 7) ≤ 24 := f2
  obtain ⟨f3, hf⟩ := fc_un (by decide) hf
  have f3 : v_iv (n_v vs 1) + v_iv (n_v vs 7) ≤ 24 := f3
  obtain ⟨f4, hf⟩ := fc_un (by decide) hf
  have f4 : (-1) * w_fi ws (n_v vs 0) 0 + 0 ≤ (-1) := f4
  obtain ⟨f5, hf⟩ := fc_un (by decide) hf
  have f5 : 1 * v_iv (n_v vs 1) + ((-1) * w_fi ws (n_v vs 0) 0 + 0) ≤ (-1) := f5
  obtain ⟨ta1, w1, le1, ⟨_, s1⟩, hf⟩ := fc_us (by decide) hf
  obtain ⟨f7, hf⟩ := fc_un (by decide) hf
  have f7 : v_iv (n_v vs 22) + v_iv (n_v vs 7) ≤ 24 := f7
  obtain ⟨f8, hf⟩ := fc_un (by decide) hf
  have f8 : v_iv (n_v vs 22) = v_iv (n_v vs 1) + v_iv (n_v vs 21) := f8
  obtain ⟨f9, hf⟩ := fc_un (by decide) hf
  have f9 : v_iv (n_v vs 19) + v_iv (n_v vs 7) ≤ 24 := f9
  obtain ⟨f10, hf⟩ := fc_un (by decide) hf
  have f10 : v_iv (n_v vs 1) + v_iv (n_v vs 7) ≤ 24 := f10
  obtain ⟨ta2, w2, le2, ⟨_, s2⟩, hf⟩ := fc_us (by decide) hf
  obtain ⟨f12, hf⟩ := fc_un (by decide) hf
  have f12 : v_iv (n_v vs 19) + v_iv (n_v vs 7) ≤ 24 := f12
  obtain ⟨f13, hf⟩ := fc_un (by decide) hf
  have f13 : v_iv (n_v vs 1) + v_iv (n_v vs 7) ≤ 24 := f13
  obtain ⟨f14, hf⟩ := fc_un (by decide) hf
  have f14 : v_iv (n_v vs 19) = v_iv (n_v vs 1) + v_iv (n_v vs 18) := f14
  obtain ⟨ta3, w3, le3, ⟨_, s3⟩, hf⟩ := fc_us (by decide) hf
  obtain ⟨f16, hf⟩ := fc_un (by decide) hf
  have f16 : v_iv (n_v vs 7) = v_iv (n_v vs 5) - v_iv (n_v vs 6) := f16
  obtain ⟨f17, hf⟩ := fc_un (by decide) hf
  have f17 : v_iv (n_v vs 5) = v_iv (n_v vs 4) - v_iv (n_v vs 1) := f17
  have nf0 : fc_1 (21, [25, 7], [24]) ws (vs) := by
    refine ⟨fun n hn => ?_, ?_⟩
    · have hn : n ∈ [25, 7] := hn
      rw [hl]
      simp only [List.mem_cons, List.not_mem_nil, or_false] at hn
      show n < 26; omega
    · show v_iv (n_v vs 25) + v_iv (n_v vs 7) ≤ 24
      omega
  refine ⟨(fun _ h => (by cases h)), [], trivial, ?_, (fun _ h => (by cases h))⟩
  rw [List.append_nil]
  exact List.forall_mem_cons.mpr ⟨⟨by decide, nf0⟩, (fun _ h => (by cases h))⟩
def o_Gr_removeNode_8 : or_T := (99, 14, [(0, (2, 0, 0, [3])), (1, (0, 0, 22, [])), (2, (0, 0, 47, [])), (3, (0, 1, 48, [])), (4, (2, 0, 0, [52])), (5, (0, 0, 23, [])), (6, (0, 0, 22, [])), (7, (0, 0, 0, [])), (8, (0, 0, 23, [])), (9, (2, 0, 0, [53])), (10, (0, 0, 23, [])), (11, (0, 1, 23, [])), (12, (0, 1, 1, [])), (13, (0, -1, 22, []))], [(2, [13, 10, 12], []), (7, [11, 1], [4]), (10, [11, 9, 2], []), (9, [9, 0], [8]), (10, [10, 9, 2], []), (20, [0], [30, -1, -1, 1, 0]), (20, [1, 0], [30, -1, 1, 0, 0, -1, 1, 0]), (100, [4, 2, 8], []), (2, [8, 5, 7], []), (7, [6, 1], [5]), (10, [6, 4, 2], []), (9, [4, 0], [7]), (10, [5, 4, 2], []), (7, [2, 3], [2]), (9, [3, 0], [1]), (20, [0], [30, -1, -1, 1, 0]), (20, [1, 0], [30, -1, 1, 0, 0, -1, 1, 0])], [(13, (0, 0, 22, []))], [], [], [], [(13, 10, -1, -1), (11, 1, 1, 4294967296), (8, 5, 0, 0), (6, 1, -4294967296, 0), (2, 3, -4294967296, -1), (1, 2, -4294967296, 23)])
theorem oo_Gr_removeNode_8 {kA : Nat → ClassId} : or_ok kA GG o_Gr_removeNode_8 := by
  intro A ta ws vs hD hth hl hk hds hf
  have hl : vs.length = 14 := hl
  have hk : ∀ q ∈ ([(0, (2, 0, 0, [3])), (1, (0, 0, 22, [])), (2, (0, 0, 47, [])), (3, (0, 1, 48, [])), (4, (2, 0, 0, [52])), (5, (0, 0, 23, [])), (6, (0, 0, 22, [])), (7, (0, 0, 0, [])), (8, (0, 0, 23, [])), (9, (2, 0, 0, [53])), (10, (0, 0, 23, [])), (11, (0, 1, 23, [])), (12, (0, 1, 1, [])), (13, (0, -1, 22, []))] : List (Nat × tv_T)), tv_ok ta q.2 (n_v vs q.1) := hk
  obtain ⟨t0, hk⟩ := List.forall_mem_cons.mp hk
  have t0 : tv_ok ta (2, 0, 0, [3]) (n_v vs 0) := t0
  have r0 : ta (v_ad (n_v vs 0)) = some 3 := tv_rg t0
  obtain ⟨t1, hk⟩ := List.forall_mem_cons.mp hk
  have t1 : tv_ok ta (0, 0, 22, []) (n_v vs 1) := t1
  have k1 : 0 ≤ v_iv (n_v vs 1) ∧ v_iv (n_v vs 1) ≤ 22 := tv_rng t1
  obtain ⟨t2, hk⟩ := List.forall_mem_cons.mp hk
  have t2 : tv_ok ta (0, 0, 47, []) (n_v vs 2) := t2
  have k2 : 0 ≤ v_iv (n_v vs 2) ∧ v_iv (n_v vs 2) ≤ 47 := tv_rng t2
  obtain ⟨t3, hk⟩ := List.forall_mem_cons.mp hk
  have t3 : tv_ok ta (0, 1, 48, []) (n_v vs 3) := t3
  have k3 : 1 ≤ v_iv (n_v vs 3) ∧ v_iv (n_v vs 3) ≤ 48 := tv_rng t3
  obtain ⟨t4, hk⟩ := List.forall_mem_cons.mp hk
  have t4 : tv_ok ta (2, 0, 0, [52]) (n_v vs 4) := t4
  have r4 : ta (v_ad (n_v vs 4)) = some 52 := tv_rg t4
  obtain ⟨t5, hk⟩ := List.forall_mem_cons.mp hk
  have t5 : tv_ok ta (0, 0, 23, []) (n_v vs 5) := t5
  have k5 : 0 ≤ v_iv (n_v vs 5) ∧ v_iv (n_v vs 5) ≤ 23 := tv_rng t5
  obtain ⟨t6, hk⟩ := List.forall_mem_cons.mp hk
  have t6 : tv_ok ta (0, 0, 22, []) (n_v vs 6) := t6
  have k6 : 0 ≤ v_iv (n_v vs 6) ∧ v_iv (n_v vs 6) ≤ 22 := tv_rng t6
  obtain ⟨t7, hk⟩ := List.forall_mem_cons.mp hk
  have t7 : tv_ok ta (0, 0, 0, []) (n_v vs 7) := t7
  have k7 : 0 ≤ v_iv (n_v vs 7) ∧ v_iv (n_v vs 7) ≤ 0 := tv_rng t7
  obtain ⟨t8, hk⟩ := List.forall_mem_cons.mp hk
  have t8 : tv_ok ta (0, 0, 23, []) (n_v vs 8) := t8
  have k8 : 0 ≤ v_iv (n_v vs 8) ∧ v_iv (n_v vs 8) ≤ 23 := tv_rng t8
  obtain ⟨t9, hk⟩ := List.forall_mem_cons.mp hk
  have t9 : tv_ok ta (2, 0, 0, [53]) (n_v vs 9) := t9
  have r9 : ta (v_ad (n_v vs 9)) = some 53 := tv_rg t9
  obtain ⟨t10, hk⟩ := List.forall_mem_cons.mp hk
  have t10 : tv_ok ta (0, 0, 23, []) (n_v vs 10) := t10
  have k10 : 0 ≤ v_iv (n_v vs 10) ∧ v_iv (n_v vs 10) ≤ 23 := tv_rng t10
  obtain ⟨t11, hk⟩ := List.forall_mem_cons.mp hk
  have t11 : tv_ok ta (0, 1, 23, []) (n_v vs 11) := t11
  have k11 : 1 ≤ v_iv (n_v vs 11) ∧ v_iv (n_v vs 11) ≤ 23 := tv_rng t11
  obtain ⟨t12, hk⟩ := List.forall_mem_cons.mp hk
  have t12 : tv_ok ta (0, 1, 1, []) (n_v vs 12) := t12
  have k12 : 1 ≤ v_iv (n_v vs 12) ∧ v_iv (n_v vs 12) ≤ 1 := tv_rng t12
  obtain ⟨t13, hk⟩ := List.forall_mem_cons.mp hk
  have t13 : tv_ok ta (0, -1, 22, []) (n_v vs 13) := t13
  have k13 : (-1) ≤ v_iv (n_v vs 13) ∧ v_iv (n_v vs 13) ≤ 22 := tv_rng t13
  have hds : ∀ q ∈ ([(13, 10, -1, -1), (11, 1, 1, 4294967296), (8, 5, 0, 0), (6, 1, -4294967296, 0), (2, 3, -4294967296, -1), (1, 2, -4294967296, 23)] : List of_T), n_iv vs q.2.1 + q.2.2.1 ≤ n_iv vs q.1 ∧ n_iv vs q.1 ≤ n_iv vs q.2.1 + q.2.2.2 := hds
  obtain ⟨d0, hds⟩ := List.forall_mem_cons.mp hds
  have d0 : v_iv (n_v vs 10) + (-1) ≤ v_iv (n_v vs 13) ∧ v_iv (n_v vs 13) ≤ v_iv (n_v vs 10) + (-1) := d0
  obtain ⟨d1, hds⟩ := List.forall_mem_cons.mp hds
  have d1 : v_iv (n_v vs 1) + 1 ≤ v_iv (n_v vs 11) ∧ v_iv (n_v vs 11) ≤ v_iv (n_v vs 1) + 4294967296 := d1
  obtain ⟨d2, hds⟩ := List.forall_mem_cons.mp hds
  have d2 : v_iv (n_v vs 5) + 0 ≤ v_iv (n_v vs 8) ∧ v_iv (n_v vs 8) ≤ v_iv (n_v vs 5) + 0 := d2
  obtain ⟨d3, hds⟩ := List.forall_mem_cons.mp hds
  have d3 : v_iv (n_v vs 1) + (-4294967296) ≤ v_iv (n_v vs 6) ∧ v_iv (n_v vs 6) ≤ v_iv (n_v vs 1) + 0 := d3
  obtain ⟨d4, hds⟩ := List.forall_mem_cons.mp hds
  have d4 : v_iv (n_v vs 3) + (-4294967296) ≤ v_iv (n_v vs 2) ∧ v_iv (n_v vs 2) ≤ v_iv (n_v vs 3) + (-1) := d4
  obtain ⟨d5, hds⟩ := List.forall_mem_cons.mp hds
  have d5 : v_iv (n_v vs 2) + (-4294967296) ≤ v_iv (n_v vs 1) ∧ v_iv (n_v vs 1) ≤ v_iv (n_v vs 2) + 23 := d5
  have hf : fc_ok [(2, [13, 10, 12], []), (7, [11, 1], [4]), (10, [11, 9, 2], []), (9, [9, 0], [8]), (10, [10, 9, 2], []), (20, [0], [30, -1, -1, 1, 0]), (20, [1, 0], [30, -1, 1, 0, 0, -1, 1, 0]), (100, [4, 2, 8], []), (2, [8, 5, 7], []), (7, [6, 1], [5]), (10, [6, 4, 2], []), (9, [4, 0], [7]), (10, [5, 4, 2], []), (7, [2, 3], [2]), (9, [3, 0], [1]), (20, [0], [30, -1, -1, 1, 0]), (20, [1, 0], [30, -1, 1, 0, 0, -1, 1, 0])] ta ws vs := hf
  obtain ⟨f0, hf⟩ := fc_un (by decide) hf
  have f0 : v_iv (n_v vs 13) = v_iv (n_v vs 10) - v_iv (n_v vs 12) := f0
  obtain ⟨f1, hf⟩ := fc_un (by decide) hf
  have f1 : v_iv (n_v vs 1) < v_iv (n_v vs 11) := f1
  obtain ⟨f2, hf⟩ := fc_un (by decide) hf
  have f2 : v_iv (n_v vs 11) = w_el ws (v_ad (n_v vs 9)) (v_iv (n_v vs 2)).toNat := f2
  obtain ⟨f3, hf⟩ := fc_un (by decide) hf
  have f3 : n_v vs 9 = w_fd ws (v_ad (n_v vs 0)) 8 := f3
  obtain ⟨f4, hf⟩ := fc_un (by decide) hf
  have f4 : v_iv (n_v vs 10) = w_el ws (v_ad (n_v vs 9)) (v_iv (n_v vs 2)).toNat := f4
  obtain ⟨f5, hf⟩ := fc_un (by decide) hf
  have f5 : (-1) * w_fi ws (n_v vs 0) 0 + 0 ≤ (-1) := f5
  obtain ⟨f6, hf⟩ := fc_un (by decide) hf
  have f6 : 1 * v_iv (n_v vs 1) + ((-1) * w_fi ws (n_v vs 0) 0 + 0) ≤ (-1) := f6
  obtain ⟨ta1, w1, le1, ⟨_, s1⟩, hf⟩ := fc_us (by decide) hf
  have s1 : (∀ b j, w_el ws b j = if b = v_ad (n_v vs 4) ∧ j = (v_iv (n_v vs 2)).toNat then v_iv (n_v vs 8) else w_el w1 b j) ∧ ∀ b k, w_fd ws b k = w_fd w1 b k := s1
  obtain ⟨f8, hf⟩ := fc_un (by decide) hf
  have f8 : v_iv (n_v vs 8) = v_iv (n_v vs 5) - v_iv (n_v vs 7) := f8
  obtain ⟨f9, hf⟩ := fc_un (by decide) hf
  have f9 : v_iv (n_v vs 6) ≤ v_iv (n_v vs 1) := f9
  obtain ⟨f10, hf⟩ := fc_un (by decide) hf
  have f10 : v_iv (n_v vs 6) = w_el w1 (v_ad (n_v vs 4)) (v_iv (n_v vs 2)).toNat := f10
  obtain ⟨f11, hf⟩ := fc_un (by decide) hf
  have f11 : n_v vs 4 = w_fd w1 (v_ad (n_v vs 0)) 7 := f11
  obtain ⟨f12, hf⟩ := fc_un (by decide) hf
  have f12 : v_iv (n_v vs 5) = w_el w1 (v_ad (n_v vs 4)) (v_iv (n_v vs 2)).toNat := f12
  obtain ⟨f13, hf⟩ := fc_un (by decide) hf
  have f13 : v_iv (n_v vs 2) < v_iv (n_v vs 3) := f13
  obtain ⟨f14, hf⟩ := fc_un (by decide) hf
  have f14 : n_v vs 3 = w_fd w1 (v_ad (n_v vs 0)) 1 := f14
  obtain ⟨f15, hf⟩ := fc_un (by decide) hf
  have f15 : (-1) * w_fi w1 (n_v vs 0) 0 + 0 ≤ (-1) := f15
  obtain ⟨f16, hf⟩ := fc_un (by decide) hf
  have f16 : 1 * v_iv (n_v vs 1) + ((-1) * w_fi w1 (n_v vs 0) 0 + 0) ≤ (-1) := f16
  have ar_0_7_1 : w_ar w1 (n_v vs 0) 7 = w_ar ws (n_v vs 0) 7 := by show v_ad (w_fd w1 _ _) = v_ad (w_fd ws _ _); rw [s1.2]
  have cr_0_7 : ta (w_ar ws (n_v vs 0) 7) = some 52 := tv_rg (th_fd hD hth r0 (g := GG_3) rfl (k := 7) (t := (2, 0, 0, [52])) rfl rfl)
  have ar_0_8_1 : w_ar w1 (n_v vs 0) 8 = w_ar ws (n_v vs 0) 8 := by show v_ad (w_fd w1 _ _) = v_ad (w_fd ws _ _); rw [s1.2]
  have cr_0_8 : ta (w_ar ws (n_v vs 0) 8) = some 53 := tv_rg (th_fd hD hth r0 (g := GG_3) rfl (k := 8) (t := (2, 0, 0, [53])) rfl rfl)
  have ad_9 : v_ad (n_v vs 9) = w_ar ws (n_v vs 0) 8 := congrArg v_ad f3
  have ad_4 : v_ad (n_v vs 4) = w_ar ws (n_v vs 0) 7 := (congrArg v_ad f11).trans ar_0_7_1
  rw [ad_9] at f2
  rw [ad_9] at f4
  rw [ad_4] at f10
  rw [ad_4] at f12
  have g14 : v_iv (n_v vs 3) = w_fi w1 (n_v vs 0) 1 := congrArg v_iv f14
  have fe_0_0_1 : w_fi ws (n_v vs 0) 0 = w_fi w1 (n_v vs 0) 0 := congrArg v_iv (s1.2 _ _)
  have fe_0_1_1 : w_fi ws (n_v vs 0) 1 = w_fi w1 (n_v vs 0) 1 := congrArg v_iv (s1.2 _ _)
  have ee_0_7_2_1 : w_el ws (w_ar ws (n_v vs 0) 7) (v_iv (n_v vs 2)).toNat = v_iv (n_v vs 8) := by rw [s1.1, if_pos ⟨ad_4.symm, rfl⟩]
  have ee_0_8_2_1 : w_el ws (w_ar ws (n_v vs 0) 8) (v_iv (n_v vs 2)).toNat = w_el w1 (w_ar ws (n_v vs 0) 8) (v_iv (n_v vs 2)).toNat := by rw [s1.1, if_neg (fun e => by have e1 := e.1; rw [← e1] at r4; rw [cr_0_8] at r4; exact absurd (Option.some.inj r4) (by decide))]
  have rf13 : tv_ok ta (0, 0, 22, []) (n_v vs 13) := tv_in t13 (by omega) (by omega)
  refine ⟨List.forall_mem_cons.mpr ⟨rf13, (fun _ h => (by cases h))⟩, [], trivial, ?_, (fun _ h => (by cases h))⟩
  rw [List.append_nil]
  exact (fun _ h => (by cases h))
def o_Gr_removeNode_9 : or_T := (75, 9, [(0, (2, 0, 0, [3])), (1, (0, 0, 22, [])), (2, (0, 0, 47, [])), (3, (0, 1, 48, [])), (4, (2, 0, 0, [52])), (5, (0, 0, 23, [])), (6, (0, 1, 23, [])), (7, (0, 1, 1, [])), (8, (0, -1, 22, []))], [(2, [8, 5, 7], []), (7, [6, 1], [4]), (10, [6, 4, 2], []), (9, [4, 0], [7]), (10, [5, 4, 2], []), (7, [2, 3], [2]), (9, [3, 0], [1]), (20, [0], [30, -1, -1, 1, 0]), (20, [1, 0], [30, -1, 1, 0, 0, -1, 1, 0])], [(8, (0, 0, 22, []))], [], [], [], [(8, 5, -1, -1), (6, 1, 1, 4294967296), (2, 3, -4294967296, -1), (1, 2, -4294967296, 23)])
theorem oo_Gr_removeNode_9 {kA : Nat → ClassId} : or_ok kA GG o_Gr_removeNode_9 := by
  intro A ta ws vs hD hth hl hk hds hf
  have hl : vs.length = 9 := hl
  have hk : ∀ q ∈ ([(0, (2, 0, 0, [3])), (1, (0, 0, 22, [])), (2, (0, 0, 47, [])), (3, (0, 1, 48, [])), (4, (2, 0, 0, [52])), (5, (0, 0, 23, [])), (6, (0, 1, 23, [])), (7, (0, 1, 1, [])), (8, (0, -1, 22, []))] : List (Nat × tv_T)), tv_ok ta q.2 (n_v vs q.1) := hk
  obtain ⟨t0, hk⟩ := List.forall_mem_cons.mp hk
  have t0 : tv_ok ta (2, 0, 0, [3]) (n_v vs 0) := t0
  have r0 : ta (v_ad (n_v vs 0)) = some 3 := tv_rg t0
  obtain ⟨t1, hk⟩ := List.forall_mem_cons.mp hk
  have t1 : tv_ok ta (0, 0, 22, []) (n_v vs 1) := t1
  have k1 : 0 ≤ v_iv (n_v vs 1) ∧ v_iv (n_v vs 1) ≤ 22 := tv_rng t1
  obtain ⟨t2, hk⟩ := List.forall_mem_cons.mp hk
  have t2 : tv_ok ta (0, 0, 47, []) (n_v vs 2) := t2
  have k2 : 0 ≤ v_iv (n_v vs 2) ∧ v_iv (n_v vs 2) ≤ 47 := tv_rng t2
  obtain ⟨t3, hk⟩ := List.forall_mem_cons.mp hk
  have t3 : tv_ok ta (0, 1, 48, []) (n_v vs 3) := t3
  have k3 : 1 ≤ v_iv (n_v vs 3) ∧ v_iv (n_v vs 3) ≤ 48 := tv_rng t3
  obtain ⟨t4, hk⟩ := List.forall_mem_cons.mp hk
  have t4 : tv_ok ta (2, 0, 0, [52]) (n_v vs 4) := t4
  have r4 : ta (v_ad (n_v vs 4)) = some 52 := tv_rg t4
  obtain ⟨t5, hk⟩ := List.forall_mem_cons.mp hk
  have t5 : tv_ok ta (0, 0, 23, []) (n_v vs 5) := t5
  have k5 : 0 ≤ v_iv (n_v vs 5) ∧ v_iv (n_v vs 5) ≤ 23 := tv_rng t5
  obtain ⟨t6, hk⟩ := List.forall_mem_cons.mp hk
  have t6 : tv_ok ta (0, 1, 23, []) (n_v vs 6) := t6
  have k6 : 1 ≤ v_iv (n_v vs 6) ∧ v_iv (n_v vs 6) ≤ 23 := tv_rng t6
  obtain ⟨t7, hk⟩ := List.forall_mem_cons.mp hk
  have t7 : tv_ok ta (0, 1, 1, []) (n_v vs 7) := t7
  have k7 : 1 ≤ v_iv (n_v vs 7) ∧ v_iv (n_v vs 7) ≤ 1 := tv_rng t7
  obtain ⟨t8, hk⟩ := List.forall_mem_cons.mp hk
  have t8 : tv_ok ta (0, -1, 22, []) (n_v vs 8) := t8
  have k8 : (-1) ≤ v_iv (n_v vs 8) ∧ v_iv (n_v vs 8) ≤ 22 := tv_rng t8
  have hds : ∀ q ∈ ([(8, 5, -1, -1), (6, 1, 1, 4294967296), (2, 3, -4294967296, -1), (1, 2, -4294967296, 23)] : List of_T), n_iv vs q.2.1 + q.2.2.1 ≤ n_iv vs q.1 ∧ n_iv vs q.1 ≤ n_iv vs q.2.1 + q.2.2.2 := hds
  obtain ⟨d0, hds⟩ := List.forall_mem_cons.mp hds
  have d0 : v_iv (n_v vs 5) + (-1) ≤ v_iv (n_v vs 8) ∧ v_iv (n_v vs 8) ≤ v_iv (n_v vs 5) + (-1) := d0
  obtain ⟨d1, hds⟩ := List.forall_mem_cons.mp hds
  have d1 : v_iv (n_v vs 1) + 1 ≤ v_iv (n_v vs 6) ∧ v_iv (n_v vs 6) ≤ v_iv (n_v vs 1) + 4294967296 := d1
  obtain ⟨d2, hds⟩ := List.forall_mem_cons.mp hds
  have d2 : v_iv (n_v vs 3) + (-4294967296) ≤ v_iv (n_v vs 2) ∧ v_iv (n_v vs 2) ≤ v_iv (n_v vs 3) + (-1) := d2
  obtain ⟨d3, hds⟩ := List.forall_mem_cons.mp hds
  have d3 : v_iv (n_v vs 2) + (-4294967296) ≤ v_iv (n_v vs 1) ∧ v_iv (n_v vs 1) ≤ v_iv (n_v vs 2) + 23 := d3
  have hf : fc_ok [(2, [8, 5, 7], []), (7, [6, 1], [4]), (10, [6, 4, 2], []), (9, [4, 0], [7]), (10, [5, 4, 2], []), (7, [2, 3], [2]), (9, [3, 0], [1]), (20, [0], [30, -1, -1, 1, 0]), (20, [1, 0], [30, -1, 1, 0, 0, -1, 1, 0])] ta ws vs := hf
  obtain ⟨f0, hf⟩ := fc_un (by decide) hf
  have f0 : v_iv (n_v vs 8) = v_iv (n_v vs 5) - v_iv (n_v vs 7) := f0
  obtain ⟨f1, hf⟩ := fc_un (by decide) hf
  have f1 : v_iv (n_v vs 1) < v_iv (n_v vs 6) := f1
  obtain ⟨f2, hf⟩ := fc_un (by decide) hf
  have f2 : v_iv (n_v vs 6) = w_el ws (v_ad (n_v vs 4)) (v_iv (n_v vs 2)).toNat := f2
  obtain ⟨f3, hf⟩ := fc_un (by decide) hf
  have f3 : n_v vs 4 = w_fd ws (v_ad (n_v vs 0)) 7 := f3
  obtain ⟨f4, hf⟩ := fc_un (by decide) hf
  have f4 : v_iv (n_v vs 5) = w_el ws (v_ad (n_v vs 4)) (v_iv (n_v vs 2)).toNat := f4
  obtain ⟨f5, hf⟩ := fc_un (by decide) hf
  have f5 : v_iv (n_v vs 2) < v_iv (n_v vs 3) := f5
  obtain ⟨f6, hf⟩ := fc_un (by decide) hf
  have f6 : n_v vs 3 = w_fd ws (v_ad (n_v vs 0)) 1 := f6
  obtain ⟨f7, hf⟩ := fc_un (by decide) hf
  have f7 : (-1) * w_fi ws (n_v vs 0) 0 + 0 ≤ (-1) := f7
  obtain ⟨f8, hf⟩ := fc_un (by decide) hf
  have f8 : 1 * v_iv (n_v vs 1) + ((-1) * w_fi ws (n_v vs 0) 0 + 0) ≤ (-1) := f8
  have cr_0_7 : ta (w_ar ws (n_v vs 0) 7) = some 52 := tv_rg (th_fd hD hth r0 (g := GG_3) rfl (k := 7) (t := (2, 0, 0, [52])) rfl rfl)
  have ad_4 : v_ad (n_v vs 4) = w_ar ws (n_v vs 0) 7 := congrArg v_ad f3
  rw [ad_4] at f2
  rw [ad_4] at f4
  have g6 : v_iv (n_v vs 3) = w_fi ws (n_v vs 0) 1 := congrArg v_iv f6
  have rf8 : tv_ok ta (0, 0, 22, []) (n_v vs 8) := tv_in t8 (by omega) (by omega)
  refine ⟨List.forall_mem_cons.mpr ⟨rf8, (fun _ h => (by cases h))⟩, [], trivial, ?_, (fun _ h => (by cases h))⟩
  rw [List.append_nil]
  exact (fun _ h => (by cases h))
def o_Gr_removeNode_10 : or_T := (99, 14, [(0, (2, 0, 0, [3])), (1, (0, 0, 22, [])), (2, (0, 0, 47, [])), (3, (0, 1, 48, [])), (4, (2, 0, 0, [52])), (5, (0, 0, 23, [])), (6, (0, 1, 23, [])), (7, (0, 1, 1, [])), (8, (0, 0, 22, [])), (9, (2, 0, 0, [53])), (10, (0, 0, 23, [])), (11, (0, 1, 23, [])), (12, (0, 1, 1, [])), (13, (0, -1, 22, []))], [(2, [13, 10, 12], []), (7, [11, 1], [4]), (10, [11, 9, 2], []), (9, [9, 0], [8]), (10, [10, 9, 2], []), (20, [0], [30, -1, -1, 1, 0]), (20, [1, 0], [30, -1, 1, 0, 0, -1, 1, 0]), (100, [4, 2, 8], []), (2, [8, 5, 7], []), (7, [6, 1], [4]), (10, [6, 4, 2], []), (9, [4, 0], [7]), (10, [5, 4, 2], []), (7, [2, 3], [2]), (9, [3, 0], [1]), (20, [0], [30, -1, -1, 1, 0]), (20, [1, 0], [30, -1, 1, 0, 0, -1, 1, 0])], [(13, (0, 0, 22, []))], [], [], [], [(13, 10, -1, -1), (11, 1, 1, 4294967296), (8, 5, -1, -1), (6, 1, 1, 4294967296), (2, 3, -4294967296, -1), (1, 2, -4294967296, 23)])
theorem oo_Gr_removeNode_10 {kA : Nat → ClassId} : or_ok kA GG o_Gr_removeNode_10 := by
  intro A ta ws vs hD hth hl hk hds hf
  have hl : vs.length = 14 := hl
  have hk : ∀ q ∈ ([(0, (2, 0, 0, [3])), (1, (0, 0, 22, [])), (2, (0, 0, 47, [])), (3, (0, 1, 48, [])), (4, (2, 0, 0, [52])), (5, (0, 0, 23, [])), (6, (0, 1, 23, [])), (7, (0, 1, 1, [])), (8, (0, 0, 22, [])), (9, (2, 0, 0, [53])), (10, (0, 0, 23, [])), (11, (0, 1, 23, [])), (12, (0, 1, 1, [])), (13, (0, -1, 22, []))] : List (Nat × tv_T)), tv_ok ta q.2 (n_v vs q.1) := hk
  obtain ⟨t0, hk⟩ := List.forall_mem_cons.mp hk
  have t0 : tv_ok ta (2, 0, 0, [3]) (n_v vs 0) := t0
  have r0 : ta (v_ad (n_v vs 0)) = some 3 := tv_rg t0
  obtain ⟨t1, hk⟩ := List.forall_mem_cons.mp hk
  have t1 : tv_ok ta (0, 0, 22, []) (n_v vs 1) := t1
  have k1 : 0 ≤ v_iv (n_v vs 1) ∧ v_iv (n_v vs 1) ≤ 22 := tv_rng t1
  obtain ⟨t2, hk⟩ := List.forall_mem_cons.mp hk
  have t2 : tv_ok ta (0, 0, 47, []) (n_v vs 2) := t2
  have k2 : 0 ≤ v_iv (n_v vs 2) ∧ v_iv (n_v vs 2) ≤ 47 := tv_rng t2
  obtain ⟨t3, hk⟩ := List.forall_mem_cons.mp hk
  have t3 : tv_ok ta (0, 1, 48, []) (n_v vs 3) := t3
  have k3 : 1 ≤ v_iv (n_v vs 3) ∧ v_iv (n_v vs 3) ≤ 48 := tv_rng t3
  obtain ⟨t4, hk⟩ := List.forall_mem_cons.mp hk
  have t4 : tv_ok ta (2, 0, 0, [52]) (n_v vs 4) := t4
  have r4 : ta (v_ad (n_v vs 4)) = some 52 := tv_rg t4
  obtain ⟨t5, hk⟩ := List.forall_mem_cons.mp hk
  have t5 : tv_ok ta (0, 0, 23, []) (n_v vs 5) := t5
  have k5 : 0 ≤ v_iv (n_v vs 5) ∧ v_iv (n_v vs 5) ≤ 23 := tv_rng t5
  obtain ⟨t6, hk⟩ := List.forall_mem_cons.mp hk
  have t6 : tv_ok ta (0, 1, 23, []) (n_v vs 6) := t6
  have k6 : 1 ≤ v_iv (n_v vs 6) ∧ v_iv (n_v vs 6) ≤ 23 := tv_rng t6
  obtain ⟨t7, hk⟩ := List.forall_mem_cons.mp hk
  have t7 : tv_ok ta (0, 1, 1, []) (n_v vs 7) := t7
  have k7 : 1 ≤ v_iv (n_v vs 7) ∧ v_iv (n_v vs 7) ≤ 1 := tv_rng t7
  obtain ⟨t8, hk⟩ := List.forall_mem_cons.mp hk
  have t8 : tv_ok ta (0, 0, 22, []) (n_v vs 8) := t8
  have k8 : 0 ≤ v_iv (n_v vs 8) ∧ v_iv (n_v vs 8) ≤ 22 := tv_rng t8
  obtain ⟨t9, hk⟩ := List.forall_mem_cons.mp hk
  have t9 : tv_ok ta (2, 0, 0, [53]) (n_v vs 9) := t9
  have r9 : ta (v_ad (n_v vs 9)) = some 53 := tv_rg t9
  obtain ⟨t10, hk⟩ := List.forall_mem_cons.mp hk
  have t10 : tv_ok ta (0, 0, 23, []) (n_v vs 10) := t10
  have k10 : 0 ≤ v_iv (n_v vs 10) ∧ v_iv (n_v vs 10) ≤ 23 := tv_rng t10
  obtain ⟨t11, hk⟩ := List.forall_mem_cons.mp hk
  have t11 : tv_ok ta (0, 1, 23, []) (n_v vs 11) := t11
  have k11 : 1 ≤ v_iv (n_v vs 11) ∧ v_iv (n_v vs 11) ≤ 23 := tv_rng t11
  obtain ⟨t12, hk⟩ := List.forall_mem_cons.mp hk
  have t12 : tv_ok ta (0, 1, 1, []) (n_v vs 12) := t12
  have k12 : 1 ≤ v_iv (n_v vs 12) ∧ v_iv (n_v vs 12) ≤ 1 := tv_rng t12
  obtain ⟨t13, hk⟩ := List.forall_mem_cons.mp hk
  have t13 : tv_ok ta (0, -1, 22, []) (n_v vs 13) := t13
  have k13 : (-1) ≤ v_iv (n_v vs 13) ∧ v_iv (n_v vs 13) ≤ 22 := tv_rng t13
  have hds : ∀ q ∈ ([(13, 10, -1, -1), (11, 1, 1, 4294967296), (8, 5, -1, -1), (6, 1, 1, 4294967296), (2, 3, -4294967296, -1), (1, 2, -4294967296, 23)] : List of_T), n_iv vs q.2.1 + q.2.2.1 ≤ n_iv vs q.1 ∧ n_iv vs q.1 ≤ n_iv vs q.2.1 + q.2.2.2 := hds
  obtain ⟨d0, hds⟩ := List.forall_mem_cons.mp hds
  have d0 : v_iv (n_v vs 10) + (-1) ≤ v_iv (n_v vs 13) ∧ v_iv (n_v vs 13) ≤ v_iv (n_v vs 10) + (-1) := d0
  obtain ⟨d1, hds⟩ := List.forall_mem_cons.mp hds
  have d1 : v_iv (n_v vs 1) + 1 ≤ v_iv (n_v vs 11) ∧ v_iv (n_v vs 11) ≤ v_iv (n_v vs 1) + 4294967296 := d1
  obtain ⟨d2, hds⟩ := List.forall_mem_cons.mp hds
  have d2 : v_iv (n_v vs 5) + (-1) ≤ v_iv (n_v vs 8) ∧ v_iv (n_v vs 8) ≤ v_iv (n_v vs 5) + (-1) := d2
  obtain ⟨d3, hds⟩ := List.forall_mem_cons.mp hds
  have d3 : v_iv (n_v vs 1) + 1 ≤ v_iv (n_v vs 6) ∧ v_iv (n_v vs 6) ≤ v_iv (n_v vs 1) + 4294967296 := d3
  obtain ⟨d4, hds⟩ := List.forall_mem_cons.mp hds
  have d4 : v_iv (n_v vs 3) + (-4294967296) ≤ v_iv (n_v vs 2) ∧ v_iv (n_v vs 2) ≤ v_iv (n_v vs 3) + (-1) := d4
  obtain ⟨d5, hds⟩ := List.forall_mem_cons.mp hds
  have d5 : v_iv (n_v vs 2) + (-4294967296) ≤ v_iv (n_v vs 1) ∧ v_iv (n_v vs 1) ≤ v_iv (n_v vs 2) + 23 := d5
  have hf : fc_ok [(2, [13, 10, 12], []), (7, [11, 1], [4]), (10, [11, 9, 2], []), (9, [9, 0], [8]), (10, [10, 9, 2], []), (20, [0], [30, -1, -1, 1, 0]), (20, [1, 0], [30, -1, 1, 0, 0, -1, 1, 0]), (100, [4, 2, 8], []), (2, [8, 5, 7], []), (7, [6, 1], [4]), (10, [6, 4, 2], []), (9, [4, 0], [7]), (10, [5, 4, 2], []), (7, [2, 3], [2]), (9, [3, 0], [1]), (20, [0], [30, -1, -1, 1, 0]), (20, [1, 0], [30, -1, 1, 0, 0, -1, 1, 0])] ta ws vs := hf
  obtain ⟨f0, hf⟩ := fc_un (by decide) hf
  have f0 : v_iv (n_v vs 13) = v_iv (n_v vs 10) - v_iv (n_v vs 12) := f0
  obtain ⟨f1, hf⟩ := fc_un (by decide) hf
  have f1 : v_iv (n_v vs 1) < v_iv (n_v vs 11) := f1
  obtain ⟨f2, hf⟩ := fc_un (by decide) hf
  have f2 : v_iv (n_v vs 11) = w_el ws (v_ad (n_v vs 9)) (v_iv (n_v vs 2)).toNat := f2
  obtain ⟨f3, hf⟩ := fc_un (by decide) hf
  have f3 : n_v vs 9 = w_fd ws (v_ad (n_v vs 0)) 8 := f3
  obtain ⟨f4, hf⟩ := fc_un (by decide) hf
  have f4 : v_iv (n_v vs 10) = w_el ws (v_ad (n_v vs 9)) (v_iv (n_v vs 2)).toNat := f4
  obtain ⟨f5, hf⟩ := fc_un (by decide) hf
  have f5 : (-1) * w_fi ws (n_v vs 0) 0 + 0 ≤ (-1) := f5
  obtain ⟨f6, hf⟩ := fc_un (by decide) hf
  have f6 : 1 * v_iv (n_v vs 1) + ((-1) * w_fi ws (n_v vs 0) 0 + 0) ≤ (-1) := f6
  obtain ⟨ta1, w1, le1, ⟨_, s1⟩, hf⟩ := fc_us (by decide) hf
  have s1 : (∀ b j, w_el ws b j = if b = v_ad (n_v vs 4) ∧ j = (v_iv (n_v vs 2)).toNat then v_iv (n_v vs 8) else w_el w1 b j) ∧ ∀ b k, w_fd ws b k = w_fd w1 b k := s1
  obtain ⟨f8, hf⟩ := fc_un (by decide) hf
  have f8 : v_iv (n_v vs 8) = v_iv (n_v vs 5) - v_iv (n_v vs 7) := f8
  obtain ⟨f9, hf⟩ := fc_un (by decide) hf
  have f9 : v_iv (n_v vs 1) < v_iv (n_v vs 6) := f9
  obtain ⟨f10, hf⟩ := fc_un (by decide) hf
  have f10 : v_iv (n_v vs 6) = w_el w1 (v_ad (n_v vs 4)) (v_iv (n_v vs 2)).toNat := f10
  obtain ⟨f11, hf⟩ := fc_un (by decide) hf
  have f11 : n_v vs 4 = w_fd w1 (v_ad (n_v vs 0)) 7 := f11
  obtain ⟨f12, hf⟩ := fc_un (by decide) hf
  have f12 : v_iv (n_v vs 5) = w_el w1 (v_ad (n_v vs 4)) (v_iv (n_v vs 2)).toNat := f12
  obtain ⟨f13, hf⟩ := fc_un (by decide) hf
  have f13 : v_iv (n_v vs 2) < v_iv (n_v vs 3) := f13
  obtain ⟨f14, hf⟩ := fc_un (by decide) hf
  have f14 : n_v vs 3 = w_fd w1 (v_ad (n_v vs 0)) 1 := f14
  obtain ⟨f15, hf⟩ := fc_un (by decide) hf
  have f15 : (-1) * w_fi w1 (n_v vs 0) 0 + 0 ≤ (-1) := f15
  obtain ⟨f16, hf⟩ := fc_un (by decide) hf
  have f16 : 1 * v_iv (n_v vs 1) + ((-1) * w_fi w1 (n_v vs 0) 0 + 0) ≤ (-1) := f16
  have ar_0_7_1 : w_ar w1 (n_v vs 0) 7 = w_ar ws (n_v vs 0) 7 := by show v_ad (w_fd w1 _ _) = v_ad (w_fd ws _ _); rw [s1.2]
  have cr_0_7 : ta (w_ar ws (n_v vs 0) 7) = some 52 := tv_rg (th_fd hD hth r0 (g := GG_3) rfl (k := 7) (t := (2, 0, 0, [52])) rfl rfl)
  have ar_0_8_1 : w_ar w1 (n_v vs 0) 8 = w_ar ws (n_v vs 0) 8 := by show v_ad (w_fd w1 _ _) = v_ad (w_fd ws _ _); rw [s1.2]
  have cr_0_8 : ta (w_ar ws (n_v vs 0) 8) = some 53 := tv_rg (th_fd hD hth r0 (g := GG_3) rfl (k := 8) (t := (2, 0, 0, [53])) rfl rfl)
  have ad_9 : v_ad (n_v vs 9) = w_ar ws (n_v vs 0) 8 := congrArg v_ad f3
  have ad_4 : v_ad (n_v vs 4) = w_ar ws (n_v vs 0) 7 := (congrArg v_ad f11).trans ar_0_7_1
  rw [ad_9] at f2
  rw [ad_9] at f4
  rw [ad_4] at f10
  rw [ad_4] at f12
  have g14 : v_iv (n_v vs 3) = w_fi w1 (n_v vs 0) 1 := congrArg v_iv f14
  have fe_0_0_1 : w_fi ws (n_v vs 0) 0 = w_fi w1 (n_v vs 0) 0 := congrArg v_iv (s1.2 _ _)
  have fe_0_1_1 : w_fi ws (n_v vs 0) 1 = w_fi w1 (n_v vs 0) 1 := congrArg v_iv (s1.2 _ _)
  have ee_0_7_2_1 : w_el ws (w_ar ws (n_v vs 0) 7) (v_iv (n_v vs 2)).toNat = v_iv (n_v vs 8) := by rw [s1.1, if_pos ⟨ad_4.symm, rfl⟩]
  have ee_0_8_2_1 : w_el ws (w_ar ws (n_v vs 0) 8) (v_iv (n_v vs 2)).toNat = w_el w1 (w_ar ws (n_v vs 0) 8) (v_iv (n_v vs 2)).toNat := by rw [s1.1, if_neg (fun e => by have e1 := e.1; rw [← e1] at r4; rw [cr_0_8] at r4; exact absurd (Option.some.inj r4) (by decide))]
  have rf13 : tv_ok ta (0, 0, 22, []) (n_v vs 13) := tv_in t13 (by omega) (by omega)
  refine ⟨List.forall_mem_cons.mpr ⟨rf13, (fun _ h => (by cases h))⟩, [], trivial, ?_, (fun _ h => (by cases h))⟩
  rw [List.append_nil]
  exact (fun _ h => (by cases h))
def n_Gr_removeNode_an : List an_T := [(7, [(0, (2, 0, 0, [3])), (1, (0, 0, 23, [])), (2, (0, -1, 47, []))], [], (0, 0), [(0, 0, 99993), (2, 2, -1), (0, 0, 100000)], [(1, 2, -1000000000000, 24), (1, 3, -1000000000000, 23), (2, 1, -1000000000000, 47), (2, 3, -1000000000000, -1), (3, 1, -1000000000000, 48), (3, 2, -1000000000000, 49)], [((0, 1), (0, 0, 48, []))], [], 0, [], [(20, [0], [30, -1, -1, 1, 0]), (20, [1, 0], [30, -1, 1, 0, 0, -1, 1, 0])]), (44, [(0, (2, 0, 0, [3])), (1, (0, 0, 23, [])), (2, (0, 0, 48, []))], [], (0, 0), [(0, 0, 99956), (1, 2, 48), (0, 0, 100000)], [(1, 2, -1000000000000, 23)], [], [], 0, [], [(20, [0], [30, -1, -1, 1, 0]), (20, [1, 0], [30, -1, 1, 0, 0, -1, 1, 0])])]
def t_Gr_removeNode_ct : ct_L := [(1, 83, e_Gr_relink), (1, 140, e_Gr_removeEdge), (414, 77, e_acp_65), (462, 77, e_acp_66), (510, 77, e_acp_67), (558, 77, e_acp_68)]
set_option maxRecDepth 100000 in
theorem c_Gr_removeNode {l : Launch} {D : va_G} {kA : Nat → ClassId} (h_Gr_relink : ct_ok l D kA GG y_Gr_relink z_Gr_relink e_Gr_relink) (h_Gr_removeEdge : ct_ok l D kA GG y_Gr_removeEdge z_Gr_removeEdge e_Gr_removeEdge) : ct_ok l D kA GG y_Gr_removeNode z_Gr_removeNode e_Gr_removeNode := chk_all_ok (FT := [(9, 3, 0), (15, 3, 1), (21, 3, 3), (25, 3, 4), (29, 3, 5), (32, 3, 6), (35, 3, 7), (38, 3, 8)]) (PT := [(9, 3, 0, .int)]) (CT := t_Gr_removeNode_ct) (KT := []) (NT := []) (AN := n_Gr_removeNode_an) (OT := [o_Gr_removeNode_0, o_Gr_removeNode_1, o_Gr_removeNode_2, o_Gr_removeNode_3, o_Gr_removeNode_4, o_Gr_removeNode_5, o_Gr_removeNode_6, o_Gr_removeNode_7, o_Gr_removeNode_8, o_Gr_removeNode_9, o_Gr_removeNode_10]) 3 644 (List.forall_mem_cons.mpr ⟨oo_Gr_removeNode_0, List.forall_mem_cons.mpr ⟨oo_Gr_removeNode_1, List.forall_mem_cons.mpr ⟨oo_Gr_removeNode_2, List.forall_mem_cons.mpr ⟨oo_Gr_removeNode_3, List.forall_mem_cons.mpr ⟨oo_Gr_removeNode_4, List.forall_mem_cons.mpr ⟨oo_Gr_removeNode_5, List.forall_mem_cons.mpr ⟨oo_Gr_removeNode_6, List.forall_mem_cons.mpr ⟨oo_Gr_removeNode_7, List.forall_mem_cons.mpr ⟨oo_Gr_removeNode_8, List.forall_mem_cons.mpr ⟨oo_Gr_removeNode_9, List.forall_mem_cons.mpr ⟨oo_Gr_removeNode_10, List.forall_mem_nil _⟩⟩⟩⟩⟩⟩⟩⟩⟩⟩⟩) (by decide +kernel) ⟨List.forall_mem_cons.mpr ⟨gf_Gr_9, List.forall_mem_cons.mpr ⟨gf_Gr_15, List.forall_mem_cons.mpr ⟨gf_Gr_21, List.forall_mem_cons.mpr ⟨gf_Gr_25, List.forall_mem_cons.mpr ⟨gf_Gr_29, List.forall_mem_cons.mpr ⟨gf_Gr_32, List.forall_mem_cons.mpr ⟨gf_Gr_35, List.forall_mem_cons.mpr ⟨gf_Gr_38, List.forall_mem_nil _⟩⟩⟩⟩⟩⟩⟩⟩, List.forall_mem_cons.mpr ⟨pf_Gr_9, List.forall_mem_nil _⟩, List.forall_mem_cons.mpr ⟨cl_virtual (y := y_Gr_relink) (ci := 3) rfl rfl ⟨_, _, rfl⟩ (by decide +kernel) h_Gr_relink wm_785 wm_3 wm_782 wm_784 wv_1_12 ⟨by decide, by decide, by decide +kernel⟩ (by decide), List.forall_mem_cons.mpr ⟨cl_virtual (y := y_Gr_removeEdge) (ci := 3) rfl rfl ⟨_, _, rfl⟩ (by decide +kernel) h_Gr_removeEdge wm_993 wm_3 wm_990 wm_992 wv_3_1 ⟨by decide, by decide, by decide +kernel⟩ (by decide), List.forall_mem_cons.mpr ⟨cl_copy rfl rfl (by decide) (by decide) (by decide) wm_748 wm_750 wm_749 wm_15, List.forall_mem_cons.mpr ⟨cl_copy rfl rfl (by decide) (by decide) (by decide) wm_748 wm_750 wm_749 wm_15, List.forall_mem_cons.mpr ⟨cl_copy rfl rfl (by decide) (by decide) (by decide) wm_748 wm_750 wm_749 wm_15, List.forall_mem_cons.mpr ⟨cl_copy rfl rfl (by decide) (by decide) (by decide) wm_748 wm_750 wm_749 wm_15, List.forall_mem_nil _⟩⟩⟩⟩⟩⟩, List.forall_mem_nil _, List.forall_mem_nil _⟩ (by decide +kernel)
def o_Mo_turn_0 : or_T := (192, 31, [(4, (0, 0, 159, [])), (22, (0, 0, 160, [])), (23, (0, 0, 160, [])), (24, (0, -160, 160, [])), (25, (0, 1, 1, [])), (26, (0, -161, 159, [])), (29, (0, 0, 160, [])), (30, (0, 0, 319, []))], [(1, [30, 29, 4], []), (10, [29, 19, 3], []), (2, [26, 24, 25], []), (2, [24, 22, 23], []), (10, [23, 19, 3], [])], [(30, (0, 0, 159, []))], [], [], [], [(30, 4, 0, 160), (30, 26, -4294967296, 160), (30, 29, 0, 159), (4, 26, -4294967296, 0), (26, 24, -1, -1), (26, 22, -161, -1), (24, 22, -160, 0)])
theorem oo_Mo_turn_0 {kA : Nat → ClassId} : or_ok kA GG o_Mo_turn_0 := by
  intro A ta ws vs hD hth hl hk hds hf
  have hl : vs.length = 31 := hl
  have hk : ∀ q ∈ ([(4, (0, 0, 159, [])), (22, (0, 0, 160, [])), (23, (0, 0, 160, [])), (24, (0, -160, 160, [])), (25, (0, 1, 1, [])), (26, (0, -161, 159, [])), (29, (0, 0, 160, [])), (30, (0, 0, 319, []))] : List (Nat × tv_T)), tv_ok ta q.2 (n_v vs q.1) := hk
  obtain ⟨t4, hk⟩ := List.forall_mem_cons.mp hk
  have t4 : tv_ok ta (0, 0, 159, []) (n_v vs 4) := t4
  have k4 : 0 ≤ v_iv (n_v vs 4) ∧ v_iv (n_v vs 4) ≤ 159 := tv_rng t4
  obtain ⟨t22, hk⟩ := List.forall_mem_cons.mp hk
  have t22 : tv_ok ta (0, 0, 160, []) (n_v vs 22) := t22
  have k22 : 0 ≤ v_iv (n_v vs 22) ∧ v_iv (n_v vs 22) ≤ 160 := tv_rng t22
  obtain ⟨t23, hk⟩ := List.forall_mem_cons.mp hk
  have t23 : tv_ok ta (0, 0, 160, []) (n_v vs 23) := t23
  have k23 : 0 ≤ v_iv (n_v vs 23) ∧ v_iv (n_v vs 23) ≤ 160 := tv_rng t23
  obtain ⟨t24, hk⟩ := List.forall_mem_cons.mp hk
  have t24 : tv_ok ta (0, -160, 160, []) (n_v vs 24) := t24
  have k24 : (-160) ≤ v_iv (n_v vs 24) ∧ v_iv (n_v vs 24) ≤ 160 := tv_rng t24
  obtain ⟨t25, hk⟩ := List.forall_mem_cons.mp hk
  have t25 : tv_ok ta (0, 1, 1, []) (n_v vs 25) := t25
  have k25 : 1 ≤ v_iv (n_v vs 25) ∧ v_iv (n_v vs 25) ≤ 1 := tv_rng t25
  obtain ⟨t26, hk⟩ := List.forall_mem_cons.mp hk
  have t26 : tv_ok ta (0, -161, 159, []) (n_v vs 26) := t26
  have k26 : (-161) ≤ v_iv (n_v vs 26) ∧ v_iv (n_v vs 26) ≤ 159 := tv_rng t26
  obtain ⟨t29, hk⟩ := List.forall_mem_cons.mp hk
  have t29 : tv_ok ta (0, 0, 160, []) (n_v vs 29) := t29
  have k29 : 0 ≤ v_iv (n_v vs 29) ∧ v_iv (n_v vs 29) ≤ 160 := tv_rng t29
  obtain ⟨t30, hk⟩ := List.forall_mem_cons.mp hk
  have t30 : tv_ok ta (0, 0, 319, []) (n_v vs 30) := t30
  have k30 : 0 ≤ v_iv (n_v vs 30) ∧ v_iv (n_v vs 30) ≤ 319 := tv_rng t30
  have hds : ∀ q ∈ ([(30, 4, 0, 160), (30, 26, -4294967296, 160), (30, 29, 0, 159), (4, 26, -4294967296, 0), (26, 24, -1, -1), (26, 22, -161, -1), (24, 22, -160, 0)] : List of_T), n_iv vs q.2.1 + q.2.2.1 ≤ n_iv vs q.1 ∧ n_iv vs q.1 ≤ n_iv vs q.2.1 + q.2.2.2 := hds
  obtain ⟨d0, hds⟩ := List.forall_mem_cons.mp hds
  have d0 : v_iv (n_v vs 4) + 0 ≤ v_iv (n_v vs 30) ∧ v_iv (n_v vs 30) ≤ v_iv (n_v vs 4) + 160 := d0
  obtain ⟨d1, hds⟩ := List.forall_mem_cons.mp hds
  have d1 : v_iv (n_v vs 26) + (-4294967296) ≤ v_iv (n_v vs 30) ∧ v_iv (n_v vs 30) ≤ v_iv (n_v vs 26) + 160 := d1
  obtain ⟨d2, hds⟩ := List.forall_mem_cons.mp hds
  have d2 : v_iv (n_v vs 29) + 0 ≤ v_iv (n_v vs 30) ∧ v_iv (n_v vs 30) ≤ v_iv (n_v vs 29) + 159 := d2
  obtain ⟨d3, hds⟩ := List.forall_mem_cons.mp hds
  have d3 : v_iv (n_v vs 26) + (-4294967296) ≤ v_iv (n_v vs 4) ∧ v_iv (n_v vs 4) ≤ v_iv (n_v vs 26) + 0 := d3
  obtain ⟨d4, hds⟩ := List.forall_mem_cons.mp hds
  have d4 : v_iv (n_v vs 24) + (-1) ≤ v_iv (n_v vs 26) ∧ v_iv (n_v vs 26) ≤ v_iv (n_v vs 24) + (-1) := d4
  obtain ⟨d5, hds⟩ := List.forall_mem_cons.mp hds
  have d5 : v_iv (n_v vs 22) + (-161) ≤ v_iv (n_v vs 26) ∧ v_iv (n_v vs 26) ≤ v_iv (n_v vs 22) + (-1) := d5
  obtain ⟨d6, hds⟩ := List.forall_mem_cons.mp hds
  have d6 : v_iv (n_v vs 22) + (-160) ≤ v_iv (n_v vs 24) ∧ v_iv (n_v vs 24) ≤ v_iv (n_v vs 22) + 0 := d6
  have hf : fc_ok [(1, [30, 29, 4], []), (10, [29, 19, 3], []), (2, [26, 24, 25], []), (2, [24, 22, 23], []), (10, [23, 19, 3], [])] ta ws vs := hf
  obtain ⟨f0, hf⟩ := fc_un (by decide) hf
  have f0 : v_iv (n_v vs 30) = v_iv (n_v vs 29) + v_iv (n_v vs 4) := f0
  obtain ⟨f1, hf⟩ := fc_un (by decide) hf
  have f1 : v_iv (n_v vs 29) = w_el ws (v_ad (n_v vs 19)) (v_iv (n_v vs 3)).toNat := f1
  obtain ⟨f2, hf⟩ := fc_un (by decide) hf
  have f2 : v_iv (n_v vs 26) = v_iv (n_v vs 24) - v_iv (n_v vs 25) := f2
  obtain ⟨f3, hf⟩ := fc_un (by decide) hf
  have f3 : v_iv (n_v vs 24) = v_iv (n_v vs 22) - v_iv (n_v vs 23) := f3
  obtain ⟨f4, hf⟩ := fc_un (by decide) hf
  have f4 : v_iv (n_v vs 23) = w_el ws (v_ad (n_v vs 19)) (v_iv (n_v vs 3)).toNat := f4
  have rf30 : tv_ok ta (0, 0, 159, []) (n_v vs 30) := tv_in t30 (by omega) (by omega)
  refine ⟨List.forall_mem_cons.mpr ⟨rf30, (fun _ h => (by cases h))⟩, [], trivial, ?_, (fun _ h => (by cases h))⟩
  rw [List.append_nil]
  exact (fun _ h => (by cases h))
def n_Mo_turn_an : List an_T := []
def t_Mo_turn_ct : ct_L := [(0, 387, e_Mo_in), (0, 521, e_Mo_isPlace), (1, 527, e_Mo_take), (1, 704, e_Mo_isPlanar), (1, 707, e_Mo_goRound), (1, 710, e_Mo_bar), (1, 713, e_Mo_fromOf)]
set_option maxRecDepth 100000 in
theorem c_Mo_turn {l : Launch} {D : va_G} {kA : Nat → ClassId} (h_Mo_bar : ct_ok l D kA GG y_Mo_bar z_Mo_bar e_Mo_bar) (h_Mo_fromOf : ct_ok l D kA GG y_Mo_fromOf z_Mo_fromOf e_Mo_fromOf) (h_Mo_goRound : ct_ok l D kA GG y_Mo_goRound z_Mo_goRound e_Mo_goRound) (h_Mo_in : ct_ok l D kA GG y_Mo_in z_Mo_in e_Mo_in) (h_Mo_isPlace : ct_ok l D kA GG y_Mo_isPlace z_Mo_isPlace e_Mo_isPlace) (h_Mo_isPlanar : ct_ok l D kA GG y_Mo_isPlanar z_Mo_isPlanar e_Mo_isPlanar) (h_Mo_take : ct_ok l D kA GG y_Mo_take z_Mo_take e_Mo_take) : ct_ok l D kA GG y_Mo_turn z_Mo_turn e_Mo_turn := chk_all_ok (FT := [(66, 13, 36), (69, 13, 37), (111, 13, 56), (114, 13, 57), (117, 13, 60), (594, 13, 31), (683, 13, 53), (695, 13, 58)]) (PT := []) (CT := t_Mo_turn_ct) (KT := []) (NT := []) (AN := n_Mo_turn_an) (OT := [o_Mo_turn_0]) 0 640 (List.forall_mem_cons.mpr ⟨oo_Mo_turn_0, List.forall_mem_nil _⟩) (by decide +kernel) ⟨List.forall_mem_cons.mpr ⟨gf_Mo_66, List.forall_mem_cons.mpr ⟨gf_Mo_69, List.forall_mem_cons.mpr ⟨gf_Mo_111, List.forall_mem_cons.mpr ⟨gf_Mo_114, List.forall_mem_cons.mpr ⟨gf_Mo_117, List.forall_mem_cons.mpr ⟨gf_Mo_594, List.forall_mem_cons.mpr ⟨gf_Mo_683, List.forall_mem_cons.mpr ⟨gf_Mo_695, List.forall_mem_nil _⟩⟩⟩⟩⟩⟩⟩⟩, List.forall_mem_nil _, List.forall_mem_cons.mpr ⟨cl_static (y := y_Mo_in) h_Mo_in wm_2971 wm_9 wm_2969 wm_2970 ⟨by decide, by decide, by decide +kernel⟩ (by decide), List.forall_mem_cons.mpr ⟨cl_static (y := y_Mo_isPlace) h_Mo_isPlace wm_2978 wm_9 wm_2976 wm_2977 ⟨by decide, by decide, by decide +kernel⟩ (by decide), List.forall_mem_cons.mpr ⟨cl_virtual (y := y_Mo_take) (ci := 13) rfl rfl ⟨_, _, rfl⟩ (by decide +kernel) h_Mo_take wm_3091 wm_9 wm_3088 wm_3090 wv_14_2 ⟨by decide, by decide, by decide +kernel⟩ (by decide), List.forall_mem_cons.mpr ⟨cl_virtual (y := y_Mo_isPlanar) (ci := 13) rfl rfl ⟨_, _, rfl⟩ (by decide +kernel) h_Mo_isPlanar wm_3251 wm_9 wm_3248 wm_3250 wv_16_5 ⟨by decide, by decide, by decide +kernel⟩ (by decide), List.forall_mem_cons.mpr ⟨cl_virtual (y := y_Mo_goRound) (ci := 13) rfl rfl ⟨_, _, rfl⟩ (by decide +kernel) h_Mo_goRound wm_3255 wm_9 wm_3252 wm_3254 wv_16_6 ⟨by decide, by decide, by decide +kernel⟩ (by decide), List.forall_mem_cons.mpr ⟨cl_virtual (y := y_Mo_bar) (ci := 13) rfl rfl ⟨_, _, rfl⟩ (by decide +kernel) h_Mo_bar wm_3267 wm_9 wm_3264 wm_3266 wv_16_9 ⟨by decide, by decide, by decide +kernel⟩ (by decide), List.forall_mem_cons.mpr ⟨cl_virtual (y := y_Mo_fromOf) (ci := 13) rfl rfl ⟨_, _, rfl⟩ (by decide +kernel) h_Mo_fromOf wm_3275 wm_9 wm_3272 wm_3274 wv_16_10 ⟨by decide, by decide, by decide +kernel⟩ (by decide), List.forall_mem_nil _⟩⟩⟩⟩⟩⟩⟩, List.forall_mem_nil _, List.forall_mem_nil _⟩ (by decide +kernel)
