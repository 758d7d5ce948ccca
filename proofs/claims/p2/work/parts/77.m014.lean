def o_Ho_writeGroup_at_k5_0 : or_T := (3, 6, [(0, (2, 0, 0, [12])), (4, (0, 0, 99999256, [])), (5, (0, 0, 0, []))], [(20, [0, 4], [30, 0, 1, 1, 12, -1, 0, 0])], [], [], [(20, [0, 4, 5], [30, 0, 1, 1, 12, -1, 0, 0, -31, 0, 0]), (24, [0, 0], [])], [], [])
theorem oo_Ho_writeGroup_at_k5_0 {kA : Nat → ClassId} : or_ok kA GG o_Ho_writeGroup_at_k5_0 := by
  intro A ta ws vs hD hth hl hk hds hf
  have hl : vs.length = 6 := hl
  have hk : ∀ q ∈ ([(0, (2, 0, 0, [12])), (4, (0, 0, 99999256, [])), (5, (0, 0, 0, []))] : List (Nat × tv_T)), tv_ok ta q.2 (n_v vs q.1) := hk
  obtain ⟨t0, hk⟩ := List.forall_mem_cons.mp hk
  have t0 : tv_ok ta (2, 0, 0, [12]) (n_v vs 0) := t0
  have r0 : ta (v_ad (n_v vs 0)) = some 12 := tv_rg t0
  obtain ⟨t4, hk⟩ := List.forall_mem_cons.mp hk
  have t4 : tv_ok ta (0, 0, 99999256, []) (n_v vs 4) := t4
  have k4 : 0 ≤ v_iv (n_v vs 4) ∧ v_iv (n_v vs 4) ≤ 99999256 := tv_rng t4
  obtain ⟨t5, hk⟩ := List.forall_mem_cons.mp hk
  have t5 : tv_ok ta (0, 0, 0, []) (n_v vs 5) := t5
  have k5 : 0 ≤ v_iv (n_v vs 5) ∧ v_iv (n_v vs 5) ≤ 0 := tv_rng t5
  have hf : fc_ok [(20, [0, 4], [30, 0, 1, 1, 12, -1, 0, 0])] ta ws vs := hf
  obtain ⟨f0, hf⟩ := fc_un (show (20 : Nat) < 100 from by decide) hf
  have f0 : 1 * w_fi ws (n_v vs 0) 12 + ((-1) * v_iv (n_v vs 4) + 0) ≤ 0 := f0
  have kz_0_12 : 0 ≤ w_fi ws (n_v vs 0) 12 ∧ w_fi ws (n_v vs 0) 12 ≤ 100000000 := tv_rng (th_fd hD hth r0 (g := GG_12) rfl (k := 12) (t := (0, 0, 100000000, [])) rfl rfl)
  have nf0 : fc_1 (20, [0, 4, 5], [30, 0, 1, 1, 12, -1, 0, 0, -31, 0, 0]) ws (vs) := by
    refine ⟨fun n hn => ?_, ?_⟩
    · have hn : n ∈ [0, 4, 5] := hn
      rw [hl]
      simp only [List.mem_cons, List.not_mem_nil, or_false] at hn
      show n < 6; omega
    · show 1 * w_fi ws (n_v vs 0) 12 + ((-1) * v_iv (n_v vs 4) + ((-31) * v_iv (n_v vs 5) + 0)) ≤ 0
      omega
  have nf1 : fc_1 (24, [0, 0], []) ws (vs) := by
    refine ⟨fun n hn => ?_, ?_⟩
    · have hn : n ∈ [0, 0] := hn
      rw [hl]
      simp only [List.mem_cons, List.not_mem_nil, or_false] at hn
      show n < 6; omega
    · show n_v vs 0 = n_v vs 0
      first | rfl | simp only [true_and]
  refine ⟨(fun _ h => (by cases h)), [], trivial, ?_, (fun _ h => (by cases h))⟩
  rw [List.append_nil]
  exact List.forall_mem_cons.mpr ⟨⟨show (20 : Nat) < 100 from by decide, nf0⟩, List.forall_mem_cons.mpr ⟨⟨show (24 : Nat) < 100 from by decide, nf1⟩, (fun _ h => (by cases h))⟩⟩
def o_Ho_writeGroup_at_k5_1 : or_T := (100, 13, [(0, (2, 0, 0, [12])), (4, (0, 0, 99999256, [])), (5, (2, 0, 0, [12])), (6, (2, 0, 0, [3])), (7, (0, 5, 7, [])), (9, (0, 0, 24, [])), (10, (0, 0, 24, [])), (11, (0, 1, 1, [])), (12, (0, 6, 8, []))], [(1, [12, 7, 11], []), (7, [9, 10], [3]), (9, [10, 6], [0]), (20, [5, 4, 9], [30, 0, 1, 1, 12, -1, 0, 0, -31, 0, 0]), (24, [0, 5], [])], [], [], [(20, [5, 4, 12, 7], [30, 744, 1, 1, 12, -1, 0, 0, 0, 0, 0, 0, 0, 0])], [], [(12, 7, 1, 1), (12, 4, -4294967296, 8), (12, 9, -4294967296, 8), (9, 10, 0, 4294967296), (7, 4, -4294967296, 7), (7, 9, -4294967296, 7)])
theorem oo_Ho_writeGroup_at_k5_1 {kA : Nat → ClassId} : or_ok kA GG o_Ho_writeGroup_at_k5_1 := by
  intro A ta ws vs hD hth hl hk hds hf
  have hl : vs.length = 13 := hl
  have hk : ∀ q ∈ ([(0, (2, 0, 0, [12])), (4, (0, 0, 99999256, [])), (5, (2, 0, 0, [12])), (6, (2, 0, 0, [3])), (7, (0, 5, 7, [])), (9, (0, 0, 24, [])), (10, (0, 0, 24, [])), (11, (0, 1, 1, [])), (12, (0, 6, 8, []))] : List (Nat × tv_T)), tv_ok ta q.2 (n_v vs q.1) := hk
  obtain ⟨t0, hk⟩ := List.forall_mem_cons.mp hk
  have t0 : tv_ok ta (2, 0, 0, [12]) (n_v vs 0) := t0
  have r0 : ta (v_ad (n_v vs 0)) = some 12 := tv_rg t0
  obtain ⟨t4, hk⟩ := List.forall_mem_cons.mp hk
  have t4 : tv_ok ta (0, 0, 99999256, []) (n_v vs 4) := t4
  have k4 : 0 ≤ v_iv (n_v vs 4) ∧ v_iv (n_v vs 4) ≤ 99999256 := tv_rng t4
  obtain ⟨t5, hk⟩ := List.forall_mem_cons.mp hk
  have t5 : tv_ok ta (2, 0, 0, [12]) (n_v vs 5) := t5
  have r5 : ta (v_ad (n_v vs 5)) = some 12 := tv_rg t5
  obtain ⟨t6, hk⟩ := List.forall_mem_cons.mp hk
  have t6 : tv_ok ta (2, 0, 0, [3]) (n_v vs 6) := t6
  have r6 : ta (v_ad (n_v vs 6)) = some 3 := tv_rg t6
  obtain ⟨t7, hk⟩ := List.forall_mem_cons.mp hk
  have t7 : tv_ok ta (0, 5, 7, []) (n_v vs 7) := t7
  have k7 : 5 ≤ v_iv (n_v vs 7) ∧ v_iv (n_v vs 7) ≤ 7 := tv_rng t7
  obtain ⟨t9, hk⟩ := List.forall_mem_cons.mp hk
  have t9 : tv_ok ta (0, 0, 24, []) (n_v vs 9) := t9
  have k9 : 0 ≤ v_iv (n_v vs 9) ∧ v_iv (n_v vs 9) ≤ 24 := tv_rng t9
  obtain ⟨t10, hk⟩ := List.forall_mem_cons.mp hk
  have t10 : tv_ok ta (0, 0, 24, []) (n_v vs 10) := t10
  have k10 : 0 ≤ v_iv (n_v vs 10) ∧ v_iv (n_v vs 10) ≤ 24 := tv_rng t10
  obtain ⟨t11, hk⟩ := List.forall_mem_cons.mp hk
  have t11 : tv_ok ta (0, 1, 1, []) (n_v vs 11) := t11
  have k11 : 1 ≤ v_iv (n_v vs 11) ∧ v_iv (n_v vs 11) ≤ 1 := tv_rng t11
  obtain ⟨t12, hk⟩ := List.forall_mem_cons.mp hk
  have t12 : tv_ok ta (0, 6, 8, []) (n_v vs 12) := t12
  have k12 : 6 ≤ v_iv (n_v vs 12) ∧ v_iv (n_v vs 12) ≤ 8 := tv_rng t12
  have hds : ∀ q ∈ ([(12, 7, 1, 1), (12, 4, -4294967296, 8), (12, 9, -4294967296, 8), (9, 10, 0, 4294967296), (7, 4, -4294967296, 7), (7, 9, -4294967296, 7)] : List of_T), n_iv vs q.2.1 + q.2.2.1 ≤ n_iv vs q.1 ∧ n_iv vs q.1 ≤ n_iv vs q.2.1 + q.2.2.2 := hds
  obtain ⟨d0, hds⟩ := List.forall_mem_cons.mp hds
  have d0 : v_iv (n_v vs 7) + 1 ≤ v_iv (n_v vs 12) ∧ v_iv (n_v vs 12) ≤ v_iv (n_v vs 7) + 1 := d0
  obtain ⟨d1, hds⟩ := List.forall_mem_cons.mp hds
  have d1 : v_iv (n_v vs 4) + (-4294967296) ≤ v_iv (n_v vs 12) ∧ v_iv (n_v vs 12) ≤ v_iv (n_v vs 4) + 8 := d1
  obtain ⟨d2, hds⟩ := List.forall_mem_cons.mp hds
  have d2 : v_iv (n_v vs 9) + (-4294967296) ≤ v_iv (n_v vs 12) ∧ v_iv (n_v vs 12) ≤ v_iv (n_v vs 9) + 8 := d2
  obtain ⟨d3, hds⟩ := List.forall_mem_cons.mp hds
  have d3 : v_iv (n_v vs 10) + 0 ≤ v_iv (n_v vs 9) ∧ v_iv (n_v vs 9) ≤ v_iv (n_v vs 10) + 4294967296 := d3
  obtain ⟨d4, hds⟩ := List.forall_mem_cons.mp hds
  have d4 : v_iv (n_v vs 4) + (-4294967296) ≤ v_iv (n_v vs 7) ∧ v_iv (n_v vs 7) ≤ v_iv (n_v vs 4) + 7 := d4
  obtain ⟨d5, hds⟩ := List.forall_mem_cons.mp hds
  have d5 : v_iv (n_v vs 9) + (-4294967296) ≤ v_iv (n_v vs 7) ∧ v_iv (n_v vs 7) ≤ v_iv (n_v vs 9) + 7 := d5
  have hf : fc_ok [(1, [12, 7, 11], []), (7, [9, 10], [3]), (9, [10, 6], [0]), (20, [5, 4, 9], [30, 0, 1, 1, 12, -1, 0, 0, -31, 0, 0]), (24, [0, 5], [])] ta ws vs := hf
  obtain ⟨f0, hf⟩ := fc_un (show (1 : Nat) < 100 from by decide) hf
  have f0 : v_iv (n_v vs 12) = v_iv (n_v vs 7) + v_iv (n_v vs 11) := f0
  obtain ⟨f1, hf⟩ := fc_un (show (7 : Nat) < 100 from by decide) hf
  have f1 : v_iv (n_v vs 10) ≤ v_iv (n_v vs 9) := f1
  obtain ⟨f2, hf⟩ := fc_un (show (9 : Nat) < 100 from by decide) hf
  have f2 : n_v vs 10 = w_fd ws (v_ad (n_v vs 6)) 0 := f2
  obtain ⟨f3, hf⟩ := fc_un (show (20 : Nat) < 100 from by decide) hf
  have f3 : 1 * w_fi ws (n_v vs 5) 12 + ((-1) * v_iv (n_v vs 4) + ((-31) * v_iv (n_v vs 9) + 0)) ≤ 0 := f3
  obtain ⟨f4, hf⟩ := fc_un (show (24 : Nat) < 100 from by decide) hf
  have f4 : n_v vs 0 = n_v vs 5 := f4
  have q5 : n_v vs 5 = n_v vs 0 := f4.symm
  rw [q5] at f3
  have g2 : v_iv (n_v vs 10) = w_fi ws (n_v vs 6) 0 := congrArg v_iv f2
  have kz_0_12 : 0 ≤ w_fi ws (n_v vs 0) 12 ∧ w_fi ws (n_v vs 0) 12 ≤ 100000000 := tv_rng (th_fd hD hth r0 (g := GG_12) rfl (k := 12) (t := (0, 0, 100000000, [])) rfl rfl)
  have kz_6_0 : 0 ≤ w_fi ws (n_v vs 6) 0 ∧ w_fi ws (n_v vs 6) 0 ≤ 24 := tv_rng (th_fd hD hth r6 (g := GG_3) rfl (k := 0) (t := (0, 0, 24, [])) rfl rfl)
  have nf0 : fc_1 (20, [5, 4, 12, 7], [30, 744, 1, 1, 12, -1, 0, 0, 0, 0, 0, 0, 0, 0]) ws (vs) := by
    refine ⟨fun n hn => ?_, ?_⟩
    · have hn : n ∈ [5, 4, 12, 7] := hn
      rw [hl]
      simp only [List.mem_cons, List.not_mem_nil, or_false] at hn
      show n < 13; omega
    · show 1 * w_fi ws (n_v vs 5) 12 + ((-1) * v_iv (n_v vs 4) + (0 * v_iv (n_v vs 12) + (0 * v_iv (n_v vs 7) + 0))) ≤ 744
      rw [q5]
      omega
  refine ⟨(fun _ h => (by cases h)), [], trivial, ?_, (fun _ h => (by cases h))⟩
  rw [List.append_nil]
  exact List.forall_mem_cons.mpr ⟨⟨show (20 : Nat) < 100 from by decide, nf0⟩, (fun _ h => (by cases h))⟩
def o_Ho_writeGroup_at_k5_2 : or_T := (3, 14, [(0, (2, 0, 0, [12])), (4, (0, 0, 99999256, [])), (5, (2, 0, 0, [12])), (6, (2, 0, 0, [3])), (9, (0, 0, 23, [])), (10, (0, 1, 24, [])), (13, (0, 1, 24, []))], [(6, [13, 9], [1]), (7, [9, 10], [2]), (9, [10, 6], [0]), (20, [5, 4, 9], [30, 0, 1, 1, 12, -1, 0, 0, -31, 0, 0]), (24, [0, 5], [])], [], [], [(20, [5, 4, 13], [30, 0, 1, 1, 12, -1, 0, 0, -31, 0, 0])], [], [(13, 9, 1, 1), (13, 10, -4294967296, 0), (9, 10, -4294967296, -1)])
theorem oo_Ho_writeGroup_at_k5_2 {kA : Nat → ClassId} : or_ok kA GG o_Ho_writeGroup_at_k5_2 := by
  intro A ta ws vs hD hth hl hk hds hf
  have hl : vs.length = 14 := hl
  have hk : ∀ q ∈ ([(0, (2, 0, 0, [12])), (4, (0, 0, 99999256, [])), (5, (2, 0, 0, [12])), (6, (2, 0, 0, [3])), (9, (0, 0, 23, [])), (10, (0, 1, 24, [])), (13, (0, 1, 24, []))] : List (Nat × tv_T)), tv_ok ta q.2 (n_v vs q.1) := hk
  obtain ⟨t0, hk⟩ := List.forall_mem_cons.mp hk
  have t0 : tv_ok ta (2, 0, 0, [12]) (n_v vs 0) := t0
  have r0 : ta (v_ad (n_v vs 0)) = some 12 := tv_rg t0
  obtain ⟨t4, hk⟩ := List.forall_mem_cons.mp hk
  have t4 : tv_ok ta (0, 0, 99999256, []) (n_v vs 4) := t4
  have k4 : 0 ≤ v_iv (n_v vs 4) ∧ v_iv (n_v vs 4) ≤ 99999256 := tv_rng t4
  obtain ⟨t5, hk⟩ := List.forall_mem_cons.mp hk
  have t5 : tv_ok ta (2, 0, 0, [12]) (n_v vs 5) := t5
  have r5 : ta (v_ad (n_v vs 5)) = some 12 := tv_rg t5
  obtain ⟨t6, hk⟩ := List.forall_mem_cons.mp hk
  have t6 : tv_ok ta (2, 0, 0, [3]) (n_v vs 6) := t6
  have r6 : ta (v_ad (n_v vs 6)) = some 3 := tv_rg t6
  obtain ⟨t9, hk⟩ := List.forall_mem_cons.mp hk
  have t9 : tv_ok ta (0, 0, 23, []) (n_v vs 9) := t9
  have k9 : 0 ≤ v_iv (n_v vs 9) ∧ v_iv (n_v vs 9) ≤ 23 := tv_rng t9
  obtain ⟨t10, hk⟩ := List.forall_mem_cons.mp hk
  have t10 : tv_ok ta (0, 1, 24, []) (n_v vs 10) := t10
  have k10 : 1 ≤ v_iv (n_v vs 10) ∧ v_iv (n_v vs 10) ≤ 24 := tv_rng t10
  obtain ⟨t13, hk⟩ := List.forall_mem_cons.mp hk
  have t13 : tv_ok ta (0, 1, 24, []) (n_v vs 13) := t13
  have k13 : 1 ≤ v_iv (n_v vs 13) ∧ v_iv (n_v vs 13) ≤ 24 := tv_rng t13
  have hds : ∀ q ∈ ([(13, 9, 1, 1), (13, 10, -4294967296, 0), (9, 10, -4294967296, -1)] : List of_T), n_iv vs q.2.1 + q.2.2.1 ≤ n_iv vs q.1 ∧ n_iv vs q.1 ≤ n_iv vs q.2.1 + q.2.2.2 := hds
  obtain ⟨d0, hds⟩ := List.forall_mem_cons.mp hds
  have d0 : v_iv (n_v vs 9) + 1 ≤ v_iv (n_v vs 13) ∧ v_iv (n_v vs 13) ≤ v_iv (n_v vs 9) + 1 := d0
  obtain ⟨d1, hds⟩ := List.forall_mem_cons.mp hds
  have d1 : v_iv (n_v vs 10) + (-4294967296) ≤ v_iv (n_v vs 13) ∧ v_iv (n_v vs 13) ≤ v_iv (n_v vs 10) + 0 := d1
  obtain ⟨d2, hds⟩ := List.forall_mem_cons.mp hds
  have d2 : v_iv (n_v vs 10) + (-4294967296) ≤ v_iv (n_v vs 9) ∧ v_iv (n_v vs 9) ≤ v_iv (n_v vs 10) + (-1) := d2
  have hf : fc_ok [(6, [13, 9], [1]), (7, [9, 10], [2]), (9, [10, 6], [0]), (20, [5, 4, 9], [30, 0, 1, 1, 12, -1, 0, 0, -31, 0, 0]), (24, [0, 5], [])] ta ws vs := hf
  obtain ⟨f0, hf⟩ := fc_un (show (6 : Nat) < 100 from by decide) hf
  have f0 : v_iv (n_v vs 13) = v_iv (n_v vs 9) + 1 := f0
  obtain ⟨f1, hf⟩ := fc_un (show (7 : Nat) < 100 from by decide) hf
  have f1 : v_iv (n_v vs 9) < v_iv (n_v vs 10) := f1
  obtain ⟨f2, hf⟩ := fc_un (show (9 : Nat) < 100 from by decide) hf
  have f2 : n_v vs 10 = w_fd ws (v_ad (n_v vs 6)) 0 := f2
  obtain ⟨f3, hf⟩ := fc_un (show (20 : Nat) < 100 from by decide) hf
  have f3 : 1 * w_fi ws (n_v vs 5) 12 + ((-1) * v_iv (n_v vs 4) + ((-31) * v_iv (n_v vs 9) + 0)) ≤ 0 := f3
  obtain ⟨f4, hf⟩ := fc_un (show (24 : Nat) < 100 from by decide) hf
  have f4 : n_v vs 0 = n_v vs 5 := f4
  have q5 : n_v vs 5 = n_v vs 0 := f4.symm
  rw [q5] at f3
  have g2 : v_iv (n_v vs 10) = w_fi ws (n_v vs 6) 0 := congrArg v_iv f2
  have kz_0_12 : 0 ≤ w_fi ws (n_v vs 0) 12 ∧ w_fi ws (n_v vs 0) 12 ≤ 100000000 := tv_rng (th_fd hD hth r0 (g := GG_12) rfl (k := 12) (t := (0, 0, 100000000, [])) rfl rfl)
  have kz_6_0 : 0 ≤ w_fi ws (n_v vs 6) 0 ∧ w_fi ws (n_v vs 6) 0 ≤ 24 := tv_rng (th_fd hD hth r6 (g := GG_3) rfl (k := 0) (t := (0, 0, 24, [])) rfl rfl)
  have nf0 : fc_1 (20, [5, 4, 13], [30, 0, 1, 1, 12, -1, 0, 0, -31, 0, 0]) ws (vs) := by
    refine ⟨fun n hn => ?_, ?_⟩
    · have hn : n ∈ [5, 4, 13] := hn
      rw [hl]
      simp only [List.mem_cons, List.not_mem_nil, or_false] at hn
      show n < 14; omega
    · show 1 * w_fi ws (n_v vs 5) 12 + ((-1) * v_iv (n_v vs 4) + ((-31) * v_iv (n_v vs 13) + 0)) ≤ 0
      rw [q5]
      omega
  refine ⟨(fun _ h => (by cases h)), [], trivial, ?_, (fun _ h => (by cases h))⟩
  rw [List.append_nil]
  exact List.forall_mem_cons.mpr ⟨⟨show (20 : Nat) < 100 from by decide, nf0⟩, (fun _ h => (by cases h))⟩
def o_Ho_writeGroup_at_k5_3 : or_T := (27, 14, [(0, (2, 0, 0, [12])), (4, (0, 0, 99999256, [])), (5, (2, 0, 0, [12])), (6, (2, 0, 0, [3])), (9, (0, 0, 23, [])), (10, (0, 1, 24, []))], [(7, [9, 10], [2]), (9, [10, 6], [0]), (20, [5, 4, 9], [30, 0, 1, 1, 12, -1, 0, 0, -31, 0, 0]), (24, [0, 5], [])], [], [(0, 0, 99999995, [])], [(20, [5, 14], [30, 0, 1, 1, 12, -1, 0, 0]), (23, [14, 4, 9], [0, 1, -1, -31])], [], [(9, 10, -4294967296, -1)])
theorem oo_Ho_writeGroup_at_k5_3 {kA : Nat → ClassId} : or_ok kA GG o_Ho_writeGroup_at_k5_3 := by
  intro A ta ws vs hD hth hl hk hds hf
  have hl : vs.length = 14 := hl
  have hk : ∀ q ∈ ([(0, (2, 0, 0, [12])), (4, (0, 0, 99999256, [])), (5, (2, 0, 0, [12])), (6, (2, 0, 0, [3])), (9, (0, 0, 23, [])), (10, (0, 1, 24, []))] : List (Nat × tv_T)), tv_ok ta q.2 (n_v vs q.1) := hk
  obtain ⟨t0, hk⟩ := List.forall_mem_cons.mp hk
  have t0 : tv_ok ta (2, 0, 0, [12]) (n_v vs 0) := t0
  have r0 : ta (v_ad (n_v vs 0)) = some 12 := tv_rg t0
  obtain ⟨t4, hk⟩ := List.forall_mem_cons.mp hk
  have t4 : tv_ok ta (0, 0, 99999256, []) (n_v vs 4) := t4
  have k4 : 0 ≤ v_iv (n_v vs 4) ∧ v_iv (n_v vs 4) ≤ 99999256 := tv_rng t4
  obtain ⟨t5, hk⟩ := List.forall_mem_cons.mp hk
  have t5 : tv_ok ta (2, 0, 0, [12]) (n_v vs 5) := t5
  have r5 : ta (v_ad (n_v vs 5)) = some 12 := tv_rg t5
  obtain ⟨t6, hk⟩ := List.forall_mem_cons.mp hk
  have t6 : tv_ok ta (2, 0, 0, [3]) (n_v vs 6) := t6
  have r6 : ta (v_ad (n_v vs 6)) = some 3 := tv_rg t6
  obtain ⟨t9, hk⟩ := List.forall_mem_cons.mp hk
  have t9 : tv_ok ta (0, 0, 23, []) (n_v vs 9) := t9
  have k9 : 0 ≤ v_iv (n_v vs 9) ∧ v_iv (n_v vs 9) ≤ 23 := tv_rng t9
  obtain ⟨t10, hk⟩ := List.forall_mem_cons.mp hk
  have t10 : tv_ok ta (0, 1, 24, []) (n_v vs 10) := t10
  have k10 : 1 ≤ v_iv (n_v vs 10) ∧ v_iv (n_v vs 10) ≤ 24 := tv_rng t10
  have hds : ∀ q ∈ ([(9, 10, -4294967296, -1)] : List of_T), n_iv vs q.2.1 + q.2.2.1 ≤ n_iv vs q.1 ∧ n_iv vs q.1 ≤ n_iv vs q.2.1 + q.2.2.2 := hds
  obtain ⟨d0, hds⟩ := List.forall_mem_cons.mp hds
  have d0 : v_iv (n_v vs 10) + (-4294967296) ≤ v_iv (n_v vs 9) ∧ v_iv (n_v vs 9) ≤ v_iv (n_v vs 10) + (-1) := d0
  have hf : fc_ok [(7, [9, 10], [2]), (9, [10, 6], [0]), (20, [5, 4, 9], [30, 0, 1, 1, 12, -1, 0, 0, -31, 0, 0]), (24, [0, 5], [])] ta ws vs := hf
  obtain ⟨f0, hf⟩ := fc_un (show (7 : Nat) < 100 from by decide) hf
  have f0 : v_iv (n_v vs 9) < v_iv (n_v vs 10) := f0
  obtain ⟨f1, hf⟩ := fc_un (show (9 : Nat) < 100 from by decide) hf
  have f1 : n_v vs 10 = w_fd ws (v_ad (n_v vs 6)) 0 := f1
  obtain ⟨f2, hf⟩ := fc_un (show (20 : Nat) < 100 from by decide) hf
  have f2 : 1 * w_fi ws (n_v vs 5) 12 + ((-1) * v_iv (n_v vs 4) + ((-31) * v_iv (n_v vs 9) + 0)) ≤ 0 := f2
  obtain ⟨f3, hf⟩ := fc_un (show (24 : Nat) < 100 from by decide) hf
  have f3 : n_v vs 0 = n_v vs 5 := f3
  have q5 : n_v vs 5 = n_v vs 0 := f3.symm
  rw [q5] at f2
  have g1 : v_iv (n_v vs 10) = w_fi ws (n_v vs 6) 0 := congrArg v_iv f1
  have kz_0_12 : 0 ≤ w_fi ws (n_v vs 0) 12 ∧ w_fi ws (n_v vs 0) 12 ≤ 100000000 := tv_rng (th_fd hD hth r0 (g := GG_12) rfl (k := 12) (t := (0, 0, 100000000, [])) rfl rfl)
  have kz_6_0 : 0 ≤ w_fi ws (n_v vs 6) 0 ∧ w_fi ws (n_v vs 6) 0 ≤ 24 := tv_rng (th_fd hD hth r6 (g := GG_3) rfl (k := 0) (t := (0, 0, 24, [])) rfl rfl)
  have kv0 : 0 ≤ w_fi ws (n_v vs 0) 12 ∧ w_fi ws (n_v vs 0) 12 ≤ 100000000 := tv_rng (th_fd hD hth r0 (g := GG_12) rfl (k := 12) (t := (0, 0, 100000000, [])) rfl rfl)
  obtain ⟨x, ex, hx⟩ := iv_ex (ta := ta) (lo := 0) (hi := 99999995) (z := w_fi ws (n_v vs 0) 12) (by omega) (by omega) (by omega) (by omega)
  have ex2 : v_iv (Value.int x) = w_fi ws (n_v vs 0) 12 := ex
  have ex3 : 0 ≤ v_iv (Value.int x) ∧ v_iv (Value.int x) ≤ 99999995 := tv_rng hx
  have e_4 : n_v (vs ++ [Value.int x]) 4 = n_v vs 4 := n_v_old (by rw [hl]; decide)
  have e_5 : n_v (vs ++ [Value.int x]) 5 = n_v vs 5 := n_v_old (by rw [hl]; decide)
  have e_9 : n_v (vs ++ [Value.int x]) 9 = n_v vs 9 := n_v_old (by rw [hl]; decide)
  have e_14 : n_v (vs ++ [Value.int x]) 14 = Value.int x := n_v_new hl
  have nf0 : fc_1 (20, [5, 14], [30, 0, 1, 1, 12, -1, 0, 0]) ws (vs ++ [Value.int x]) := by
    refine ⟨fun n hn => ?_, ?_⟩
    · have hn : n ∈ [5, 14] := hn
      rw [List.length_append, hl]
      simp only [List.mem_cons, List.not_mem_nil, or_false] at hn
      show n < 14 + 1; omega
    · show 1 * w_fi ws (n_v (vs ++ [Value.int x]) 5) 12 + ((-1) * v_iv (n_v (vs ++ [Value.int x]) 14) + 0) ≤ 0
      rw [e_5]
      rw [e_14]
      rw [q5]
      omega
  have nf1 : fc_1 (23, [14, 4, 9], [0, 1, -1, -31]) ws (vs ++ [Value.int x]) := by
    refine ⟨fun n hn => ?_, ?_⟩
    · have hn : n ∈ [14, 4, 9] := hn
      rw [List.length_append, hl]
      simp only [List.mem_cons, List.not_mem_nil, or_false] at hn
      show n < 14 + 1; omega
    · show 1 * v_iv (n_v (vs ++ [Value.int x]) 14) + ((-1) * v_iv (n_v (vs ++ [Value.int x]) 4) + ((-31) * v_iv (n_v (vs ++ [Value.int x]) 9) + 0)) ≤ 0
      rw [e_4]
      rw [e_9]
      rw [e_14]
      omega
  exact ⟨(fun _ h => (by cases h)), [Value.int x], ag_one hx, List.forall_mem_cons.mpr ⟨⟨show (20 : Nat) < 100 from by decide, nf0⟩, List.forall_mem_cons.mpr ⟨⟨show (23 : Nat) < 100 from by decide, nf1⟩, (fun _ h => (by cases h))⟩⟩, (fun _ h => (by cases h))⟩
def o_Ho_writeGroup_at_k5_4 : or_T := (44, 18, [(0, (2, 0, 0, [12])), (4, (0, 0, 99999256, [])), (5, (2, 0, 0, [12])), (9, (0, 0, 23, [])), (10, (0, 1, 24, [])), (14, (0, 0, 99999995, []))], [(23, [14, 4, 9], [0, 1, -1, -31]), (24, [0, 5], []), (20, [5, 14], [30, 5, 1, 1, 12, -1, 0, 0]), (102, [14], [261336857795280739939871698507597986398208, 12012]), (23, [14, 4, 9], [0, 1, -1, -31]), (7, [9, 10], [2])], [], [(0, 0, 99999992, [])], [(20, [5, 18], [30, 0, 1, 1, 12, -1, 0, 0]), (23, [18, 4, 9], [5, 1, -1, -31])], [], [(9, 10, -4294967296, -1)])
theorem oo_Ho_writeGroup_at_k5_4 {kA : Nat → ClassId} : or_ok kA GG o_Ho_writeGroup_at_k5_4 := by
  intro A ta ws vs hD hth hl hk hds hf
  have hl : vs.length = 18 := hl
  have hk : ∀ q ∈ ([(0, (2, 0, 0, [12])), (4, (0, 0, 99999256, [])), (5, (2, 0, 0, [12])), (9, (0, 0, 23, [])), (10, (0, 1, 24, [])), (14, (0, 0, 99999995, []))] : List (Nat × tv_T)), tv_ok ta q.2 (n_v vs q.1) := hk
  obtain ⟨t0, hk⟩ := List.forall_mem_cons.mp hk
  have t0 : tv_ok ta (2, 0, 0, [12]) (n_v vs 0) := t0
  have r0 : ta (v_ad (n_v vs 0)) = some 12 := tv_rg t0
  obtain ⟨t4, hk⟩ := List.forall_mem_cons.mp hk
  have t4 : tv_ok ta (0, 0, 99999256, []) (n_v vs 4) := t4
  have k4 : 0 ≤ v_iv (n_v vs 4) ∧ v_iv (n_v vs 4) ≤ 99999256 := tv_rng t4
  obtain ⟨t5, hk⟩ := List.forall_mem_cons.mp hk
  have t5 : tv_ok ta (2, 0, 0, [12]) (n_v vs 5) := t5
  have r5 : ta (v_ad (n_v vs 5)) = some 12 := tv_rg t5
  obtain ⟨t9, hk⟩ := List.forall_mem_cons.mp hk
  have t9 : tv_ok ta (0, 0, 23, []) (n_v vs 9) := t9
  have k9 : 0 ≤ v_iv (n_v vs 9) ∧ v_iv (n_v vs 9) ≤ 23 := tv_rng t9
  obtain ⟨t10, hk⟩ := List.forall_mem_cons.mp hk
  have t10 : tv_ok ta (0, 1, 24, []) (n_v vs 10) := t10
  have k10 : 1 ≤ v_iv (n_v vs 10) ∧ v_iv (n_v vs 10) ≤ 24 := tv_rng t10
  obtain ⟨t14, hk⟩ := List.forall_mem_cons.mp hk
  have t14 : tv_ok ta (0, 0, 99999995, []) (n_v vs 14) := t14
  have k14 : 0 ≤ v_iv (n_v vs 14) ∧ v_iv (n_v vs 14) ≤ 99999995 := tv_rng t14
  have hds : ∀ q ∈ ([(9, 10, -4294967296, -1)] : List of_T), n_iv vs q.2.1 + q.2.2.1 ≤ n_iv vs q.1 ∧ n_iv vs q.1 ≤ n_iv vs q.2.1 + q.2.2.2 := hds
  obtain ⟨d0, hds⟩ := List.forall_mem_cons.mp hds
  have d0 : v_iv (n_v vs 10) + (-4294967296) ≤ v_iv (n_v vs 9) ∧ v_iv (n_v vs 9) ≤ v_iv (n_v vs 10) + (-1) := d0
  have hf : fc_ok [(23, [14, 4, 9], [0, 1, -1, -31]), (24, [0, 5], []), (20, [5, 14], [30, 5, 1, 1, 12, -1, 0, 0]), (102, [14], [261336857795280739939871698507597986398208, 12012]), (23, [14, 4, 9], [0, 1, -1, -31]), (7, [9, 10], [2])] ta ws vs := hf
  obtain ⟨f0, hf⟩ := fc_un (show (23 : Nat) < 100 from by decide) hf
  have f0 : 1 * v_iv (n_v vs 14) + ((-1) * v_iv (n_v vs 4) + ((-31) * v_iv (n_v vs 9) + 0)) ≤ 0 := f0
  obtain ⟨f1, hf⟩ := fc_un (show (24 : Nat) < 100 from by decide) hf
  have f1 : n_v vs 0 = n_v vs 5 := f1
  obtain ⟨f2, hf⟩ := fc_un (show (20 : Nat) < 100 from by decide) hf
  have f2 : 1 * w_fi ws (n_v vs 5) 12 + ((-1) * v_iv (n_v vs 14) + 0) ≤ 5 := f2
  obtain ⟨ta1, w1, le1, ⟨_, s1⟩, hf⟩ := fc_us (show ¬ (102 : Nat) < 100 from by decide) hf
  obtain ⟨f4, hf⟩ := fc_un (show (23 : Nat) < 100 from by decide) hf
  have f4 : 1 * v_iv (n_v vs 14) + ((-1) * v_iv (n_v vs 4) + ((-31) * v_iv (n_v vs 9) + 0)) ≤ 0 := f4
  obtain ⟨f5, hf⟩ := fc_un (show (7 : Nat) < 100 from by decide) hf
  have f5 : v_iv (n_v vs 9) < v_iv (n_v vs 10) := f5
  have q5 : n_v vs 5 = n_v vs 0 := f1.symm
  rw [q5] at f2
  have kz_0_12 : 0 ≤ w_fi ws (n_v vs 0) 12 ∧ w_fi ws (n_v vs 0) 12 ≤ 100000000 := tv_rng (th_fd hD hth r0 (g := GG_12) rfl (k := 12) (t := (0, 0, 100000000, [])) rfl rfl)
  have kv0 : 0 ≤ w_fi ws (n_v vs 0) 12 ∧ w_fi ws (n_v vs 0) 12 ≤ 100000000 := tv_rng (th_fd hD hth r0 (g := GG_12) rfl (k := 12) (t := (0, 0, 100000000, [])) rfl rfl)
  obtain ⟨x, ex, hx⟩ := iv_ex (ta := ta) (lo := 0) (hi := 99999992) (z := w_fi ws (n_v vs 0) 12) (by omega) (by omega) (by omega) (by omega)
  have ex2 : v_iv (Value.int x) = w_fi ws (n_v vs 0) 12 := ex
  have ex3 : 0 ≤ v_iv (Value.int x) ∧ v_iv (Value.int x) ≤ 99999992 := tv_rng hx
  have e_4 : n_v (vs ++ [Value.int x]) 4 = n_v vs 4 := n_v_old (by rw [hl]; decide)
  have e_5 : n_v (vs ++ [Value.int x]) 5 = n_v vs 5 := n_v_old (by rw [hl]; decide)
  have e_9 : n_v (vs ++ [Value.int x]) 9 = n_v vs 9 := n_v_old (by rw [hl]; decide)
  have e_18 : n_v (vs ++ [Value.int x]) 18 = Value.int x := n_v_new hl
  have nf0 : fc_1 (20, [5, 18], [30, 0, 1, 1, 12, -1, 0, 0]) ws (vs ++ [Value.int x]) := by
    refine ⟨fun n hn => ?_, ?_⟩
    · have hn : n ∈ [5, 18] := hn
      rw [List.length_append, hl]
      simp only [List.mem_cons, List.not_mem_nil, or_false] at hn
      show n < 18 + 1; omega
    · show 1 * w_fi ws (n_v (vs ++ [Value.int x]) 5) 12 + ((-1) * v_iv (n_v (vs ++ [Value.int x]) 18) + 0) ≤ 0
      rw [e_5]
      rw [e_18]
      rw [q5]
      omega
  have nf1 : fc_1 (23, [18, 4, 9], [5, 1, -1, -31]) ws (vs ++ [Value.int x]) := by
    refine ⟨fun n hn => ?_, ?_⟩
    · have hn : n ∈ [18, 4, 9] := hn
      rw [List.length_append, hl]
      simp only [List.mem_cons, List.not_mem_nil, or_false] at hn
      show n < 18 + 1; omega
    · show 1 * v_iv (n_v (vs ++ [Value.int x]) 18) + ((-1) * v_iv (n_v (vs ++ [Value.int x]) 4) + ((-31) * v_iv (n_v (vs ++ [Value.int x]) 9) + 0)) ≤ 5
      rw [e_4]
      rw [e_9]
      rw [e_18]
      omega
  exact ⟨(fun _ h => (by cases h)), [Value.int x], ag_one hx, List.forall_mem_cons.mpr ⟨⟨show (20 : Nat) < 100 from by decide, nf0⟩, List.forall_mem_cons.mpr ⟨⟨show (23 : Nat) < 100 from by decide, nf1⟩, (fun _ h => (by cases h))⟩⟩, (fun _ h => (by cases h))⟩
def o_Ho_writeGroup_at_k5_5 : or_T := (86, 23, [(0, (2, 0, 0, [12])), (4, (0, 0, 99999256, [])), (5, (2, 0, 0, [12])), (9, (0, 0, 23, [])), (10, (0, 1, 24, [])), (14, (0, 0, 99999995, [])), (18, (0, 0, 99999992, []))], [(23, [18, 4, 9], [5, 1, -1, -31]), (23, [14, 4, 9], [0, 1, -1, -31]), (24, [0, 5], []), (20, [5, 18], [30, 8, 1, 1, 12, -1, 0, 0]), (102, [18], [261336857795280739939871698507597986398208, 12012]), (23, [18, 4, 9], [5, 1, -1, -31]), (23, [14, 4, 9], [0, 1, -1, -31]), (102, [14], [261336857795280739939871698507597986398208, 12012]), (23, [14, 4, 9], [0, 1, -1, -31]), (7, [9, 10], [2])], [], [(0, 0, 99999998, [])], [(20, [5, 23], [30, 0, 1, 1, 12, -1, 0, 0]), (23, [23, 4, 9], [29, 1, -1, -31])], [], [(9, 10, -4294967296, -1)])
theorem oo_Ho_writeGroup_at_k5_5 {kA : Nat → ClassId} : or_ok kA GG o_Ho_writeGroup_at_k5_5 := by
  intro A ta ws vs hD hth hl hk hds hf
  have hl : vs.length = 23 := hl
  have hk : ∀ q ∈ ([(0, (2, 0, 0, [12])), (4, (0, 0, 99999256, [])), (5, (2, 0, 0, [12])), (9, (0, 0, 23, [])), (10, (0, 1, 24, [])), (14, (0, 0, 99999995, [])), (18, (0, 0, 99999992, []))] : List (Nat × tv_T)), tv_ok ta q.2 (n_v vs q.1) := hk
  obtain ⟨t0, hk⟩ := List.forall_mem_cons.mp hk
  have t0 : tv_ok ta (2, 0, 0, [12]) (n_v vs 0) := t0
  have r0 : ta (v_ad (n_v vs 0)) = some 12 := tv_rg t0
  obtain ⟨t4, hk⟩ := List.forall_mem_cons.mp hk
  have t4 : tv_ok ta (0, 0, 99999256, []) (n_v vs 4) := t4
  have k4 : 0 ≤ v_iv (n_v vs 4) ∧ v_iv (n_v vs 4) ≤ 99999256 := tv_rng t4
  obtain ⟨t5, hk⟩ := List.forall_mem_cons.mp hk
  have t5 : tv_ok ta (2, 0, 0, [12]) (n_v vs 5) := t5
  have r5 : ta (v_ad (n_v vs 5)) = some 12 := tv_rg t5
  obtain ⟨t9, hk⟩ := List.forall_mem_cons.mp hk
  have t9 : tv_ok ta (0, 0, 23, []) (n_v vs 9) := t9
  have k9 : 0 ≤ v_iv (n_v vs 9) ∧ v_iv (n_v vs 9) ≤ 23 := tv_rng t9
  obtain ⟨t10, hk⟩ := List.forall_mem_cons.mp hk
  have t10 : tv_ok ta (0, 1, 24, []) (n_v vs 10) := t10
  have k10 : 1 ≤ v_iv (n_v vs 10) ∧ v_iv (n_v vs 10) ≤ 24 := tv_rng t10
  obtain ⟨t14, hk⟩ := List.forall_mem_cons.mp hk
  have t14 : tv_ok ta (0, 0, 99999995, []) (n_v vs 14) := t14
  have k14 : 0 ≤ v_iv (n_v vs 14) ∧ v_iv (n_v vs 14) ≤ 99999995 := tv_rng t14
  obtain ⟨t18, hk⟩ := List.forall_mem_cons.mp hk
  have t18 : tv_ok ta (0, 0, 99999992, []) (n_v vs 18) := t18
  have k18 : 0 ≤ v_iv (n_v vs 18) ∧ v_iv (n_v vs 18) ≤ 99999992 := tv_rng t18
  have hds : ∀ q ∈ ([(9, 10, -4294967296, -1)] : List of_T), n_iv vs q.2.1 + q.2.2.1 ≤ n_iv vs q.1 ∧ n_iv vs q.1 ≤ n_iv vs q.2.1 + q.2.2.2 := hds
  obtain ⟨d0, hds⟩ := List.forall_mem_cons.mp hds
  have d0 : v_iv (n_v vs 10) + (-4294967296) ≤ v_iv (n_v vs 9) ∧ v_iv (n_v vs 9) ≤ v_iv (n_v vs 10) + (-1) := d0
  have hf : fc_ok [(23, [18, 4, 9], [5, 1, -1, -31]), (23, [14, 4, 9], [0, 1, -1, -31]), (24, [0, 5], []), (20, [5, 18], [30, 8, 1, 1, 12, -1, 0, 0]), (102, [18], [261336857795280739939871698507597986398208, 12012]), (23, [18, 4, 9], [5, 1, -1, -31]), (23, [14, 4, 9], [0, 1, -1, -31]), (102, [14], [261336857795280739939871698507597986398208, 12012]), (23, [14, 4, 9], [0, 1, -1, -31]), (7, [9, 10], [2])] ta ws vs := hf
  obtain ⟨f0, hf⟩ := fc_un (show (23 : Nat) < 100 from by decide) hf
  have f0 : 1 * v_iv (n_v vs 18) + ((-1) * v_iv (n_v vs 4) + ((-31) * v_iv (n_v vs 9) + 0)) ≤ 5 := f0
  obtain ⟨f1, hf⟩ := fc_un (show (23 : Nat) < 100 from by decide) hf
  have f1 : 1 * v_iv (n_v vs 14) + ((-1) * v_iv (n_v vs 4) + ((-31) * v_iv (n_v vs 9) + 0)) ≤ 0 := f1
  obtain ⟨f2, hf⟩ := fc_un (show (24 : Nat) < 100 from by decide) hf
  have f2 : n_v vs 0 = n_v vs 5 := f2
  obtain ⟨f3, hf⟩ := fc_un (show (20 : Nat) < 100 from by decide) hf
  have f3 : 1 * w_fi ws (n_v vs 5) 12 + ((-1) * v_iv (n_v vs 18) + 0) ≤ 8 := f3
  obtain ⟨ta1, w1, le1, ⟨_, s1⟩, hf⟩ := fc_us (show ¬ (102 : Nat) < 100 from by decide) hf
  obtain ⟨f5, hf⟩ := fc_un (show (23 : Nat) < 100 from by decide) hf
  have f5 : 1 * v_iv (n_v vs 18) + ((-1) * v_iv (n_v vs 4) + ((-31) * v_iv (n_v vs 9) + 0)) ≤ 5 := f5
  obtain ⟨f6, hf⟩ := fc_un (show (23 : Nat) < 100 from by decide) hf
  have f6 : 1 * v_iv (n_v vs 14) + ((-1) * v_iv (n_v vs 4) + ((-31) * v_iv (n_v vs 9) + 0)) ≤ 0 := f6
  obtain ⟨ta2, w2, le2, ⟨_, s2⟩, hf⟩ := fc_us (show ¬ (102 : Nat) < 100 from by decide) hf
  obtain ⟨f8, hf⟩ := fc_un (show (23 : Nat) < 100 from by decide) hf
  have f8 : 1 * v_iv (n_v vs 14) + ((-1) * v_iv (n_v vs 4) + ((-31) * v_iv (n_v vs 9) + 0)) ≤ 0 := f8
  obtain ⟨f9, hf⟩ := fc_un (show (7 : Nat) < 100 from by decide) hf
  have f9 : v_iv (n_v vs 9) < v_iv (n_v vs 10) := f9
  have q5 : n_v vs 5 = n_v vs 0 := f2.symm
  rw [q5] at f3
  have kz_0_12 : 0 ≤ w_fi ws (n_v vs 0) 12 ∧ w_fi ws (n_v vs 0) 12 ≤ 100000000 := tv_rng (th_fd hD hth r0 (g := GG_12) rfl (k := 12) (t := (0, 0, 100000000, [])) rfl rfl)
  have kv0 : 0 ≤ w_fi ws (n_v vs 0) 12 ∧ w_fi ws (n_v vs 0) 12 ≤ 100000000 := tv_rng (th_fd hD hth r0 (g := GG_12) rfl (k := 12) (t := (0, 0, 100000000, [])) rfl rfl)
  obtain ⟨x, ex, hx⟩ := iv_ex (ta := ta) (lo := 0) (hi := 99999998) (z := w_fi ws (n_v vs 0) 12) (by omega) (by omega) (by omega) (by omega)
  have ex2 : v_iv (Value.int x) = w_fi ws (n_v vs 0) 12 := ex
  have ex3 : 0 ≤ v_iv (Value.int x) ∧ v_iv (Value.int x) ≤ 99999998 := tv_rng hx
  have e_4 : n_v (vs ++ [Value.int x]) 4 = n_v vs 4 := n_v_old (by rw [hl]; decide)
  have e_5 : n_v (vs ++ [Value.int x]) 5 = n_v vs 5 := n_v_old (by rw [hl]; decide)
  have e_9 : n_v (vs ++ [Value.int x]) 9 = n_v vs 9 := n_v_old (by rw [hl]; decide)
  have e_23 : n_v (vs ++ [Value.int x]) 23 = Value.int x := n_v_new hl
  have nf0 : fc_1 (20, [5, 23], [30, 0, 1, 1, 12, -1, 0, 0]) ws (vs ++ [Value.int x]) := by
    refine ⟨fun n hn => ?_, ?_⟩
    · have hn : n ∈ [5, 23] := hn
      rw [List.length_append, hl]
      simp only [List.mem_cons, List.not_mem_nil, or_false] at hn
      show n < 23 + 1; omega
    · show 1 * w_fi ws (n_v (vs ++ [Value.int x]) 5) 12 + ((-1) * v_iv (n_v (vs ++ [Value.int x]) 23) + 0) ≤ 0
      rw [e_5]
      rw [e_23]
      rw [q5]
      omega
  have nf1 : fc_1 (23, [23, 4, 9], [29, 1, -1, -31]) ws (vs ++ [Value.int x]) := by
    refine ⟨fun n hn => ?_, ?_⟩
    · have hn : n ∈ [23, 4, 9] := hn
      rw [List.length_append, hl]
      simp only [List.mem_cons, List.not_mem_nil, or_false] at hn
      show n < 23 + 1; omega
    · show 1 * v_iv (n_v (vs ++ [Value.int x]) 23) + ((-1) * v_iv (n_v (vs ++ [Value.int x]) 4) + ((-31) * v_iv (n_v (vs ++ [Value.int x]) 9) + 0)) ≤ 29
      rw [e_4]
      rw [e_9]
      rw [e_23]
      omega
  exact ⟨(fun _ h => (by cases h)), [Value.int x], ag_one hx, List.forall_mem_cons.mpr ⟨⟨show (20 : Nat) < 100 from by decide, nf0⟩, List.forall_mem_cons.mpr ⟨⟨show (23 : Nat) < 100 from by decide, nf1⟩, (fun _ h => (by cases h))⟩⟩, (fun _ h => (by cases h))⟩
def o_Ho_writeGroup_at_k5_6 : or_T := (3, 25, [(0, (2, 0, 0, [12])), (4, (0, 0, 99999256, [])), (5, (2, 0, 0, [12])), (9, (0, 0, 23, [])), (10, (0, 1, 24, [])), (14, (0, 0, 99999995, [])), (18, (0, 0, 99999992, [])), (23, (0, 0, 99999998, [])), (24, (0, 1, 24, []))], [(6, [24, 9], [1]), (23, [23, 4, 9], [29, 1, -1, -31]), (23, [18, 4, 9], [5, 1, -1, -31]), (23, [14, 4, 9], [0, 1, -1, -31]), (24, [0, 5], []), (20, [5, 23], [30, 2, 1, 1, 12, -1, 0, 0]), (102, [23], [261336857795280739939871698507597986398208, 12012]), (23, [23, 4, 9], [29, 1, -1, -31]), (23, [18, 4, 9], [5, 1, -1, -31]), (23, [14, 4, 9], [0, 1, -1, -31]), (102, [18], [261336857795280739939871698507597986398208, 12012]), (23, [18, 4, 9], [5, 1, -1, -31]), (23, [14, 4, 9], [0, 1, -1, -31]), (102, [14], [261336857795280739939871698507597986398208, 12012]), (23, [14, 4, 9], [0, 1, -1, -31]), (7, [9, 10], [2])], [], [], [(20, [5, 4, 24], [30, 0, 1, 1, 12, -1, 0, 0, -31, 0, 0])], [], [(24, 9, 1, 1), (24, 10, -4294967296, 0), (9, 10, -4294967296, -1)])
theorem oo_Ho_writeGroup_at_k5_6 {kA : Nat → ClassId} : or_ok kA GG o_Ho_writeGroup_at_k5_6 := by
  intro A ta ws vs hD hth hl hk hds hf
  have hl : vs.length = 25 := hl
  have hk : ∀ q ∈ ([(0, (2, 0, 0, [12])), (4, (0, 0, 99999256, [])), (5, (2, 0, 0, [12])), (9, (0, 0, 23, [])), (10, (0, 1, 24, [])), (14, (0, 0, 99999995, [])), (18, (0, 0, 99999992, [])), (23, (0, 0, 99999998, [])), (24, (0, 1, 24, []))] : List (Nat × tv_T)), tv_ok ta q.2 (n_v vs q.1) := hk
  obtain ⟨t0, hk⟩ := List.forall_mem_cons.mp hk
  have t0 : tv_ok ta (2, 0, 0, [12]) (n_v vs 0) := t0
  have r0 : ta (v_ad (n_v vs 0)) = some 12 := tv_rg t0
  obtain ⟨t4, hk⟩ := List.forall_mem_cons.mp hk
  have t4 : tv_ok ta (0, 0, 99999256, []) (n_v vs 4) := t4
  have k4 : 0 ≤ v_iv (n_v vs 4) ∧ v_iv (n_v vs 4) ≤ 99999256 := tv_rng t4
  obtain ⟨t5, hk⟩ := List.forall_mem_cons.mp hk
  have t5 : tv_ok ta (2, 0, 0, [12]) (n_v vs 5) := t5
  have r5 : ta (v_ad (n_v vs 5)) = some 12 := tv_rg t5
  obtain ⟨t9, hk⟩ := List.forall_mem_cons.mp hk
  have t9 : tv_ok ta (0, 0, 23, []) (n_v vs 9) := t9
  have k9 : 0 ≤ v_iv (n_v vs 9) ∧ v_iv (n_v vs 9) ≤ 23 := tv_rng t9
  obtain ⟨t10, hk⟩ := List.forall_mem_cons.mp hk
  have t10 : tv_ok ta (0, 1, 24, []) (n_v vs 10) := t10
  have k10 : 1 ≤ v_iv (n_v vs 10) ∧ v_iv (n_v vs 10) ≤ 24 := tv_rng t10
  obtain ⟨t14, hk⟩ := List.forall_mem_cons.mp hk
  have t14 : tv_ok ta (0, 0, 99999995, []) (n_v vs 14) := t14
  have k14 : 0 ≤ v_iv (n_v vs 14) ∧ v_iv (n_v vs 14) ≤ 99999995 := tv_rng t14
  obtain ⟨t18, hk⟩ := List.forall_mem_cons.mp hk
  have t18 : tv_ok ta (0, 0, 99999992, []) (n_v vs 18) := t18
  have k18 : 0 ≤ v_iv (n_v vs 18) ∧ v_iv (n_v vs 18) ≤ 99999992 := tv_rng t18
  obtain ⟨t23, hk⟩ := List.forall_mem_cons.mp hk
  have t23 : tv_ok ta (0, 0, 99999998, []) (n_v vs 23) := t23
  have k23 : 0 ≤ v_iv (n_v vs 23) ∧ v_iv (n_v vs 23) ≤ 99999998 := tv_rng t23
  obtain ⟨t24, hk⟩ := List.forall_mem_cons.mp hk
  have t24 : tv_ok ta (0, 1, 24, []) (n_v vs 24) := t24
  have k24 : 1 ≤ v_iv (n_v vs 24) ∧ v_iv (n_v vs 24) ≤ 24 := tv_rng t24
  have hds : ∀ q ∈ ([(24, 9, 1, 1), (24, 10, -4294967296, 0), (9, 10, -4294967296, -1)] : List of_T), n_iv vs q.2.1 + q.2.2.1 ≤ n_iv vs q.1 ∧ n_iv vs q.1 ≤ n_iv vs q.2.1 + q.2.2.2 := hds
  obtain ⟨d0, hds⟩ := List.forall_mem_cons.mp hds
  have d0 : v_iv (n_v vs 9) + 1 ≤ v_iv (n_v vs 24) ∧ v_iv (n_v vs 24) ≤ v_iv (n_v vs 9) + 1 := d0
  obtain ⟨d1, hds⟩ := List.forall_mem_cons.mp hds
  have d1 : v_iv (n_v vs 10) + (-4294967296) ≤ v_iv (n_v vs 24) ∧ v_iv (n_v vs 24) ≤ v_iv (n_v vs 10) + 0 := d1
  obtain ⟨d2, hds⟩ := List.forall_mem_cons.mp hds
  have d2 : v_iv (n_v vs 10) + (-4294967296) ≤ v_iv (n_v vs 9) ∧ v_iv (n_v vs 9) ≤ v_iv (n_v vs 10) + (-1) := d2
  have hf : fc_ok [(6, [24, 9], [1]), (23, [23, 4, 9], [29, 1, -1, -31]), (23, [18, 4, 9], [5, 1, -1, -31]), (23, [14, 4, 9], [0, 1, -1, -31]), (24, [0, 5], []), (20, [5, 23], [30, 2, 1, 1, 12, -1, 0, 0]), (102, [23], [261336857795280739939871698507597986398208, 12012]), (23, [23, 4, 9], [29, 1, -1, -31]), (23, [18, 4, 9], [5, 1, -1, -31]), (23, [14, 4, 9], [0, 1, -1, -31]), (102, [18], [261336857795280739939871698507597986398208, 12012]), (23, [18, 4, 9], [5, 1, -1, -31]), (23, [14, 4, 9], [0, 1, -1, -31]), (102, [14], [261336857795280739939871698507597986398208, 12012]), (23, [14, 4, 9], [0, 1, -1, -31]), (7, [9, 10], [2])] ta ws vs := hf
  obtain ⟨f0, hf⟩ := fc_un (show (6 : Nat) < 100 from by decide) hf
  have f0 : v_iv (n_v vs 24) = v_iv (n_v vs 9) + 1 := f0
  obtain ⟨f1, hf⟩ := fc_un (show (23 : Nat) < 100 from by decide) hf
  have f1 : 1 * v_iv (n_v vs 23) + ((-1) * v_iv (n_v vs 4) + ((-31) * v_iv (n_v vs 9) + 0)) ≤ 29 := f1
  obtain ⟨f2, hf⟩ := fc_un (show (23 : Nat) < 100 from by decide) hf
  have f2 : 1 * v_iv (n_v vs 18) + ((-1) * v_iv (n_v vs 4) + ((-31) * v_iv (n_v vs 9) + 0)) ≤ 5 := f2
  obtain ⟨f3, hf⟩ := fc_un (show (23 : Nat) < 100 from by decide) hf
  have f3 : 1 * v_iv (n_v vs 14) + ((-1) * v_iv (n_v vs 4) + ((-31) * v_iv (n_v vs 9) + 0)) ≤ 0 := f3
  obtain ⟨f4, hf⟩ := fc_un (show (24 : Nat) < 100 from by decide) hf
  have f4 : n_v vs 0 = n_v vs 5 := f4
  obtain ⟨f5, hf⟩ := fc_un (show (20 : Nat) < 100 from by decide) hf
  have f5 : 1 * w_fi ws (n_v vs 5) 12 + ((-1) * v_iv (n_v vs 23) + 0) ≤ 2 := f5
  obtain ⟨ta1, w1, le1, ⟨_, s1⟩, hf⟩ := fc_us (show ¬ (102 : Nat) < 100 from by decide) hf
  obtain ⟨f7, hf⟩ := fc_un (show (23 : Nat) < 100 from by decide) hf
  have f7 : 1 * v_iv (n_v vs 23) + ((-1) * v_iv (n_v vs 4) + ((-31) * v_iv (n_v vs 9) + 0)) ≤ 29 := f7
  obtain ⟨f8, hf⟩ := fc_un (show (23 : Nat) < 100 from by decide) hf
  have f8 : 1 * v_iv (n_v vs 18) + ((-1) * v_iv (n_v vs 4) + ((-31) * v_iv (n_v vs 9) + 0)) ≤ 5 := f8
  obtain ⟨f9, hf⟩ := fc_un (show (23 : Nat) < 100 from by decide) hf
  have f9 : 1 * v_iv (n_v vs 14) + ((-1) * v_iv (n_v vs 4) + ((-31) * v_iv (n_v vs 9) + 0)) ≤ 0 := f9
  obtain ⟨ta2, w2, le2, ⟨_, s2⟩, hf⟩ := fc_us (show ¬ (102 : Nat) < 100 from by decide) hf
  obtain ⟨f11, hf⟩ := fc_un (show (23 : Nat) < 100 from by decide) hf
  have f11 : 1 * v_iv (n_v vs 18) + ((-1) * v_iv (n_v vs 4) + ((-31) * v_iv (n_v vs 9) + 0)) ≤ 5 := f11
  obtain ⟨f12, hf⟩ := fc_un (show (23 : Nat) < 100 from by decide) hf
  have f12 : 1 * v_iv (n_v vs 14) + ((-1) * v_iv (n_v vs 4) + ((-31) * v_iv (n_v vs 9) + 0)) ≤ 0 := f12
  obtain ⟨ta3, w3, le3, ⟨_, s3⟩, hf⟩ := fc_us (show ¬ (102 : Nat) < 100 from by decide) hf
  obtain ⟨f14, hf⟩ := fc_un (show (23 : Nat) < 100 from by decide) hf
  have f14 : 1 * v_iv (n_v vs 14) + ((-1) * v_iv (n_v vs 4) + ((-31) * v_iv (n_v vs 9) + 0)) ≤ 0 := f14
  obtain ⟨f15, hf⟩ := fc_un (show (7 : Nat) < 100 from by decide) hf
  have f15 : v_iv (n_v vs 9) < v_iv (n_v vs 10) := f15
  have q5 : n_v vs 5 = n_v vs 0 := f4.symm
  rw [q5] at f5
  have kz_0_12 : 0 ≤ w_fi ws (n_v vs 0) 12 ∧ w_fi ws (n_v vs 0) 12 ≤ 100000000 := tv_rng (th_fd hD hth r0 (g := GG_12) rfl (k := 12) (t := (0, 0, 100000000, [])) rfl rfl)
  have nf0 : fc_1 (20, [5, 4, 24], [30, 0, 1, 1, 12, -1, 0, 0, -31, 0, 0]) ws (vs) := by
    refine ⟨fun n hn => ?_, ?_⟩
    · have hn : n ∈ [5, 4, 24] := hn
      rw [hl]
      simp only [List.mem_cons, List.not_mem_nil, or_false] at hn
      show n < 25; omega
    · show 1 * w_fi ws (n_v vs 5) 12 + ((-1) * v_iv (n_v vs 4) + ((-31) * v_iv (n_v vs 24) + 0)) ≤ 0
      rw [q5]
      omega
  refine ⟨(fun _ h => (by cases h)), [], trivial, ?_, (fun _ h => (by cases h))⟩
  rw [List.append_nil]
  exact List.forall_mem_cons.mpr ⟨⟨show (20 : Nat) < 100 from by decide, nf0⟩, (fun _ h => (by cases h))⟩
def o_Ho_writeGroup_at_k5_7 : or_T := (62, 23, [(0, (2, 0, 0, [12])), (4, (0, 0, 99999256, [])), (5, (2, 0, 0, [12])), (9, (0, 0, 23, [])), (10, (0, 1, 24, [])), (14, (0, 0, 99999995, [])), (18, (0, 0, 99999992, []))], [(23, [18, 4, 9], [5, 1, -1, -31]), (23, [14, 4, 9], [0, 1, -1, -31]), (24, [0, 5], []), (20, [5, 18], [30, 8, 1, 1, 12, -1, 0, 0]), (102, [18], [261336857795280739939871698507597986398208, 12012]), (23, [18, 4, 9], [5, 1, -1, -31]), (23, [14, 4, 9], [0, 1, -1, -31]), (102, [14], [261336857795280739939871698507597986398208, 12012]), (23, [14, 4, 9], [0, 1, -1, -31]), (7, [9, 10], [2])], [], [(0, 0, 99999993, [])], [(20, [5, 23], [30, 0, 1, 1, 12, -1, 0, 0]), (23, [23, 4, 9], [13, 1, -1, -31])], [], [(9, 10, -4294967296, -1)])
theorem oo_Ho_writeGroup_at_k5_7 {kA : Nat → ClassId} : or_ok kA GG o_Ho_writeGroup_at_k5_7 := by
  intro A ta ws vs hD hth hl hk hds hf
  have hl : vs.length = 23 := hl
  have hk : ∀ q ∈ ([(0, (2, 0, 0, [12])), (4, (0, 0, 99999256, [])), (5, (2, 0, 0, [12])), (9, (0, 0, 23, [])), (10, (0, 1, 24, [])), (14, (0, 0, 99999995, [])), (18, (0, 0, 99999992, []))] : List (Nat × tv_T)), tv_ok ta q.2 (n_v vs q.1) := hk
  obtain ⟨t0, hk⟩ := List.forall_mem_cons.mp hk
  have t0 : tv_ok ta (2, 0, 0, [12]) (n_v vs 0) := t0
  have r0 : ta (v_ad (n_v vs 0)) = some 12 := tv_rg t0
  obtain ⟨t4, hk⟩ := List.forall_mem_cons.mp hk
  have t4 : tv_ok ta (0, 0, 99999256, []) (n_v vs 4) := t4
  have k4 : 0 ≤ v_iv (n_v vs 4) ∧ v_iv (n_v vs 4) ≤ 99999256 := tv_rng t4
  obtain ⟨t5, hk⟩ := List.forall_mem_cons.mp hk
  have t5 : tv_ok ta (2, 0, 0, [12]) (n_v vs 5) := t5
  have r5 : ta (v_ad (n_v vs 5)) = some 12 := tv_rg t5
  obtain ⟨t9, hk⟩ := List.forall_mem_cons.mp hk
  have t9 : tv_ok ta (0, 0, 23, []) (n_v vs 9) := t9
  have k9 : 0 ≤ v_iv (n_v vs 9) ∧ v_iv (n_v vs 9) ≤ 23 := tv_rng t9
  obtain ⟨t10, hk⟩ := List.forall_mem_cons.mp hk
  have t10 : tv_ok ta (0, 1, 24, []) (n_v vs 10) := t10
  have k10 : 1 ≤ v_iv (n_v vs 10) ∧ v_iv (n_v vs 10) ≤ 24 := tv_rng t10
  obtain ⟨t14, hk⟩ := List.forall_mem_cons.mp hk
  have t14 : tv_ok ta (0, 0, 99999995, []) (n_v vs 14) := t14
  have k14 : 0 ≤ v_iv (n_v vs 14) ∧ v_iv (n_v vs 14) ≤ 99999995 := tv_rng t14
  obtain ⟨t18, hk⟩ := List.forall_mem_cons.mp hk
  have t18 : tv_ok ta (0, 0, 99999992, []) (n_v vs 18) := t18
  have k18 : 0 ≤ v_iv (n_v vs 18) ∧ v_iv (n_v vs 18) ≤ 99999992 := tv_rng t18
  have hds : ∀ q ∈ ([(9, 10, -4294967296, -1)] : List of_T), n_iv vs q.2.1 + q.2.2.1 ≤ n_iv vs q.1 ∧ n_iv vs q.1 ≤ n_iv vs q.2.1 + q.2.2.2 := hds
  obtain ⟨d0, hds⟩ := List.forall_mem_cons.mp hds
  have d0 : v_iv (n_v vs 10) + (-4294967296) ≤ v_iv (n_v vs 9) ∧ v_iv (n_v vs 9) ≤ v_iv (n_v vs 10) + (-1) := d0
  have hf : fc_ok [(23, [18, 4, 9], [5, 1, -1, -31]), (23, [14, 4, 9], [0, 1, -1, -31]), (24, [0, 5], []), (20, [5, 18], [30, 8, 1, 1, 12, -1, 0, 0]), (102, [18], [261336857795280739939871698507597986398208, 12012]), (23, [18, 4, 9], [5, 1, -1, -31]), (23, [14, 4, 9], [0, 1, -1, -31]), (102, [14], [261336857795280739939871698507597986398208, 12012]), (23, [14, 4, 9], [0, 1, -1, -31]), (7, [9, 10], [2])] ta ws vs := hf
  obtain ⟨f0, hf⟩ := fc_un (show (23 : Nat) < 100 from by decide) hf
  have f0 : 1 * v_iv (n_v vs 18) + ((-1) * v_iv (n_v vs 4) + ((-31) * v_iv (n_v vs 9) + 0)) ≤ 5 := f0
  obtain ⟨f1, hf⟩ := fc_un (show (23 : Nat) < 100 from by decide) hf
  have f1 : 1 * v_iv (n_v vs 14) + ((-1) * v_iv (n_v vs 4) + ((-31) * v_iv (n_v vs 9) + 0)) ≤ 0 := f1
  obtain ⟨f2, hf⟩ := fc_un (show (24 : Nat) < 100 from by decide) hf
  have f2 : n_v vs 0 = n_v vs 5 := f2
  obtain ⟨f3, hf⟩ := fc_un (show (20 : Nat) < 100 from by decide) hf
  have f3 : 1 * w_fi ws (n_v vs 5) 12 + ((-1) * v_iv (n_v vs 18) + 0) ≤ 8 := f3
  obtain ⟨ta1, w1, le1, ⟨_, s1⟩, hf⟩ := fc_us (show ¬ (102 : Nat) < 100 from by decide) hf
  obtain ⟨f5, hf⟩ := fc_un (show (23 : Nat) < 100 from by decide) hf
  have f5 : 1 * v_iv (n_v vs 18) + ((-1) * v_iv (n_v vs 4) + ((-31) * v_iv (n_v vs 9) + 0)) ≤ 5 := f5
  obtain ⟨f6, hf⟩ := fc_un (show (23 : Nat) < 100 from by decide) hf
  have f6 : 1 * v_iv (n_v vs 14) + ((-1) * v_iv (n_v vs 4) + ((-31) * v_iv (n_v vs 9) + 0)) ≤ 0 := f6
  obtain ⟨ta2, w2, le2, ⟨_, s2⟩, hf⟩ := fc_us (show ¬ (102 : Nat) < 100 from by decide) hf
  obtain ⟨f8, hf⟩ := fc_un (show (23 : Nat) < 100 from by decide) hf
  have f8 : 1 * v_iv (n_v vs 14) + ((-1) * v_iv (n_v vs 4) + ((-31) * v_iv (n_v vs 9) + 0)) ≤ 0 := f8
  obtain ⟨f9, hf⟩ := fc_un (show (7 : Nat) < 100 from by decide) hf
  have f9 : v_iv (n_v vs 9) < v_iv (n_v vs 10) := f9
  have q5 : n_v vs 5 = n_v vs 0 := f2.symm
  rw [q5] at f3
  have kz_0_12 : 0 ≤ w_fi ws (n_v vs 0) 12 ∧ w_fi ws (n_v vs 0) 12 ≤ 100000000 := tv_rng (th_fd hD hth r0 (g := GG_12) rfl (k := 12) (t := (0, 0, 100000000, [])) rfl rfl)
  have kv0 : 0 ≤ w_fi ws (n_v vs 0) 12 ∧ w_fi ws (n_v vs 0) 12 ≤ 100000000 := tv_rng (th_fd hD hth r0 (g := GG_12) rfl (k := 12) (t := (0, 0, 100000000, [])) rfl rfl)
  obtain ⟨x, ex, hx⟩ := iv_ex (ta := ta) (lo := 0) (hi := 99999993) (z := w_fi ws (n_v vs 0) 12) (by omega) (by omega) (by omega) (by omega)
  have ex2 : v_iv (Value.int x) = w_fi ws (n_v vs 0) 12 := ex
  have ex3 : 0 ≤ v_iv (Value.int x) ∧ v_iv (Value.int x) ≤ 99999993 := tv_rng hx
  have e_4 : n_v (vs ++ [Value.int x]) 4 = n_v vs 4 := n_v_old (by rw [hl]; decide)
  have e_5 : n_v (vs ++ [Value.int x]) 5 = n_v vs 5 := n_v_old (by rw [hl]; decide)
  have e_9 : n_v (vs ++ [Value.int x]) 9 = n_v vs 9 := n_v_old (by rw [hl]; decide)
  have e_23 : n_v (vs ++ [Value.int x]) 23 = Value.int x := n_v_new hl
  have nf0 : fc_1 (20, [5, 23], [30, 0, 1, 1, 12, -1, 0, 0]) ws (vs ++ [Value.int x]) := by
    refine ⟨fun n hn => ?_, ?_⟩
    · have hn : n ∈ [5, 23] := hn
      rw [List.length_append, hl]
      simp only [List.mem_cons, List.not_mem_nil, or_false] at hn
      show n < 23 + 1; omega
    · show 1 * w_fi ws (n_v (vs ++ [Value.int x]) 5) 12 + ((-1) * v_iv (n_v (vs ++ [Value.int x]) 23) + 0) ≤ 0
      rw [e_5]
      rw [e_23]
      rw [q5]
      omega
  have nf1 : fc_1 (23, [23, 4, 9], [13, 1, -1, -31]) ws (vs ++ [Value.int x]) := by
    refine ⟨fun n hn => ?_, ?_⟩
    · have hn : n ∈ [23, 4, 9] := hn
      rw [List.length_append, hl]
      simp only [List.mem_cons, List.not_mem_nil, or_false] at hn
      show n < 23 + 1; omega
    · show 1 * v_iv (n_v (vs ++ [Value.int x]) 23) + ((-1) * v_iv (n_v (vs ++ [Value.int x]) 4) + ((-31) * v_iv (n_v (vs ++ [Value.int x]) 9) + 0)) ≤ 13
      rw [e_4]
      rw [e_9]
      rw [e_23]
      omega
  exact ⟨(fun _ h => (by cases h)), [Value.int x], ag_one hx, List.forall_mem_cons.mpr ⟨⟨show (20 : Nat) < 100 from by decide, nf0⟩, List.forall_mem_cons.mpr ⟨⟨show (23 : Nat) < 100 from by decide, nf1⟩, (fun _ h => (by cases h))⟩⟩, (fun _ h => (by cases h))⟩
def o_Ho_writeGroup_at_k5_8 : or_T := (73, 25, [(0, (2, 0, 0, [12])), (4, (0, 0, 99999256, [])), (5, (2, 0, 0, [12])), (9, (0, 0, 23, [])), (10, (0, 1, 24, [])), (14, (0, 0, 99999995, [])), (18, (0, 0, 99999992, [])), (23, (0, 0, 99999993, []))], [(23, [23, 4, 9], [13, 1, -1, -31]), (23, [18, 4, 9], [5, 1, -1, -31]), (23, [14, 4, 9], [0, 1, -1, -31]), (24, [0, 5], []), (20, [5, 23], [30, 7, 1, 1, 12, -1, 0, 0]), (102, [23], [261336857795280739939871698507597986398208, 12012]), (23, [23, 4, 9], [13, 1, -1, -31]), (23, [18, 4, 9], [5, 1, -1, -31]), (23, [14, 4, 9], [0, 1, -1, -31]), (102, [18], [261336857795280739939871698507597986398208, 12012]), (23, [18, 4, 9], [5, 1, -1, -31]), (23, [14, 4, 9], [0, 1, -1, -31]), (102, [14], [261336857795280739939871698507597986398208, 12012]), (23, [14, 4, 9], [0, 1, -1, -31]), (7, [9, 10], [2])], [], [(0, 0, 99999992, [])], [(20, [5, 25], [30, 0, 1, 1, 12, -1, 0, 0]), (23, [25, 4, 9], [20, 1, -1, -31])], [], [(9, 10, -4294967296, -1)])
theorem oo_Ho_writeGroup_at_k5_8 {kA : Nat → ClassId} : or_ok kA GG o_Ho_writeGroup_at_k5_8 := by
  intro A ta ws vs hD hth hl hk hds hf
  have hl : vs.length = 25 := hl
  have hk : ∀ q ∈ ([(0, (2, 0, 0, [12])), (4, (0, 0, 99999256, [])), (5, (2, 0, 0, [12])), (9, (0, 0, 23, [])), (10, (0, 1, 24, [])), (14, (0, 0, 99999995, [])), (18, (0, 0, 99999992, [])), (23, (0, 0, 99999993, []))] : List (Nat × tv_T)), tv_ok ta q.2 (n_v vs q.1) := hk
  obtain ⟨t0, hk⟩ := List.forall_mem_cons.mp hk
  have t0 : tv_ok ta (2, 0, 0, [12]) (n_v vs 0) := t0
  have r0 : ta (v_ad (n_v vs 0)) = some 12 := tv_rg t0
  obtain ⟨t4, hk⟩ := List.forall_mem_cons.mp hk
  have t4 : tv_ok ta (0, 0, 99999256, []) (n_v vs 4) := t4
  have k4 : 0 ≤ v_iv (n_v vs 4) ∧ v_iv (n_v vs 4) ≤ 99999256 := tv_rng t4
  obtain ⟨t5, hk⟩ := List.forall_mem_cons.mp hk
  have t5 : tv_ok ta (2, 0, 0, [12]) (n_v vs 5) := t5
  have r5 : ta (v_ad (n_v vs 5)) = some 12 := tv_rg t5
  obtain ⟨t9, hk⟩ := List.forall_mem_cons.mp hk
  have t9 : tv_ok ta (0, 0, 23, []) (n_v vs 9) := t9
  have k9 : 0 ≤ v_iv (n_v vs 9) ∧ v_iv (n_v vs 9) ≤ 23 := tv_rng t9
  obtain ⟨t10, hk⟩ := List.forall_mem_cons.mp hk
  have t10 : tv_ok ta (0, 1, 24, []) (n_v vs 10) := t10
  have k10 : 1 ≤ v_iv (n_v vs 10) ∧ v_iv (n_v vs 10) ≤ 24 := tv_rng t10
  obtain ⟨t14, hk⟩ := List.forall_mem_cons.mp hk
  have t14 : tv_ok ta (0, 0, 99999995, []) (n_v vs 14) := t14
  have k14 : 0 ≤ v_iv (n_v vs 14) ∧ v_iv (n_v vs 14) ≤ 99999995 := tv_rng t14
  obtain ⟨t18, hk⟩ := List.forall_mem_cons.mp hk
  have t18 : tv_ok ta (0, 0, 99999992, []) (n_v vs 18) := t18
  have k18 : 0 ≤ v_iv (n_v vs 18) ∧ v_iv (n_v vs 18) ≤ 99999992 := tv_rng t18
  obtain ⟨t23, hk⟩ := List.forall_mem_cons.mp hk
  have t23 : tv_ok ta (0, 0, 99999993, []) (n_v vs 23) := t23
  have k23 : 0 ≤ v_iv (n_v vs 23) ∧ v_iv (n_v vs 23) ≤ 99999993 := tv_rng t23
  have hds : ∀ q ∈ ([(9, 10, -4294967296, -1)] : List of_T), n_iv vs q.2.1 + q.2.2.1 ≤ n_iv vs q.1 ∧ n_iv vs q.1 ≤ n_iv vs q.2.1 + q.2.2.2 := hds
  obtain ⟨d0, hds⟩ := List.forall_mem_cons.mp hds
  have d0 : v_iv (n_v vs 10) + (-4294967296) ≤ v_iv (n_v vs 9) ∧ v_iv (n_v vs 9) ≤ v_iv (n_v vs 10) + (-1) := d0
  have hf : fc_ok [(23, [23, 4, 9], [13, 1, -1, -31]), (23, [18, 4, 9], [5, 1, -1, -31]), (23, [14, 4, 9], [0, 1, -1, -31]), (24, [0, 5], []), (20, [5, 23], [30, 7, 1, 1, 12, -1, 0, 0]), (102, [23], [261336857795280739939871698507597986398208, 12012]), (23, [23, 4, 9], [13, 1, -1, -31]), (23, [18, 4, 9], [5, 1, -1, -31]), (23, [14, 4, 9], [0, 1, -1, -31]), (102, [18], [261336857795280739939871698507597986398208, 12012]), (23, [18, 4, 9], [5, 1, -1, -31]), (23, [14, 4, 9], [0, 1, -1, -31]), (102, [14], [261336857795280739939871698507597986398208, 12012]), (23, [14, 4, 9], [0, 1, -1, -31]), (7, [9, 10], [2])] ta ws vs := hf
  obtain ⟨f0, hf⟩ := fc_un (show (23 : Nat) < 100 from by decide) hf
  have f0 : 1 * v_iv (n_v vs 23) + ((-1) * v_iv (n_v vs 4) + ((-31) * v_iv (n_v vs 9) + 0)) ≤ 13 := f0
  obtain ⟨f1, hf⟩ := fc_un (show (23 : Nat) < 100 from by decide) hf
  have f1 : 1 * v_iv (n_v vs 18) + ((-1) * v_iv (n_v vs 4) + ((-31) * v_iv (n_v vs 9) + 0)) ≤ 5 := f1
  obtain ⟨f2, hf⟩ := fc_un (show (23 : Nat) < 100 from by decide) hf
  have f2 : 1 * v_iv (n_v vs 14) + ((-1) * v_iv (n_v vs 4) + ((-31) * v_iv (n_v vs 9) + 0)) ≤ 0 := f2
  obtain ⟨f3, hf⟩ := fc_un (show (24 : Nat) < 100 from by decide) hf
  have f3 : n_v vs 0 = n_v vs 5 := f3
  obtain ⟨f4, hf⟩ := fc_un (show (20 : Nat) < 100 from by decide) hf
  have f4 : 1 * w_fi ws (n_v vs 5) 12 + ((-1) * v_iv (n_v vs 23) + 0) ≤ 7 := f4
  obtain ⟨ta1, w1, le1, ⟨_, s1⟩, hf⟩ := fc_us (show ¬ (102 : Nat) < 100 from by decide) hf
  obtain ⟨f6, hf⟩ := fc_un (show (23 : Nat) < 100 from by decide) hf
  have f6 : 1 * v_iv (n_v vs 23) + ((-1) * v_iv (n_v vs 4) + ((-31) * v_iv (n_v vs 9) + 0)) ≤ 13 := f6
  obtain ⟨f7, hf⟩ := fc_un (show (23 : Nat) < 100 from by decide) hf
  have f7 : 1 * v_iv (n_v vs 18) + ((-1) * v_iv (n_v vs 4) + ((-31) * v_iv (n_v vs 9) + 0)) ≤ 5 := f7
  obtain ⟨f8, hf⟩ := fc_un (show (23 : Nat) < 100 from by decide) hf
  have f8 : 1 * v_iv (n_v vs 14) + ((-1) * v_iv (n_v vs 4) + ((-31) * v_iv (n_v vs 9) + 0)) ≤ 0 := f8
  obtain ⟨ta2, w2, le2, ⟨_, s2⟩, hf⟩ := fc_us (show ¬ (102 : Nat) < 100 from by decide) hf
  obtain ⟨f10, hf⟩ := fc_un (show (23 : Nat) < 100 from by decide) hf
  have f10 : 1 * v_iv (n_v vs 18) + ((-1) * v_iv (n_v vs 4) + ((-31) * v_iv (n_v vs 9) + 0)) ≤ 5 := f10
  obtain ⟨f11, hf⟩ := fc_un (show (23 : Nat) < 100 from by decide) hf
  have f11 : 1 * v_iv (n_v vs 14) + ((-1) * v_iv (n_v vs 4) + ((-31) * v_iv (n_v vs 9) + 0)) ≤ 0 := f11
  obtain ⟨ta3, w3, le3, ⟨_, s3⟩, hf⟩ := fc_us (show ¬ (102 : Nat) < 100 from by decide) hf
  obtain ⟨f13, hf⟩ := fc_un (show (23 : Nat) < 100 from by decide) hf
  have f13 : 1 * v_iv (n_v vs 14) + ((-1) * v_iv (n_v vs 4) + ((-31) * v_iv (n_v vs 9) + 0)) ≤ 0 := f13
  obtain ⟨f14, hf⟩ := fc_un (show (7 : Nat) < 100 from by decide) hf
  have f14 : v_iv (n_v vs 9) < v_iv (n_v vs 10) := f14
  have q5 : n_v vs 5 = n_v vs 0 := f3.symm
  rw [q5] at f4
  have kz_0_12 : 0 ≤ w_fi ws (n_v vs 0) 12 ∧ w_fi ws (n_v vs 0) 12 ≤ 100000000 := tv_rng (th_fd hD hth r0 (g := GG_12) rfl (k := 12) (t := (0, 0, 100000000, [])) rfl rfl)
  have kv0 : 0 ≤ w_fi ws (n_v vs 0) 12 ∧ w_fi ws (n_v vs 0) 12 ≤ 100000000 := tv_rng (th_fd hD hth r0 (g := GG_12) rfl (k := 12) (t := (0, 0, 100000000, [])) rfl rfl)
  obtain ⟨x, ex, hx⟩ := iv_ex (ta := ta) (lo := 0) (hi := 99999992) (z := w_fi ws (n_v vs 0) 12) (by omega) (by omega) (by omega) (by omega)
  have ex2 : v_iv (Value.int x) = w_fi ws (n_v vs 0) 12 := ex
  have ex3 : 0 ≤ v_iv (Value.int x) ∧ v_iv (Value.int x) ≤ 99999992 := tv_rng hx
  have e_4 : n_v (vs ++ [Value.int x]) 4 = n_v vs 4 := n_v_old (by rw [hl]; decide)
  have e_5 : n_v (vs ++ [Value.int x]) 5 = n_v vs 5 := n_v_old (by rw [hl]; decide)
  have e_9 : n_v (vs ++ [Value.int x]) 9 = n_v vs 9 := n_v_old (by rw [hl]; decide)
  have e_25 : n_v (vs ++ [Value.int x]) 25 = Value.int x := n_v_new hl
  have nf0 : fc_1 (20, [5, 25], [30, 0, 1, 1, 12, -1, 0, 0]) ws (vs ++ [Value.int x]) := by
    refine ⟨fun n hn => ?_, ?_⟩
    · have hn : n ∈ [5, 25] := hn
      rw [List.length_append, hl]
      simp only [List.mem_cons, List.not_mem_nil, or_false] at hn
      show n < 25 + 1; omega
    · show 1 * w_fi ws (n_v (vs ++ [Value.int x]) 5) 12 + ((-1) * v_iv (n_v (vs ++ [Value.int x]) 25) + 0) ≤ 0
      rw [e_5]
      rw [e_25]
      rw [q5]
      omega
  have nf1 : fc_1 (23, [25, 4, 9], [20, 1, -1, -31]) ws (vs ++ [Value.int x]) := by
    refine ⟨fun n hn => ?_, ?_⟩
    · have hn : n ∈ [25, 4, 9] := hn
      rw [List.length_append, hl]
      simp only [List.mem_cons, List.not_mem_nil, or_false] at hn
      show n < 25 + 1; omega
    · show 1 * v_iv (n_v (vs ++ [Value.int x]) 25) + ((-1) * v_iv (n_v (vs ++ [Value.int x]) 4) + ((-31) * v_iv (n_v (vs ++ [Value.int x]) 9) + 0)) ≤ 20
      rw [e_4]
      rw [e_9]
      rw [e_25]
      omega
  exact ⟨(fun _ h => (by cases h)), [Value.int x], ag_one hx, List.forall_mem_cons.mpr ⟨⟨show (20 : Nat) < 100 from by decide, nf0⟩, List.forall_mem_cons.mpr ⟨⟨show (23 : Nat) < 100 from by decide, nf1⟩, (fun _ h => (by cases h))⟩⟩, (fun _ h => (by cases h))⟩
def o_Ho_writeGroup_at_k5_9 : or_T := (79, 27, [(0, (2, 0, 0, [12])), (4, (0, 0, 99999256, [])), (5, (2, 0, 0, [12])), (9, (0, 0, 23, [])), (10, (0, 1, 24, [])), (14, (0, 0, 99999995, [])), (18, (0, 0, 99999992, [])), (23, (0, 0, 99999993, [])), (25, (0, 0, 99999992, []))], [(23, [25, 4, 9], [20, 1, -1, -31]), (23, [23, 4, 9], [13, 1, -1, -31]), (23, [18, 4, 9], [5, 1, -1, -31]), (23, [14, 4, 9], [0, 1, -1, -31]), (24, [0, 5], []), (20, [5, 25], [30, 8, 1, 1, 12, -1, 0, 0]), (102, [25], [261336857795280739939871698507597986398208, 12012]), (23, [25, 4, 9], [20, 1, -1, -31]), (23, [23, 4, 9], [13, 1, -1, -31]), (23, [18, 4, 9], [5, 1, -1, -31]), (23, [14, 4, 9], [0, 1, -1, -31]), (102, [23], [261336857795280739939871698507597986398208, 12012]), (23, [23, 4, 9], [13, 1, -1, -31]), (23, [18, 4, 9], [5, 1, -1, -31]), (23, [14, 4, 9], [0, 1, -1, -31]), (102, [18], [261336857795280739939871698507597986398208, 12012]), (23, [18, 4, 9], [5, 1, -1, -31]), (23, [14, 4, 9], [0, 1, -1, -31]), (102, [14], [261336857795280739939871698507597986398208, 12012]), (23, [14, 4, 9], [0, 1, -1, -31]), (7, [9, 10], [2])], [], [(0, 0, 99999999, [])], [(20, [5, 27], [30, 0, 1, 1, 12, -1, 0, 0]), (23, [27, 4, 9], [28, 1, -1, -31])], [], [(9, 10, -4294967296, -1)])
theorem oo_Ho_writeGroup_at_k5_9 {kA : Nat → ClassId} : or_ok kA GG o_Ho_writeGroup_at_k5_9 := by
  intro A ta ws vs hD hth hl hk hds hf
  have hl : vs.length = 27 := hl
  have hk : ∀ q ∈ ([(0, (2, 0, 0, [12])), (4, (0, 0, 99999256, [])), (5, (2, 0, 0, [12])), (9, (0, 0, 23, [])), (10, (0, 1, 24, [])), (14, (0, 0, 99999995, [])), (18, (0, 0, 99999992, [])), (23, (0, 0, 99999993, [])), (25, (0, 0, 99999992, []))] : List (Nat × tv_T)), tv_ok ta q.2 (n_v vs q.1) := hk
  obtain ⟨t0, hk⟩ := List.forall_mem_cons.mp hk
  have t0 : tv_ok ta (2, 0, 0, [12]) (n_v vs 0) := t0
  have r0 : ta (v_ad (n_v vs 0)) = some 12 := tv_rg t0
  obtain ⟨t4, hk⟩ := List.forall_mem_cons.mp hk
  have t4 : tv_ok ta (0, 0, 99999256, []) (n_v vs 4) := t4
  have k4 : 0 ≤ v_iv (n_v vs 4) ∧ v_iv (n_v vs 4) ≤ 99999256 := tv_rng t4
  obtain ⟨t5, hk⟩ := List.forall_mem_cons.mp hk
  have t5 : tv_ok ta (2, 0, 0, [12]) (n_v vs 5) := t5
  have r5 : ta (v_ad (n_v vs 5)) = some 12 := tv_rg t5
  obtain ⟨t9, hk⟩ := List.forall_mem_cons.mp hk
  have t9 : tv_ok ta (0, 0, 23, []) (n_v vs 9) := t9
  have k9 : 0 ≤ v_iv (n_v vs 9) ∧ v_iv (n_v vs 9) ≤ 23 := tv_rng t9
  obtain ⟨t10, hk⟩ := List.forall_mem_cons.mp hk
  have t10 : tv_ok ta (0, 1, 24, []) (n_v vs 10) := t10
  have k10 : 1 ≤ v_iv (n_v vs 10) ∧ v_iv (n_v vs 10) ≤ 24 := tv_rng t10
  obtain ⟨t14, hk⟩ := List.forall_mem_cons.mp hk
  have t14 : tv_ok ta (0, 0, 99999995, []) (n_v vs 14) := t14
  have k14 : 0 ≤ v_iv (n_v vs 14) ∧ v_iv (n_v vs 14) ≤ 99999995 := tv_rng t14
  obtain ⟨t18, hk⟩ := List.forall_mem_cons.mp hk
  have t18 : tv_ok ta (0, 0, 99999992, []) (n_v vs 18) := t18
  have k18 : 0 ≤ v_iv (n_v vs 18) ∧ v_iv (n_v vs 18) ≤ 99999992 := tv_rng t18
  obtain ⟨t23, hk⟩ := List.forall_mem_cons.mp hk
  have t23 : tv_ok ta (0, 0, 99999993, []) (n_v vs 23) := t23
  have k23 : 0 ≤ v_iv (n_v vs 23) ∧ v_iv (n_v vs 23) ≤ 99999993 := tv_rng t23
  obtain ⟨t25, hk⟩ := List.forall_mem_cons.mp hk
  have t25 : tv_ok ta (0, 0, 99999992, []) (n_v vs 25) := t25
  have k25 : 0 ≤ v_iv (n_v vs 25) ∧ v_iv (n_v vs 25) ≤ 99999992 := tv_rng t25
  have hds : ∀ q ∈ ([(9, 10, -4294967296, -1)] : List of_T), n_iv vs q.2.1 + q.2.2.1 ≤ n_iv vs q.1 ∧ n_iv vs q.1 ≤ n_iv vs q.2.1 + q.2.2.2 := hds
  obtain ⟨d0, hds⟩ := List.forall_mem_cons.mp hds
  have d0 : v_iv (n_v vs 10) + (-4294967296) ≤ v_iv (n_v vs 9) ∧ v_iv (n_v vs 9) ≤ v_iv (n_v vs 10) + (-1) := d0
  have hf : fc_ok [(23, [25, 4, 9], [20, 1, -1, -31]), (23, [23, 4, 9], [13, 1, -1, -31]), (23, [18, 4, 9], [5, 1, -1, -31]), (23, [14, 4, 9], [0, 1, -1, -31]), (24, [0, 5], []), (20, [5, 25], [30, 8, 1, 1, 12, -1, 0, 0]), (102, [25], [261336857795280739939871698507597986398208, 12012]), (23, [25, 4, 9], [20, 1, -1, -31]), (23, [23, 4, 9], [13, 1, -1, -31]), (23, [18, 4, 9], [5, 1, -1, -31]), (23, [14, 4, 9], [0, 1, -1, -31]), (102, [23], [261336857795280739939871698507597986398208, 12012]), (23, [23, 4, 9], [13, 1, -1, -31]), (23, [18, 4, 9], [5, 1, -1, -31]), (23, [14, 4, 9], [0, 1, -1, -31]), (102, [18], [261336857795280739939871698507597986398208, 12012]), (23, [18, 4, 9], [5, 1, -1, -31]), (23, [14, 4, 9], [0, 1, -1, -31]), (102, [14], [261336857795280739939871698507597986398208, 12012]), (23, [14, 4, 9], [0, 1, -1, -31]), (7, [9, 10], [2])] ta ws vs := hf
  obtain ⟨f0, hf⟩ := fc_un (show (23 : Nat) < 100 from by decide) hf
  have f0 : 1 * v_iv (n_v vs 25) + ((-1) * v_iv (n_v vs 4) + ((-31) * v_iv (n_v vs 9) + 0)) ≤ 20 := f0
  obtain ⟨f1, hf⟩ := fc_un (show (23 : Nat) < 100 from by decide) hf
  have f1 : 1 * v_iv (n_v vs 23) + ((-1) * v_iv (n_v vs 4) + ((-31) * v_iv (n_v vs 9) + 0)) ≤ 13 := f1
  obtain ⟨f2, hf⟩ := fc_un (show (23 : Nat) < 100 from by decide) hf
  have f2 : 1 * v_iv (n_v vs 18) + ((-1) * v_iv (n_v vs 4) + ((-31) * v_iv (n_v vs 9) + 0)) ≤ 5 := f2
  obtain ⟨f3, hf⟩ := fc_un (show (23 : Nat) < 100 from by decide) hf
  have f3 : 1 * v_iv (n_v vs 14) + ((-1) * v_iv (n_v vs 4) + ((-31) * v_iv (n_v vs 9) + 0)) ≤ 0 := f3
  obtain ⟨f4, hf⟩ := fc_un (show (24 : Nat) < 100 from by decide) hf
  have f4 : n_v vs 0 = n_v vs 5 := f4
  obtain ⟨f5, hf⟩ := fc_un (show (20 : Nat) < 100 from by decide) hf
  have f5 : 1 * w_fi ws (n_v vs 5) 12 + ((-1) * v_iv (n_v vs 25) + 0) ≤ 8 := f5
  obtain ⟨ta1, w1, le1, ⟨_, s1⟩, hf⟩ := fc_us (show ¬ (102 : Nat) < 100 from by decide) hf
  obtain ⟨f7, hf⟩ := fc_un (show (23 : Nat) < 100 from by decide) hf
  have f7 : 1 * v_iv (n_v vs 25) + ((-1) * v_iv (n_v vs 4) + ((-31) * v_iv (n_v vs 9) + 0)) ≤ 20 := f7
  obtain ⟨f8, hf⟩ := fc_un (show (23 : Nat) < 100 from by decide) hf
  have f8 : 1 * v_iv (n_v vs 23) + ((-1) * v_iv (n_v vs 4) + ((-31) * v_iv (n_v vs 9) + 0)) ≤ 13 := f8
  obtain ⟨f9, hf⟩ := fc_un (show (23 : Nat) < 100 from by decide) hf
  have f9 : 1 * v_iv (n_v vs 18) + ((-1) * v_iv (n_v vs 4) + ((-31) * v_iv (n_v vs 9) + 0)) ≤ 5 := f9
  obtain ⟨f10, hf⟩ := fc_un (show (23 : Nat) < 100 from by decide) hf
  have f10 : 1 * v_iv (n_v vs 14) + ((-1) * v_iv (n_v vs 4) + ((-31) * v_iv (n_v vs 9) + 0)) ≤ 0 := f10
  obtain ⟨ta2, w2, le2, ⟨_, s2⟩, hf⟩ := fc_us (show ¬ (102 : Nat) < 100 from by decide) hf
  obtain ⟨f12, hf⟩ := fc_un (show (23 : Nat) < 100 from by decide) hf
  have f12 : 1 * v_iv (n_v vs 23) + ((-1) * v_iv (n_v vs 4) + ((-31) * v_iv (n_v vs 9) + 0)) ≤ 13 := f12
  obtain ⟨f13, hf⟩ := fc_un (show (23 : Nat) < 100 from by decide) hf
  have f13 : 1 * v_iv (n_v vs 18) + ((-1) * v_iv (n_v vs 4) + ((-31) * v_iv (n_v vs 9) + 0)) ≤ 5 := f13
  obtain ⟨f14, hf⟩ := fc_un (show (23 : Nat) < 100 from by decide) hf
  have f14 : 1 * v_iv (n_v vs 14) + ((-1) * v_iv (n_v vs 4) + ((-31) * v_iv (n_v vs 9) + 0)) ≤ 0 := f14
  obtain ⟨ta3, w3, le3, ⟨_, s3⟩, hf⟩ := fc_us (show ¬ (102 : Nat) < 100 from by decide) hf
  obtain ⟨f16, hf⟩ := fc_un (show (23 : Nat) < 100 from by decide) hf
  have f16 : 1 * v_iv (n_v vs 18) + ((-1) * v_iv (n_v vs 4) + ((-31) * v_iv (n_v vs 9) + 0)) ≤ 5 := f16
  obtain ⟨f17, hf⟩ := fc_un (show (23 : Nat) < 100 from by decide) hf
  have f17 : 1 * v_iv (n_v vs 14) + ((-1) * v_iv (n_v vs 4) + ((-31) * v_iv (n_v vs 9) + 0)) ≤ 0 := f17
  obtain ⟨ta4, w4, le4, ⟨_, s4⟩, hf⟩ := fc_us (show ¬ (102 : Nat) < 100 from by decide) hf
  obtain ⟨f19, hf⟩ := fc_un (show (23 : Nat) < 100 from by decide) hf
  have f19 : 1 * v_iv (n_v vs 14) + ((-1) * v_iv (n_v vs 4) + ((-31) * v_iv (n_v vs 9) + 0)) ≤ 0 := f19
  obtain ⟨f20, hf⟩ := fc_un (show (7 : Nat) < 100 from by decide) hf
  have f20 : v_iv (n_v vs 9) < v_iv (n_v vs 10) := f20
  have q5 : n_v vs 5 = n_v vs 0 := f4.symm
  rw [q5] at f5
  have kz_0_12 : 0 ≤ w_fi ws (n_v vs 0) 12 ∧ w_fi ws (n_v vs 0) 12 ≤ 100000000 := tv_rng (th_fd hD hth r0 (g := GG_12) rfl (k := 12) (t := (0, 0, 100000000, [])) rfl rfl)
  have kv0 : 0 ≤ w_fi ws (n_v vs 0) 12 ∧ w_fi ws (n_v vs 0) 12 ≤ 100000000 := tv_rng (th_fd hD hth r0 (g := GG_12) rfl (k := 12) (t := (0, 0, 100000000, [])) rfl rfl)
  obtain ⟨x, ex, hx⟩ := iv_ex (ta := ta) (lo := 0) (hi := 99999999) (z := w_fi ws (n_v vs 0) 12) (by omega) (by omega) (by omega) (by omega)
  have ex2 : v_iv (Value.int x) = w_fi ws (n_v vs 0) 12 := ex
  have ex3 : 0 ≤ v_iv (Value.int x) ∧ v_iv (Value.int x) ≤ 99999999 := tv_rng hx
  have e_4 : n_v (vs ++ [Value.int x]) 4 = n_v vs 4 := n_v_old (by rw [hl]; decide)
  have e_5 : n_v (vs ++ [Value.int x]) 5 = n_v vs 5 := n_v_old (by rw [hl]; decide)
  have e_9 : n_v (vs ++ [Value.int x]) 9 = n_v vs 9 := n_v_old (by rw [hl]; decide)
  have e_27 : n_v (vs ++ [Value.int x]) 27 = Value.int x := n_v_new hl
  have nf0 : fc_1 (20, [5, 27], [30, 0, 1, 1, 12, -1, 0, 0]) ws (vs ++ [Value.int x]) := by
    refine ⟨fun n hn => ?_, ?_⟩
    · have hn : n ∈ [5, 27] := hn
      rw [List.length_append, hl]
      simp only [List.mem_cons, List.not_mem_nil, or_false] at hn
      show n < 27 + 1; omega
    · show 1 * w_fi ws (n_v (vs ++ [Value.int x]) 5) 12 + ((-1) * v_iv (n_v (vs ++ [Value.int x]) 27) + 0) ≤ 0
      rw [e_5]
      rw [e_27]
      rw [q5]
      omega
  have nf1 : fc_1 (23, [27, 4, 9], [28, 1, -1, -31]) ws (vs ++ [Value.int x]) := by
    refine ⟨fun n hn => ?_, ?_⟩
    · have hn : n ∈ [27, 4, 9] := hn
      rw [List.length_append, hl]
      simp only [List.mem_cons, List.not_mem_nil, or_false] at hn
      show n < 27 + 1; omega
    · show 1 * v_iv (n_v (vs ++ [Value.int x]) 27) + ((-1) * v_iv (n_v (vs ++ [Value.int x]) 4) + ((-31) * v_iv (n_v (vs ++ [Value.int x]) 9) + 0)) ≤ 28
      rw [e_4]
      rw [e_9]
      rw [e_27]
      omega
  exact ⟨(fun _ h => (by cases h)), [Value.int x], ag_one hx, List.forall_mem_cons.mpr ⟨⟨show (20 : Nat) < 100 from by decide, nf0⟩, List.forall_mem_cons.mpr ⟨⟨show (23 : Nat) < 100 from by decide, nf1⟩, (fun _ h => (by cases h))⟩⟩, (fun _ h => (by cases h))⟩
def o_Ho_writeGroup_at_k5_10 : or_T := (86, 29, [(0, (2, 0, 0, [12])), (4, (0, 0, 99999256, [])), (5, (2, 0, 0, [12])), (9, (0, 0, 23, [])), (10, (0, 1, 24, [])), (14, (0, 0, 99999995, [])), (18, (0, 0, 99999992, [])), (23, (0, 0, 99999993, [])), (25, (0, 0, 99999992, [])), (27, (0, 0, 99999999, []))], [(23, [27, 4, 9], [28, 1, -1, -31]), (23, [25, 4, 9], [20, 1, -1, -31]), (23, [23, 4, 9], [13, 1, -1, -31]), (23, [18, 4, 9], [5, 1, -1, -31]), (23, [14, 4, 9], [0, 1, -1, -31]), (24, [0, 5], []), (20, [5, 27], [30, 1, 1, 1, 12, -1, 0, 0]), (102, [27], [261336857795280739939871698507597986398208, 12012]), (23, [27, 4, 9], [28, 1, -1, -31]), (23, [25, 4, 9], [20, 1, -1, -31]), (23, [23, 4, 9], [13, 1, -1, -31]), (23, [18, 4, 9], [5, 1, -1, -31]), (23, [14, 4, 9], [0, 1, -1, -31]), (102, [25], [261336857795280739939871698507597986398208, 12012]), (23, [25, 4, 9], [20, 1, -1, -31]), (23, [23, 4, 9], [13, 1, -1, -31]), (23, [18, 4, 9], [5, 1, -1, -31]), (23, [14, 4, 9], [0, 1, -1, -31]), (102, [23], [261336857795280739939871698507597986398208, 12012]), (23, [23, 4, 9], [13, 1, -1, -31]), (23, [18, 4, 9], [5, 1, -1, -31]), (23, [14, 4, 9], [0, 1, -1, -31]), (102, [18], [261336857795280739939871698507597986398208, 12012]), (23, [18, 4, 9], [5, 1, -1, -31]), (23, [14, 4, 9], [0, 1, -1, -31]), (102, [14], [261336857795280739939871698507597986398208, 12012]), (23, [14, 4, 9], [0, 1, -1, -31]), (7, [9, 10], [2])], [], [(0, 0, 99999998, [])], [(20, [5, 29], [30, 0, 1, 1, 12, -1, 0, 0]), (23, [29, 4, 9], [29, 1, -1, -31])], [], [(9, 10, -4294967296, -1)])
theorem oo_Ho_writeGroup_at_k5_10 {kA : Nat → ClassId} : or_ok kA GG o_Ho_writeGroup_at_k5_10 := by
  intro A ta ws vs hD hth hl hk hds hf
  have hl : vs.length = 29 := hl
  have hk : ∀ q ∈ ([(0, (2, 0, 0, [12])), (4, (0, 0, 99999256, [])), (5, (2, 0, 0, [12])), (9, (0, 0, 23, [])), (10, (0, 1, 24, [])), (14, (0, 0, 99999995, [])), (18, (0, 0, 99999992, [])), (23, (0, 0, 99999993, [])), (25, (0, 0, 99999992, [])), (27, (0, 0, 99999999, []))] : List (Nat × tv_T)), tv_ok ta q.2 (n_v vs q.1) := hk
  obtain ⟨t0, hk⟩ := List.forall_mem_cons.mp hk
  have t0 : tv_ok ta (2, 0, 0, [12]) (n_v vs 0) := t0
  have r0 : ta (v_ad (n_v vs 0)) = some 12 := tv_rg t0
  obtain ⟨t4, hk⟩ := List.forall_mem_cons.mp hk
  have t4 : tv_ok ta (0, 0, 99999256, []) (n_v vs 4) := t4
  have k4 : 0 ≤ v_iv (n_v vs 4) ∧ v_iv (n_v vs 4) ≤ 99999256 := tv_rng t4
  obtain ⟨t5, hk⟩ := List.forall_mem_cons.mp hk
  have t5 : tv_ok ta (2, 0, 0, [12]) (n_v vs 5) := t5
  have r5 : ta (v_ad (n_v vs 5)) = some 12 := tv_rg t5
  obtain ⟨t9, hk⟩ := List.forall_mem_cons.mp hk
  have t9 : tv_ok ta (0, 0, 23, []) (n_v vs 9) := t9
  have k9 : 0 ≤ v_iv (n_v vs 9) ∧ v_iv (n_v vs 9) ≤ 23 := tv_rng t9
  obtain ⟨t10, hk⟩ := List.forall_mem_cons.mp hk
  have t10 : tv_ok ta (0, 1, 24, []) (n_v vs 10) := t10
  have k10 : 1 ≤ v_iv (n_v vs 10) ∧ v_iv (n_v vs 10) ≤ 24 := tv_rng t10
  obtain ⟨t14, hk⟩ := List.forall_mem_cons.mp hk
  have t14 : tv_ok ta (0, 0, 99999995, []) (n_v vs 14) := t14
  have k14 : 0 ≤ v_iv (n_v vs 14) ∧ v_iv (n_v vs 14) ≤ 99999995 := tv_rng t14
  obtain ⟨t18, hk⟩ := List.forall_mem_cons.mp hk
  have t18 : tv_ok ta (0, 0, 99999992, []) (n_v vs 18) := t18
  have k18 : 0 ≤ v_iv (n_v vs 18) ∧ v_iv (n_v vs 18) ≤ 99999992 := tv_rng t18
  obtain ⟨t23, hk⟩ := List.forall_mem_cons.mp hk
  have t23 : tv_ok ta (0, 0, 99999993, []) (n_v vs 23) := t23
  have k23 : 0 ≤ v_iv (n_v vs 23) ∧ v_iv (n_v vs 23) ≤ 99999993 := tv_rng t23
  obtain ⟨t25, hk⟩ := List.forall_mem_cons.mp hk
  have t25 : tv_ok ta (0, 0, 99999992, []) (n_v vs 25) := t25
  have k25 : 0 ≤ v_iv (n_v vs 25) ∧ v_iv (n_v vs 25) ≤ 99999992 := tv_rng t25
  obtain ⟨t27, hk⟩ := List.forall_mem_cons.mp hk
  have t27 : tv_ok ta (0, 0, 99999999, []) (n_v vs 27) := t27
  have k27 : 0 ≤ v_iv (n_v vs 27) ∧ v_iv (n_v vs 27) ≤ 99999999 := tv_rng t27
  have hds : ∀ q ∈ ([(9, 10, -4294967296, -1)] : List of_T), n_iv vs q.2.1 + q.2.2.1 ≤ n_iv vs q.1 ∧ n_iv vs q.1 ≤ n_iv vs q.2.1 + q.2.2.2 := hds
  obtain ⟨d0, hds⟩ := List.forall_mem_cons.mp hds
  have d0 : v_iv (n_v vs 10) + (-4294967296) ≤ v_iv (n_v vs 9) ∧ v_iv (n_v vs 9) ≤ v_iv (n_v vs 10) + (-1) := d0
  have hf : fc_ok [(23, [27, 4, 9], [28, 1, -1, -31]), (23, [25, 4, 9], [20, 1, -1, -31]), (23, [23, 4, 9], [13, 1, -1, -31]), (23, [18, 4, 9], [5, 1, -1, -31]), (23, [14, 4, 9], [0, 1, -1, -31]), (24, [0, 5], []), (20, [5, 27], [30, 1, 1, 1, 12, -1, 0, 0]), (102, [27], [261336857795280739939871698507597986398208, 12012]), (23, [27, 4, 9], [28, 1, -1, -31]), (23, [25, 4, 9], [20, 1, -1, -31]), (23, [23, 4, 9], [13, 1, -1, -31]), (23, [18, 4, 9], [5, 1, -1, -31]), (23, [14, 4, 9], [0, 1, -1, -31]), (102, [25], [261336857795280739939871698507597986398208, 12012]), (23, [25, 4, 9], [20, 1, -1, -31]), (23, [23, 4, 9], [13, 1, -1, -31]), (23, [18, 4, 9], [5, 1, -1, -31]), (23, [14, 4, 9], [0, 1, -1, -31]), (102, [23], [261336857795280739939871698507597986398208, 12012]), (23, [23, 4, 9], [13, 1, -1, -31]), (23, [18, 4, 9], [5, 1, -1, -31]), (23, [14, 4, 9], [0, 1, -1, -31]), (102, [18], [261336857795280739939871698507597986398208, 12012]), (23, [18, 4, 9], [5, 1, -1, -31]), (23, [14, 4, 9], [0, 1, -1, -31]), (102, [14], [261336857795280739939871698507597986398208, 12012]), (23, [14, 4, 9], [0, 1, -1, -31]), (7, [9, 10], [2])] ta ws vs := hf
  obtain ⟨f0, hf⟩ := fc_un (show (23 : Nat) < 100 from by decide) hf
  have f0 : 1 * v_iv (n_v vs 27) + ((-1) * v_iv (n_v vs 4) + ((-31) * v_iv (n_v vs 9) + 0)) ≤ 28 := f0
  obtain ⟨f1, hf⟩ := fc_un (show (23 : Nat) < 100 from by decide) hf
  have f1 : 1 * v_iv (n_v vs 25) + ((-1) * v_iv (n_v vs 4) + ((-31) * v_iv (n_v vs 9) + 0)) ≤ 20 := f1
  obtain ⟨f2, hf⟩ := fc_un (show (23 : Nat) < 100 from by decide) hf
  have f2 : 1 * v_iv (n_v vs 23) + ((-1) * v_iv (n_v vs 4) + ((-31) * v_iv (n_v vs 9) + 0)) ≤ 13 := f2
  obtain ⟨f3, hf⟩ := fc_un (show (23 : Nat) < 100 from by decide) hf
  have f3 : 1 * v_iv (n_v vs 18) + ((-1) * v_iv (n_v vs 4) + ((-31) * v_iv (n_v vs 9) + 0)) ≤ 5 := f3
  obtain ⟨f4, hf⟩ := fc_un (show (23 : Nat) < 100 from by decide) hf
  have f4 : 1 * v_iv (n_v vs 14) + ((-1) * v_iv (n_v vs 4) + ((-31) * v_iv (n_v vs 9) + 0)) ≤ 0 := f4
  obtain ⟨f5, hf⟩ := fc_un (show (24 : Nat) < 100 from by decide) hf
  have f5 : n_v vs 0 = n_v vs 5 := f5
  obtain ⟨f6, hf⟩ := fc_un (show (20 : Nat) < 100 from by decide) hf
  have f6 : 1 * w_fi ws (n_v vs 5) 12 + ((-1) * v_iv (n_v vs 27) + 0) ≤ 1 := f6
  obtain ⟨ta1, w1, le1, ⟨_, s1⟩, hf⟩ := fc_us (show ¬ (102 : Nat) < 100 from by decide) hf
  obtain ⟨f8, hf⟩ := fc_un (show (23 : Nat) < 100 from by decide) hf
  have f8 : 1 * v_iv (n_v vs 27) + ((-1) * v_iv (n_v vs 4) + ((-31) * v_iv (n_v vs 9) + 0)) ≤ 28 := f8
  obtain ⟨f9, hf⟩ := fc_un (show (23 : Nat) < 100 from by decide) hf
  have f9 : 1 * v_iv (n_v vs 25) + ((-1) * v_iv (n_v vs 4) + ((-31) * v_iv (n_v vs 9) + 0)) ≤ 20 := f9
  obtain ⟨f10, hf⟩ := fc_un (show (23 : Nat) < 100 from by decide) hf
  have f10 : 1 * v_iv (n_v vs 23) + ((-1) * v_iv (n_v vs 4) + ((-31) * v_iv (n_v vs 9) + 0)) ≤ 13 := f10
  obtain ⟨f11, hf⟩ := fc_un (show (23 : Nat) < 100 from by decide) hf
  have f11 : 1 * v_iv (n_v vs 18) + ((-1) * v_iv (n_v vs 4) + ((-31) * v_iv (n_v vs 9) + 0)) ≤ 5 := f11
  obtain ⟨f12, hf⟩ := fc_un (show (23 : Nat) < 100 from by decide) hf
  have f12 : 1 * v_iv (n_v vs 14) + ((-1) * v_iv (n_v vs 4) + ((-31) * v_iv (n_v vs 9) + 0)) ≤ 0 := f12
  obtain ⟨ta2, w2, le2, ⟨_, s2⟩, hf⟩ := fc_us (show ¬ (102 : Nat) < 100 from by decide) hf
  obtain ⟨f14, hf⟩ := fc_un (show (23 : Nat) < 100 from by decide) hf
  have f14 : 1 * v_iv (n_v vs 25) + ((-1) * v_iv (n_v vs 4) + ((-31) * v_iv (n_v vs 9) + 0)) ≤ 20 := f14
  obtain ⟨f15, hf⟩ := fc_un (show (23 : Nat) < 100 from by decide) hf
  have f15 : 1 * v_iv (n_v vs 23) + ((-1) * v_iv (n_v vs 4) + ((-31) * v_iv (n_v vs 9) + 0)) ≤ 13 := f15
  obtain ⟨f16, hf⟩ := fc_un (show (23 : Nat) < 100 from by decide) hf
  have f16 : 1 * v_iv (n_v vs 18) + ((-1) * v_iv (n_v vs 4) + ((-31) * v_iv (n_v vs 9) + 0)) ≤ 5 := f16
  obtain ⟨f17, hf⟩ := fc_un (show (23 : Nat) < 100 from by decide) hf
  have f17 : 1 * v_iv (n_v vs 14) + ((-1) * v_iv (n_v vs 4) + ((-31) * v_iv (n_v vs 9) + 0)) ≤ 0 := f17
  obtain ⟨ta3, w3, le3, ⟨_, s3⟩, hf⟩ := fc_us (show ¬ (102 : Nat) < 100 from by decide) hf
  obtain ⟨f19, hf⟩ := fc_un (show (23 : Nat) < 100 from by decide) hf
  have f19 : 1 * v_iv (n_v vs 23) + ((-1) * v_iv (n_v vs 4) + ((-31) * v_iv (n_v vs 9) + 0)) ≤ 13 := f19
  obtain ⟨f20, hf⟩ := fc_un (show (23 : Nat) < 100 from by decide) hf
  have f20 : 1 * v_iv (n_v vs 18) + ((-1) * v_iv (n_v vs 4) + ((-31) * v_iv (n_v vs 9) + 0)) ≤ 5 := f20
  obtain ⟨f21, hf⟩ := fc_un (show (23 : Nat) < 100 from by decide) hf
  have f21 : 1 * v_iv (n_v vs 14) + ((-1) * v_iv (n_v vs 4) + ((-31) * v_iv (n_v vs 9) + 0)) ≤ 0 := f21
  obtain ⟨ta4, w4, le4, ⟨_, s4⟩, hf⟩ := fc_us (show ¬ (102 : Nat) < 100 from by decide) hf
  obtain ⟨f23, hf⟩ := fc_un (show (23 : Nat) < 100 from by decide) hf
  have f23 : 1 * v_iv (n_v vs 18) + ((-1) * v_iv (n_v vs 4) + ((-31) * v_iv (n_v vs 9) + 0)) ≤ 5 := f23
  obtain ⟨f24, hf⟩ := fc_un (show (23 : Nat) < 100 from by decide) hf
  have f24 : 1 * v_iv (n_v vs 14) + ((-1) * v_iv (n_v vs 4) + ((-31) * v_iv (n_v vs 9) + 0)) ≤ 0 := f24
  obtain ⟨ta5, w5, le5, ⟨_, s5⟩, hf⟩ := fc_us (show ¬ (102 : Nat) < 100 from by decide) hf
  obtain ⟨f26, hf⟩ := fc_un (show (23 : Nat) < 100 from by decide) hf
  have f26 : 1 * v_iv (n_v vs 14) + ((-1) * v_iv (n_v vs 4) + ((-31) * v_iv (n_v vs 9) + 0)) ≤ 0 := f26
  obtain ⟨f27, hf⟩ := fc_un (show (7 : Nat) < 100 from by decide) hf
  have f27 : v_iv (n_v vs 9) < v_iv (n_v vs 10) := f27
  have q5 : n_v vs 5 = n_v vs 0 := f5.symm
  rw [q5] at f6
  have kz_0_12 : 0 ≤ w_fi ws (n_v vs 0) 12 ∧ w_fi ws (n_v vs 0) 12 ≤ 100000000 := tv_rng (th_fd hD hth r0 (g := GG_12) rfl (k := 12) (t := (0, 0, 100000000, [])) rfl rfl)
  have kv0 : 0 ≤ w_fi ws (n_v vs 0) 12 ∧ w_fi ws (n_v vs 0) 12 ≤ 100000000 := tv_rng (th_fd hD hth r0 (g := GG_12) rfl (k := 12) (t := (0, 0, 100000000, [])) rfl rfl)
  obtain ⟨x, ex, hx⟩ := iv_ex (ta := ta) (lo := 0) (hi := 99999998) (z := w_fi ws (n_v vs 0) 12) (by omega) (by omega) (by omega) (by omega)
  have ex2 : v_iv (Value.int x) = w_fi ws (n_v vs 0) 12 := ex
  have ex3 : 0 ≤ v_iv (Value.int x) ∧ v_iv (Value.int x) ≤ 99999998 := tv_rng hx
  have e_4 : n_v (vs ++ [Value.int x]) 4 = n_v vs 4 := n_v_old (by rw [hl]; decide)
  have e_5 : n_v (vs ++ [Value.int x]) 5 = n_v vs 5 := n_v_old (by rw [hl]; decide)
  have e_9 : n_v (vs ++ [Value.int x]) 9 = n_v vs 9 := n_v_old (by rw [hl]; decide)
  have e_29 : n_v (vs ++ [Value.int x]) 29 = Value.int x := n_v_new hl
  have nf0 : fc_1 (20, [5, 29], [30, 0, 1, 1, 12, -1, 0, 0]) ws (vs ++ [Value.int x]) := by
    refine ⟨fun n hn => ?_, ?_⟩
    · have hn : n ∈ [5, 29] := hn
      rw [List.length_append, hl]
      simp only [List.mem_cons, List.not_mem_nil, or_false] at hn
      show n < 29 + 1; omega
    · show 1 * w_fi ws (n_v (vs ++ [Value.int x]) 5) 12 + ((-1) * v_iv (n_v (vs ++ [Value.int x]) 29) + 0) ≤ 0
      rw [e_5]
      rw [e_29]
      rw [q5]
      omega
  have nf1 : fc_1 (23, [29, 4, 9], [29, 1, -1, -31]) ws (vs ++ [Value.int x]) := by
    refine ⟨fun n hn => ?_, ?_⟩
    · have hn : n ∈ [29, 4, 9] := hn
      rw [List.length_append, hl]
      simp only [List.mem_cons, List.not_mem_nil, or_false] at hn
      show n < 29 + 1; omega
    · show 1 * v_iv (n_v (vs ++ [Value.int x]) 29) + ((-1) * v_iv (n_v (vs ++ [Value.int x]) 4) + ((-31) * v_iv (n_v (vs ++ [Value.int x]) 9) + 0)) ≤ 29
      rw [e_4]
      rw [e_9]
      rw [e_29]
      omega
  exact ⟨(fun _ h => (by cases h)), [Value.int x], ag_one hx, List.forall_mem_cons.mpr ⟨⟨show (20 : Nat) < 100 from by decide, nf0⟩, List.forall_mem_cons.mpr ⟨⟨show (23 : Nat) < 100 from by decide, nf1⟩, (fun _ h => (by cases h))⟩⟩, (fun _ h => (by cases h))⟩
def o_Ho_writeGroup_at_k5_11 : or_T := (3, 31, [(0, (2, 0, 0, [12])), (4, (0, 0, 99999256, [])), (5, (2, 0, 0, [12])), (9, (0, 0, 23, [])), (10, (0, 1, 24, [])), (14, (0, 0, 99999995, [])), (18, (0, 0, 99999992, [])), (23, (0, 0, 99999993, [])), (25, (0, 0, 99999992, [])), (27, (0, 0, 99999999, [])), (29, (0, 0, 99999998, [])), (30, (0, 1, 24, []))], [(6, [30, 9], [1]), (23, [29, 4, 9], [29, 1, -1, -31]), (23, [27, 4, 9], [28, 1, -1, -31]), (23, [25, 4, 9], [20, 1, -1, -31]), (23, [23, 4, 9], [13, 1, -1, -31]), (23, [18, 4, 9], [5, 1, -1, -31]), (23, [14, 4, 9], [0, 1, -1, -31]), (24, [0, 5], []), (20, [5, 29], [30, 2, 1, 1, 12, -1, 0, 0]), (102, [29], [261336857795280739939871698507597986398208, 12012]), (23, [29, 4, 9], [29, 1, -1, -31]), (23, [27, 4, 9], [28, 1, -1, -31]), (23, [25, 4, 9], [20, 1, -1, -31]), (23, [23, 4, 9], [13, 1, -1, -31]), (23, [18, 4, 9], [5, 1, -1, -31]), (23, [14, 4, 9], [0, 1, -1, -31]), (102, [27], [261336857795280739939871698507597986398208, 12012]), (23, [27, 4, 9], [28, 1, -1, -31]), (23, [25, 4, 9], [20, 1, -1, -31]), (23, [23, 4, 9], [13, 1, -1, -31]), (23, [18, 4, 9], [5, 1, -1, -31]), (23, [14, 4, 9], [0, 1, -1, -31]), (102, [25], [261336857795280739939871698507597986398208, 12012]), (23, [25, 4, 9], [20, 1, -1, -31]), (23, [23, 4, 9], [13, 1, -1, -31]), (23, [18, 4, 9], [5, 1, -1, -31]), (23, [14, 4, 9], [0, 1, -1, -31]), (102, [23], [261336857795280739939871698507597986398208, 12012]), (23, [23, 4, 9], [13, 1, -1, -31]), (23, [18, 4, 9], [5, 1, -1, -31]), (23, [14, 4, 9], [0, 1, -1, -31]), (102, [18], [261336857795280739939871698507597986398208, 12012]), (23, [18, 4, 9], [5, 1, -1, -31]), (23, [14, 4, 9], [0, 1, -1, -31]), (102, [14], [261336857795280739939871698507597986398208, 12012]), (23, [14, 4, 9], [0, 1, -1, -31]), (7, [9, 10], [2])], [], [], [(20, [5, 4, 30], [30, 0, 1, 1, 12, -1, 0, 0, -31, 0, 0])], [], [(30, 9, 1, 1), (30, 10, -4294967296, 0), (9, 10, -4294967296, -1)])
theorem oo_Ho_writeGroup_at_k5_11 {kA : Nat → ClassId} : or_ok kA GG o_Ho_writeGroup_at_k5_11 := by
  intro A ta ws vs hD hth hl hk hds hf
  have hl : vs.length = 31 := hl
  have hk : ∀ q ∈ ([(0, (2, 0, 0, [12])), (4, (0, 0, 99999256, [])), (5, (2, 0, 0, [12])), (9, (0, 0, 23, [])), (10, (0, 1, 24, [])), (14, (0, 0, 99999995, [])), (18, (0, 0, 99999992, [])), (23, (0, 0, 99999993, [])), (25, (0, 0, 99999992, [])), (27, (0, 0, 99999999, [])), (29, (0, 0, 99999998, [])), (30, (0, 1, 24, []))] : List (Nat × tv_T)), tv_ok ta q.2 (n_v vs q.1) := hk
  obtain ⟨t0, hk⟩ := List.forall_mem_cons.mp hk
  have t0 : tv_ok ta (2, 0, 0, [12]) (n_v vs 0) := t0
  have r0 : ta (v_ad (n_v vs 0)) = some 12 := tv_rg t0
  obtain ⟨t4, hk⟩ := List.forall_mem_cons.mp hk
  have t4 : tv_ok ta (0, 0, 99999256, []) (n_v vs 4) := t4
  have k4 : 0 ≤ v_iv (n_v vs 4) ∧ v_iv (n_v vs 4) ≤ 99999256 := tv_rng t4
  obtain ⟨t5, hk⟩ := List.forall_mem_cons.mp hk
  have t5 : tv_ok ta (2, 0, 0, [12]) (n_v vs 5) := t5
  have r5 : ta (v_ad (n_v vs 5)) = some 12 := tv_rg t5
  obtain ⟨t9, hk⟩ := List.forall_mem_cons.mp hk
  have t9 : tv_ok ta (0, 0, 23, []) (n_v vs 9) := t9
  have k9 : 0 ≤ v_iv (n_v vs 9) ∧ v_iv (n_v vs 9) ≤ 23 := tv_rng t9
  obtain ⟨t10, hk⟩ := List.forall_mem_cons.mp hk
  have t10 : tv_ok ta (0, 1, 24, []) (n_v vs 10) := t10
  have k10 : 1 ≤ v_iv (n_v vs 10) ∧ v_iv (n_v vs 10) ≤ 24 := tv_rng t10
  obtain ⟨t14, hk⟩ := List.forall_mem_cons.mp hk
  have t14 : tv_ok ta (0, 0, 99999995, []) (n_v vs 14) := t14
  have k14 : 0 ≤ v_iv (n_v vs 14) ∧ v_iv (n_v vs 14) ≤ 99999995 := tv_rng t14
  obtain ⟨t18, hk⟩ := List.forall_mem_cons.mp hk
  have t18 : tv_ok ta (0, 0, 99999992, []) (n_v vs 18) := t18
  have k18 : 0 ≤ v_iv (n_v vs 18) ∧ v_iv (n_v vs 18) ≤ 99999992 := tv_rng t18
  obtain ⟨t23, hk⟩ := List.forall_mem_cons.mp hk
  have t23 : tv_ok ta (0, 0, 99999993, []) (n_v vs 23) := t23
  have k23 : 0 ≤ v_iv (n_v vs 23) ∧ v_iv (n_v vs 23) ≤ 99999993 := tv_rng t23
  obtain ⟨t25, hk⟩ := List.forall_mem_cons.mp hk
  have t25 : tv_ok ta (0, 0, 99999992, []) (n_v vs 25) := t25
  have k25 : 0 ≤ v_iv (n_v vs 25) ∧ v_iv (n_v vs 25) ≤ 99999992 := tv_rng t25
  obtain ⟨t27, hk⟩ := List.forall_mem_cons.mp hk
  have t27 : tv_ok ta (0, 0, 99999999, []) (n_v vs 27) := t27
  have k27 : 0 ≤ v_iv (n_v vs 27) ∧ v_iv (n_v vs 27) ≤ 99999999 := tv_rng t27
  obtain ⟨t29, hk⟩ := List.forall_mem_cons.mp hk
  have t29 : tv_ok ta (0, 0, 99999998, []) (n_v vs 29) := t29
  have k29 : 0 ≤ v_iv (n_v vs 29) ∧ v_iv (n_v vs 29) ≤ 99999998 := tv_rng t29
  obtain ⟨t30, hk⟩ := List.forall_mem_cons.mp hk
  have t30 : tv_ok ta (0, 1, 24, []) (n_v vs 30) := t30
  have k30 : 1 ≤ v_iv (n_v vs 30) ∧ v_iv (n_v vs 30) ≤ 24 := tv_rng t30
  have hds : ∀ q ∈ ([(30, 9, 1, 1), (30, 10, -4294967296, 0), (9, 10, -4294967296, -1)] : List of_T), n_iv vs q.2.1 + q.2.2.1 ≤ n_iv vs q.1 ∧ n_iv vs q.1 ≤ n_iv vs q.2.1 + q.2.2.2 := hds
  obtain ⟨d0, hds⟩ := List.forall_mem_cons.mp hds
  have d0 : v_iv (n_v vs 9) + 1 ≤ v_iv (n_v vs 30) ∧ v_iv (n_v vs 30) ≤ v_iv (n_v vs 9) + 1 := d0
  obtain ⟨d1, hds⟩ := List.forall_mem_cons.mp hds
  have d1 : v_iv (n_v vs 10) + (-4294967296) ≤ v_iv (n_v vs 30) ∧ v_iv (n_v vs 30) ≤ v_iv (n_v vs 10) + 0 := d1
  obtain ⟨d2, hds⟩ := List.forall_mem_cons.mp hds
  have d2 : v_iv (n_v vs 10) + (-4294967296) ≤ v_iv (n_v vs 9) ∧ v_iv (n_v vs 9) ≤ v_iv (n_v vs 10) + (-1) := d2
  have hf : fc_ok [(6, [30, 9], [1]), (23, [29, 4, 9], [29, 1, -1, -31]), (23, [27, 4, 9], [28, 1, -1, -31]), (23, [25, 4, 9], [20, 1, -1, -31]), (23, [23, 4, 9], [13, 1, -1, -31]), (23, [18, 4, 9], [5, 1, -1, -31]), (23, [14, 4, 9], [0, 1, -1, -31]), (24, [0, 5], []), (20, [5, 29], [30, 2, 1, 1, 12, -1, 0, 0]), (102, [29], [261336857795280739939871698507597986398208, 12012]), (23, [29, 4, 9], [29, 1, -1, -31]), (23, [27, 4, 9], [28, 1, -1, -31]), (23, [25, 4, 9], [20, 1, -1, -31]), (23, [23, 4, 9], [13, 1, -1, -31]), (23, [18, 4, 9], [5, 1, -1, -31]), (23, [14, 4, 9], [0, 1, -1, -31]), (102, [27], [261336857795280739939871698507597986398208, 12012]), (23, [27, 4, 9], [28, 1, -1, -31]), (23, [25, 4, 9], [20, 1, -1, -31]), (23, [23, 4, 9], [13, 1, -1, -31]), (23, [18, 4, 9], [5, 1, -1, -31]), (23, [14, 4, 9], [0, 1, -1, -31]), (102, [25], [261336857795280739939871698507597986398208, 12012]), (23, [25, 4, 9], [20, 1, -1, -31]), (23, [23, 4, 9], [13, 1, -1, -31]), (23, [18, 4, 9], [5, 1, -1, -31]), (23, [14, 4, 9], [0, 1, -1, -31]), (102, [23], [261336857795280739939871698507597986398208, 12012]), (23, [23, 4, 9], [13, 1, -1, -31]), (23, [18, 4, 9], [5, 1, -1, -31]), (23, [14, 4, 9], [0, 1, -1, -31]), (102, [18], [261336857795280739939871698507597986398208, 12012]), (23, [18, 4, 9], [5, 1, -1, -31]), (23, [14, 4, 9], [0, 1, -1, -31]), (102, [14], [261336857795280739939871698507597986398208, 12012]), (23, [14, 4, 9], [0, 1, -1, -31]), (7, [9, 10], [2])] ta ws vs := hf
  obtain ⟨f0, hf⟩ := fc_un (show (6 : Nat) < 100 from by decide) hf
  have f0 : v_iv (n_v vs 30) = v_iv (n_v vs 9) + 1 := f0
  obtain ⟨f1, hf⟩ := fc_un (show (23 : Nat) < 100 from by decide) hf
  have f1 : 1 * v_iv (n_v vs 29) + ((-1) * v_iv (n_v vs 4) + ((-31) * v_iv (n_v vs 9) + 0)) ≤ 29 := f1
  obtain ⟨f2, hf⟩ := fc_un (show (23 : Nat) < 100 from by decide) hf
  have f2 : 1 * v_iv (n_v vs 27) + ((-1) * v_iv (n_v vs 4) + ((-31) * v_iv (n_v vs 9) + 0)) ≤ 28 := f2
  obtain ⟨f3, hf⟩ := fc_un (show (23 : Nat) < 100 from by decide) hf
  have f3 : 1 * v_iv (n_v vs 25) + ((-1) * v_iv (n_v vs 4) + ((-31) * v_iv (n_v vs 9) + 0)) ≤ 20 := f3
  obtain ⟨f4, hf⟩ := fc_un (show (23 : Nat) < 100 from by decide) hf
  have f4 : 1 * v_iv (n_v vs 23) + ((-1) * v_iv (n_v vs 4) + ((-31) * v_iv (n_v vs 9) + 0)) ≤ 13 := f4
  obtain ⟨f5, hf⟩ := fc_un (show (23 : Nat) < 100 from by decide) hf
  have f5 : 1 * v_iv (n_v vs 18) + ((-1) * v_iv (n_v vs 4) + ((-31) * v_iv (n_v vs 9) + 0)) ≤ 5 := f5
  obtain ⟨f6, hf⟩ := fc_un (show (23 : Nat) < 100 from by decide) hf
  have f6 : 1 * v_iv (n_v vs 14) + ((-1) * v_iv (n_v vs 4) + ((-31) * v_iv (n_v vs 9) + 0)) ≤ 0 := f6
  obtain ⟨f7, hf⟩ := fc_un (show (24 : Nat) < 100 from by decide) hf
  have f7 : n_v vs 0 = n_v vs 5 := f7
  obtain ⟨f8, hf⟩ := fc_un (show (20 : Nat) < 100 from by decide) hf
  have f8 : 1 * w_fi ws (n_v vs 5) 12 + ((-1) * v_iv (n_v vs 29) + 0) ≤ 2 := f8
  obtain ⟨ta1, w1, le1, ⟨_, s1⟩, hf⟩ := fc_us (show ¬ (102 : Nat) < 100 from by decide) hf
  obtain ⟨f10, hf⟩ := fc_un (show (23 : Nat) < 100 from by decide) hf
  have f10 : 1 * v_iv (n_v vs 29) + ((-1) * v_iv (n_v vs 4) + ((-31) * v_iv (n_v vs 9) + 0)) ≤ 29 := f10
  obtain ⟨f11, hf⟩ := fc_un (show (23 : Nat) < 100 from by decide) hf
  have f11 : 1 * v_iv (n_v vs 27) + ((-1) * v_iv (n_v vs 4) + ((-31) * v_iv (n_v vs 9) + 0)) ≤ 28 := f11
  obtain ⟨f12, hf⟩ := fc_un (show (23 : Nat) < 100 from by decide) hf
  have f12 : 1 * v_iv (n_v vs 25) + ((-1) * v_iv (n_v vs 4) + ((-31) * v_iv (n_v vs 9) + 0)) ≤ 20 := f12
  obtain ⟨f13, hf⟩ := fc_un (show (23 : Nat) < 100 from by decide) hf
  have f13 : 1 * v_iv (n_v vs 23) + ((-1) * v_iv (n_v vs 4) + ((-31) * v_iv (n_v vs 9) + 0)) ≤ 13 := f13
  obtain ⟨f14, hf⟩ := fc_un (show (23 : Nat) < 100 from by decide) hf
  have f14 : 1 * v_iv (n_v vs 18) + ((-1) * v_iv (n_v vs 4) + ((-31) * v_iv (n_v vs 9) + 0)) ≤ 5 := f14
  obtain ⟨f15, hf⟩ := fc_un (show (23 : Nat) < 100 from by decide) hf
  have f15 : 1 * v_iv (n_v vs 14) + ((-1) * v_iv (n_v vs 4) + ((-31) * v_iv (n_v vs 9) + 0)) ≤ 0 := f15
  obtain ⟨ta2, w2, le2, ⟨_, s2⟩, hf⟩ := fc_us (show ¬ (102 : Nat) < 100 from by decide) hf
  obtain ⟨f17, hf⟩ := fc_un (show (23 : Nat) < 100 from by decide) hf
  have f17 : 1 * v_iv (n_v vs 27) + ((-1) * v_iv (n_v vs 4) + ((-31) * v_iv (n_v vs 9) + 0)) ≤ 28 := f17
  obtain ⟨f18, hf⟩ := fc_un (show (23 : Nat) < 100 from by decide) hf
  have f18 : 1 * v_iv (n_v vs 25) + ((-1) * v_iv (n_v vs 4) + ((-31) * v_iv (n_v vs 9) + 0)) ≤ 20 := f18
  obtain ⟨f19, hf⟩ := fc_un (show (23 : Nat) < 100 from by decide) hf
  have f19 : 1 * v_iv (n_v vs 23) + ((-1) * v_iv (n_v vs 4) + ((-31) * v_iv (n_v vs 9) + 0)) ≤ 13 := f19
  obtain ⟨f20, hf⟩ := fc_un (show (23 : Nat) < 100 from by decide) hf
  have f20 : 1 * v_iv (n_v vs 18) + ((-1) * v_iv (n_v vs 4) + ((-31) * v_iv (n_v vs 9) + 0)) ≤ 5 := f20
  obtain ⟨f21, hf⟩ := fc_un (show (23 : Nat) < 100 from by decide) hf
  have f21 : 1 * v_iv (n_v vs 14) + ((-1) * v_iv (n_v vs 4) + ((-31) * v_iv (n_v vs 9) + 0)) ≤ 0 := f21
  obtain ⟨ta3, w3, le3, ⟨_, s3⟩, hf⟩ := fc_us (show ¬ (102 : Nat) < 100 from by decide) hf
  obtain ⟨f23, hf⟩ := fc_un (show (23 : Nat) < 100 from by decide) hf
  have f23 : 1 * v_iv (n_v vs 25) + ((-1) * v_iv (n_v vs 4) + ((-31) * v_iv (n_v vs 9) + 0)) ≤ 20 := f23
  obtain ⟨f24, hf⟩ := fc_un (show (23 : Nat) < 100 from by decide) hf
  have f24 : 1 * v_iv (n_v vs 23) + ((-1) * v_iv (n_v vs 4) + ((-31) * v_iv (n_v vs 9) + 0)) ≤ 13 := f24
  obtain ⟨f25, hf⟩ := fc_un (show (23 : Nat) < 100 from by decide) hf
  have f25 : 1 * v_iv (n_v vs 18) + ((-1) * v_iv (n_v vs 4) + ((-31) * v_iv (n_v vs 9) + 0)) ≤ 5 := f25
  obtain ⟨f26, hf⟩ := fc_un (show (23 : Nat) < 100 from by decide) hf
  have f26 : 1 * v_iv (n_v vs 14) + ((-1) * v_iv (n_v vs 4) + ((-31) * v_iv (n_v vs 9) + 0)) ≤ 0 := f26
  obtain ⟨ta4, w4, le4, ⟨_, s4⟩, hf⟩ := fc_us (show ¬ (102 : Nat) < 100 from by decide) hf
  obtain ⟨f28, hf⟩ := fc_un (show (23 : Nat) < 100 from by decide) hf
  have f28 : 1 * v_iv (n_v vs 23) + ((-1) * v_iv (n_v vs 4) + ((-31) * v_iv (n_v vs 9) + 0)) ≤ 13 := f28
  obtain ⟨f29, hf⟩ := fc_un (show (23 : Nat) < 100 from by decide) hf
  have f29 : 1 * v_iv (n_v vs 18) + ((-1) * v_iv (n_v vs 4) + ((-31) * v_iv (n_v vs 9) + 0)) ≤ 5 := f29
  obtain ⟨f30, hf⟩ := fc_un (show (23 : Nat) < 100 from by decide) hf
  have f30 : 1 * v_iv (n_v vs 14) + ((-1) * v_iv (n_v vs 4) + ((-31) * v_iv (n_v vs 9) + 0)) ≤ 0 := f30
  obtain ⟨ta5, w5, le5, ⟨_, s5⟩, hf⟩ := fc_us (show ¬ (102 : Nat) < 100 from by decide) hf
  obtain ⟨f32, hf⟩ := fc_un (show (23 : Nat) < 100 from by decide) hf
  have f32 : 1 * v_iv (n_v vs 18) + ((-1) * v_iv (n_v vs 4) + ((-31) * v_iv (n_v vs 9) + 0)) ≤ 5 := f32
  obtain ⟨f33, hf⟩ := fc_un (show (23 : Nat) < 100 from by decide) hf
  have f33 : 1 * v_iv (n_v vs 14) + ((-1) * v_iv (n_v vs 4) + ((-31) * v_iv (n_v vs 9) + 0)) ≤ 0 := f33
  obtain ⟨ta6, w6, le6, ⟨_, s6⟩, hf⟩ := fc_us (show ¬ (102 : Nat) < 100 from by decide) hf
  obtain ⟨f35, hf⟩ := fc_un (show (23 : Nat) < 100 from by decide) hf
  have f35 : 1 * v_iv (n_v vs 14) + ((-1) * v_iv (n_v vs 4) + ((-31) * v_iv (n_v vs 9) + 0)) ≤ 0 := f35
  obtain ⟨f36, hf⟩ := fc_un (show (7 : Nat) < 100 from by decide) hf
  have f36 : v_iv (n_v vs 9) < v_iv (n_v vs 10) := f36
  have q5 : n_v vs 5 = n_v vs 0 := f7.symm
  rw [q5] at f8
  have kz_0_12 : 0 ≤ w_fi ws (n_v vs 0) 12 ∧ w_fi ws (n_v vs 0) 12 ≤ 100000000 := tv_rng (th_fd hD hth r0 (g := GG_12) rfl (k := 12) (t := (0, 0, 100000000, [])) rfl rfl)
  have nf0 : fc_1 (20, [5, 4, 30], [30, 0, 1, 1, 12, -1, 0, 0, -31, 0, 0]) ws (vs) := by
    refine ⟨fun n hn => ?_, ?_⟩
    · have hn : n ∈ [5, 4, 30] := hn
      rw [hl]
      simp only [List.mem_cons, List.not_mem_nil, or_false] at hn
      show n < 31; omega
    · show 1 * w_fi ws (n_v vs 5) 12 + ((-1) * v_iv (n_v vs 4) + ((-31) * v_iv (n_v vs 30) + 0)) ≤ 0
      rw [q5]
      omega
  refine ⟨(fun _ h => (by cases h)), [], trivial, ?_, (fun _ h => (by cases h))⟩
  rw [List.append_nil]
  exact List.forall_mem_cons.mpr ⟨⟨show (20 : Nat) < 100 from by decide, nf0⟩, (fun _ h => (by cases h))⟩
def o_Ho_writeGroup_at_k5_12 : or_T := (179, 11, [(0, (2, 0, 0, [12])), (4, (0, 0, 99999256, [])), (5, (2, 0, 0, [12])), (6, (2, 0, 0, [3])), (7, (0, 5, 7, [])), (9, (0, 6, 8, [])), (10, (0, 0, 8, []))], [(7, [9, 10], [3]), (9, [10, 6], [2]), (20, [5, 4, 9, 7], [30, 744, 1, 1, 12, -1, 0, 0, 0, 0, 0, 0, 0, 0]), (24, [0, 5], [])], [], [], [(20, [0, 4], [30, 744, 1, 1, 12, -1, 0, 0])], [], [(9, 10, 0, 4294967296), (7, 4, -4294967296, 7), (7, 9, -4294967296, -1), (9, 4, -4294967296, 8), (9, 7, -4294967296, 3)])
theorem oo_Ho_writeGroup_at_k5_12 {kA : Nat → ClassId} : or_ok kA GG o_Ho_writeGroup_at_k5_12 := by
  intro A ta ws vs hD hth hl hk hds hf
  have hl : vs.length = 11 := hl
  have hk : ∀ q ∈ ([(0, (2, 0, 0, [12])), (4, (0, 0, 99999256, [])), (5, (2, 0, 0, [12])), (6, (2, 0, 0, [3])), (7, (0, 5, 7, [])), (9, (0, 6, 8, [])), (10, (0, 0, 8, []))] : List (Nat × tv_T)), tv_ok ta q.2 (n_v vs q.1) := hk
  obtain ⟨t0, hk⟩ := List.forall_mem_cons.mp hk
  have t0 : tv_ok ta (2, 0, 0, [12]) (n_v vs 0) := t0
  have r0 : ta (v_ad (n_v vs 0)) = some 12 := tv_rg t0
  obtain ⟨t4, hk⟩ := List.forall_mem_cons.mp hk
  have t4 : tv_ok ta (0, 0, 99999256, []) (n_v vs 4) := t4
  have k4 : 0 ≤ v_iv (n_v vs 4) ∧ v_iv (n_v vs 4) ≤ 99999256 := tv_rng t4
  obtain ⟨t5, hk⟩ := List.forall_mem_cons.mp hk
  have t5 : tv_ok ta (2, 0, 0, [12]) (n_v vs 5) := t5
  have r5 : ta (v_ad (n_v vs 5)) = some 12 := tv_rg t5
  obtain ⟨t6, hk⟩ := List.forall_mem_cons.mp hk
  have t6 : tv_ok ta (2, 0, 0, [3]) (n_v vs 6) := t6
  have r6 : ta (v_ad (n_v vs 6)) = some 3 := tv_rg t6
  obtain ⟨t7, hk⟩ := List.forall_mem_cons.mp hk
  have t7 : tv_ok ta (0, 5, 7, []) (n_v vs 7) := t7
  have k7 : 5 ≤ v_iv (n_v vs 7) ∧ v_iv (n_v vs 7) ≤ 7 := tv_rng t7
  obtain ⟨t9, hk⟩ := List.forall_mem_cons.mp hk
  have t9 : tv_ok ta (0, 6, 8, []) (n_v vs 9) := t9
  have k9 : 6 ≤ v_iv (n_v vs 9) ∧ v_iv (n_v vs 9) ≤ 8 := tv_rng t9
  obtain ⟨t10, hk⟩ := List.forall_mem_cons.mp hk
  have t10 : tv_ok ta (0, 0, 8, []) (n_v vs 10) := t10
  have k10 : 0 ≤ v_iv (n_v vs 10) ∧ v_iv (n_v vs 10) ≤ 8 := tv_rng t10
  have hds : ∀ q ∈ ([(9, 10, 0, 4294967296), (7, 4, -4294967296, 7), (7, 9, -4294967296, -1), (9, 4, -4294967296, 8), (9, 7, -4294967296, 3)] : List of_T), n_iv vs q.2.1 + q.2.2.1 ≤ n_iv vs q.1 ∧ n_iv vs q.1 ≤ n_iv vs q.2.1 + q.2.2.2 := hds
  obtain ⟨d0, hds⟩ := List.forall_mem_cons.mp hds
  have d0 : v_iv (n_v vs 10) + 0 ≤ v_iv (n_v vs 9) ∧ v_iv (n_v vs 9) ≤ v_iv (n_v vs 10) + 4294967296 := d0
  obtain ⟨d1, hds⟩ := List.forall_mem_cons.mp hds
  have d1 : v_iv (n_v vs 4) + (-4294967296) ≤ v_iv (n_v vs 7) ∧ v_iv (n_v vs 7) ≤ v_iv (n_v vs 4) + 7 := d1
  obtain ⟨d2, hds⟩ := List.forall_mem_cons.mp hds
  have d2 : v_iv (n_v vs 9) + (-4294967296) ≤ v_iv (n_v vs 7) ∧ v_iv (n_v vs 7) ≤ v_iv (n_v vs 9) + (-1) := d2
  obtain ⟨d3, hds⟩ := List.forall_mem_cons.mp hds
  have d3 : v_iv (n_v vs 4) + (-4294967296) ≤ v_iv (n_v vs 9) ∧ v_iv (n_v vs 9) ≤ v_iv (n_v vs 4) + 8 := d3
  obtain ⟨d4, hds⟩ := List.forall_mem_cons.mp hds
  have d4 : v_iv (n_v vs 7) + (-4294967296) ≤ v_iv (n_v vs 9) ∧ v_iv (n_v vs 9) ≤ v_iv (n_v vs 7) + 3 := d4
  have hf : fc_ok [(7, [9, 10], [3]), (9, [10, 6], [2]), (20, [5, 4, 9, 7], [30, 744, 1, 1, 12, -1, 0, 0, 0, 0, 0, 0, 0, 0]), (24, [0, 5], [])] ta ws vs := hf
  obtain ⟨f0, hf⟩ := fc_un (show (7 : Nat) < 100 from by decide) hf
  have f0 : v_iv (n_v vs 10) ≤ v_iv (n_v vs 9) := f0
  obtain ⟨f1, hf⟩ := fc_un (show (9 : Nat) < 100 from by decide) hf
  have f1 : n_v vs 10 = w_fd ws (v_ad (n_v vs 6)) 2 := f1
  obtain ⟨f2, hf⟩ := fc_un (show (20 : Nat) < 100 from by decide) hf
  have f2 : 1 * w_fi ws (n_v vs 5) 12 + ((-1) * v_iv (n_v vs 4) + (0 * v_iv (n_v vs 9) + (0 * v_iv (n_v vs 7) + 0))) ≤ 744 := f2
  obtain ⟨f3, hf⟩ := fc_un (show (24 : Nat) < 100 from by decide) hf
  have f3 : n_v vs 0 = n_v vs 5 := f3
  have q5 : n_v vs 5 = n_v vs 0 := f3.symm
  rw [q5] at f2
  have g1 : v_iv (n_v vs 10) = w_fi ws (n_v vs 6) 2 := congrArg v_iv f1
  have kz_0_12 : 0 ≤ w_fi ws (n_v vs 0) 12 ∧ w_fi ws (n_v vs 0) 12 ≤ 100000000 := tv_rng (th_fd hD hth r0 (g := GG_12) rfl (k := 12) (t := (0, 0, 100000000, [])) rfl rfl)
  have kz_6_2 : 0 ≤ w_fi ws (n_v vs 6) 2 ∧ w_fi ws (n_v vs 6) 2 ≤ 8 := tv_rng (th_fd hD hth r6 (g := GG_3) rfl (k := 2) (t := (0, 0, 8, [])) rfl rfl)
  have nf0 : fc_1 (20, [0, 4], [30, 744, 1, 1, 12, -1, 0, 0]) ws (vs) := by
    refine ⟨fun n hn => ?_, ?_⟩
    · have hn : n ∈ [0, 4] := hn
      rw [hl]
      simp only [List.mem_cons, List.not_mem_nil, or_false] at hn
      show n < 11; omega
    · show 1 * w_fi ws (n_v vs 0) 12 + ((-1) * v_iv (n_v vs 4) + 0) ≤ 744
      omega
  refine ⟨(fun _ h => (by cases h)), [], trivial, ?_, (fun _ h => (by cases h))⟩
  rw [List.append_nil]
  exact List.forall_mem_cons.mpr ⟨⟨show (20 : Nat) < 100 from by decide, nf0⟩, (fun _ h => (by cases h))⟩
def o_Ho_writeGroup_at_k5_13 : or_T := (100, 14, [(0, (2, 0, 0, [12])), (4, (0, 0, 99999256, [])), (5, (2, 0, 0, [12])), (6, (2, 0, 0, [3])), (7, (0, 5, 6, [])), (9, (0, 6, 7, [])), (10, (0, 7, 8, [])), (11, (2, 0, 0, [56])), (12, (0, -1, 7, [])), (13, (0, 7, 8, []))], [(6, [13, 9], [1]), (7, [12, 7], [1]), (10, [12, 11, 9], []), (9, [11, 6], [11]), (7, [9, 10], [2]), (9, [10, 6], [2]), (20, [5, 4, 9, 7], [30, 744, 1, 1, 12, -1, 0, 0, 0, 0, 0, 0, 0, 0]), (24, [0, 5], [])], [], [], [(20, [5, 4, 13, 7], [30, 744, 1, 1, 12, -1, 0, 0, 0, 0, 0, 0, 0, 0])], [], [(13, 9, 1, 1), (13, 10, -4294967296, 0), (13, 4, -4294967296, 9), (13, 7, -4294967296, 4), (9, 10, -4294967296, -1), (7, 4, -4294967296, 7), (7, 9, -4294967296, -1), (9, 4, -4294967296, 8), (9, 7, -4294967296, 3)])
theorem oo_Ho_writeGroup_at_k5_13 {kA : Nat → ClassId} : or_ok kA GG o_Ho_writeGroup_at_k5_13 := by
  intro A ta ws vs hD hth hl hk hds hf
  have hl : vs.length = 14 := hl
  have hk : ∀ q ∈ ([(0, (2, 0, 0, [12])), (4, (0, 0, 99999256, [])), (5, (2, 0, 0, [12])), (6, (2, 0, 0, [3])), (7, (0, 5, 6, [])), (9, (0, 6, 7, [])), (10, (0, 7, 8, [])), (11, (2, 0, 0, [56])), (12, (0, -1, 7, [])), (13, (0, 7, 8, []))] : List (Nat × tv_T)), tv_ok ta q.2 (n_v vs q.1) := hk
  obtain ⟨t0, hk⟩ := List.forall_mem_cons.mp hk
  have t0 : tv_ok ta (2, 0, 0, [12]) (n_v vs 0) := t0
  have r0 : ta (v_ad (n_v vs 0)) = some 12 := tv_rg t0
  obtain ⟨t4, hk⟩ := List.forall_mem_cons.mp hk
  have t4 : tv_ok ta (0, 0, 99999256, []) (n_v vs 4) := t4
  have k4 : 0 ≤ v_iv (n_v vs 4) ∧ v_iv (n_v vs 4) ≤ 99999256 := tv_rng t4
  obtain ⟨t5, hk⟩ := List.forall_mem_cons.mp hk
  have t5 : tv_ok ta (2, 0, 0, [12]) (n_v vs 5) := t5
  have r5 : ta (v_ad (n_v vs 5)) = some 12 := tv_rg t5
  obtain ⟨t6, hk⟩ := List.forall_mem_cons.mp hk
  have t6 : tv_ok ta (2, 0, 0, [3]) (n_v vs 6) := t6
  have r6 : ta (v_ad (n_v vs 6)) = some 3 := tv_rg t6
  obtain ⟨t7, hk⟩ := List.forall_mem_cons.mp hk
  have t7 : tv_ok ta (0, 5, 6, []) (n_v vs 7) := t7
  have k7 : 5 ≤ v_iv (n_v vs 7) ∧ v_iv (n_v vs 7) ≤ 6 := tv_rng t7
  obtain ⟨t9, hk⟩ := List.forall_mem_cons.mp hk
  have t9 : tv_ok ta (0, 6, 7, []) (n_v vs 9) := t9
  have k9 : 6 ≤ v_iv (n_v vs 9) ∧ v_iv (n_v vs 9) ≤ 7 := tv_rng t9
  obtain ⟨t10, hk⟩ := List.forall_mem_cons.mp hk
  have t10 : tv_ok ta (0, 7, 8, []) (n_v vs 10) := t10
  have k10 : 7 ≤ v_iv (n_v vs 10) ∧ v_iv (n_v vs 10) ≤ 8 := tv_rng t10
  obtain ⟨t11, hk⟩ := List.forall_mem_cons.mp hk
  have t11 : tv_ok ta (2, 0, 0, [56]) (n_v vs 11) := t11
  have r11 : ta (v_ad (n_v vs 11)) = some 56 := tv_rg t11
  obtain ⟨t12, hk⟩ := List.forall_mem_cons.mp hk
  have t12 : tv_ok ta (0, -1, 7, []) (n_v vs 12) := t12
  have k12 : (-1) ≤ v_iv (n_v vs 12) ∧ v_iv (n_v vs 12) ≤ 7 := tv_rng t12
  obtain ⟨t13, hk⟩ := List.forall_mem_cons.mp hk
  have t13 : tv_ok ta (0, 7, 8, []) (n_v vs 13) := t13
  have k13 : 7 ≤ v_iv (n_v vs 13) ∧ v_iv (n_v vs 13) ≤ 8 := tv_rng t13
  have hds : ∀ q ∈ ([(13, 9, 1, 1), (13, 10, -4294967296, 0), (13, 4, -4294967296, 9), (13, 7, -4294967296, 4), (9, 10, -4294967296, -1), (7, 4, -4294967296, 7), (7, 9, -4294967296, -1), (9, 4, -4294967296, 8), (9, 7, -4294967296, 3)] : List of_T), n_iv vs q.2.1 + q.2.2.1 ≤ n_iv vs q.1 ∧ n_iv vs q.1 ≤ n_iv vs q.2.1 + q.2.2.2 := hds
  obtain ⟨d0, hds⟩ := List.forall_mem_cons.mp hds
  have d0 : v_iv (n_v vs 9) + 1 ≤ v_iv (n_v vs 13) ∧ v_iv (n_v vs 13) ≤ v_iv (n_v vs 9) + 1 := d0
  obtain ⟨d1, hds⟩ := List.forall_mem_cons.mp hds
  have d1 : v_iv (n_v vs 10) + (-4294967296) ≤ v_iv (n_v vs 13) ∧ v_iv (n_v vs 13) ≤ v_iv (n_v vs 10) + 0 := d1
  obtain ⟨d2, hds⟩ := List.forall_mem_cons.mp hds
  have d2 : v_iv (n_v vs 4) + (-4294967296) ≤ v_iv (n_v vs 13) ∧ v_iv (n_v vs 13) ≤ v_iv (n_v vs 4) + 9 := d2
  obtain ⟨d3, hds⟩ := List.forall_mem_cons.mp hds
  have d3 : v_iv (n_v vs 7) + (-4294967296) ≤ v_iv (n_v vs 13) ∧ v_iv (n_v vs 13) ≤ v_iv (n_v vs 7) + 4 := d3
  obtain ⟨d4, hds⟩ := List.forall_mem_cons.mp hds
  have d4 : v_iv (n_v vs 10) + (-4294967296) ≤ v_iv (n_v vs 9) ∧ v_iv (n_v vs 9) ≤ v_iv (n_v vs 10) + (-1) := d4
  obtain ⟨d5, hds⟩ := List.forall_mem_cons.mp hds
  have d5 : v_iv (n_v vs 4) + (-4294967296) ≤ v_iv (n_v vs 7) ∧ v_iv (n_v vs 7) ≤ v_iv (n_v vs 4) + 7 := d5
  obtain ⟨d6, hds⟩ := List.forall_mem_cons.mp hds
  have d6 : v_iv (n_v vs 9) + (-4294967296) ≤ v_iv (n_v vs 7) ∧ v_iv (n_v vs 7) ≤ v_iv (n_v vs 9) + (-1) := d6
  obtain ⟨d7, hds⟩ := List.forall_mem_cons.mp hds
  have d7 : v_iv (n_v vs 4) + (-4294967296) ≤ v_iv (n_v vs 9) ∧ v_iv (n_v vs 9) ≤ v_iv (n_v vs 4) + 8 := d7
  obtain ⟨d8, hds⟩ := List.forall_mem_cons.mp hds
  have d8 : v_iv (n_v vs 7) + (-4294967296) ≤ v_iv (n_v vs 9) ∧ v_iv (n_v vs 9) ≤ v_iv (n_v vs 7) + 3 := d8
  have hf : fc_ok [(6, [13, 9], [1]), (7, [12, 7], [1]), (10, [12, 11, 9], []), (9, [11, 6], [11]), (7, [9, 10], [2]), (9, [10, 6], [2]), (20, [5, 4, 9, 7], [30, 744, 1, 1, 12, -1, 0, 0, 0, 0, 0, 0, 0, 0]), (24, [0, 5], [])] ta ws vs := hf
  obtain ⟨f0, hf⟩ := fc_un (show (6 : Nat) < 100 from by decide) hf
  have f0 : v_iv (n_v vs 13) = v_iv (n_v vs 9) + 1 := f0
  obtain ⟨f1, hf⟩ := fc_un (show (7 : Nat) < 100 from by decide) hf
  have f1 : v_iv (n_v vs 12) ≠ v_iv (n_v vs 7) := f1
  obtain ⟨f2, hf⟩ := fc_un (show (10 : Nat) < 100 from by decide) hf
  have f2 : v_iv (n_v vs 12) = w_el ws (v_ad (n_v vs 11)) (v_iv (n_v vs 9)).toNat := f2
  obtain ⟨f3, hf⟩ := fc_un (show (9 : Nat) < 100 from by decide) hf
  have f3 : n_v vs 11 = w_fd ws (v_ad (n_v vs 6)) 11 := f3
  obtain ⟨f4, hf⟩ := fc_un (show (7 : Nat) < 100 from by decide) hf
  have f4 : v_iv (n_v vs 9) < v_iv (n_v vs 10) := f4
  obtain ⟨f5, hf⟩ := fc_un (show (9 : Nat) < 100 from by decide) hf
  have f5 : n_v vs 10 = w_fd ws (v_ad (n_v vs 6)) 2 := f5
  obtain ⟨f6, hf⟩ := fc_un (show (20 : Nat) < 100 from by decide) hf
  have f6 : 1 * w_fi ws (n_v vs 5) 12 + ((-1) * v_iv (n_v vs 4) + (0 * v_iv (n_v vs 9) + (0 * v_iv (n_v vs 7) + 0))) ≤ 744 := f6
  obtain ⟨f7, hf⟩ := fc_un (show (24 : Nat) < 100 from by decide) hf
  have f7 : n_v vs 0 = n_v vs 5 := f7
  have q5 : n_v vs 5 = n_v vs 0 := f7.symm
  rw [q5] at f6
  have cr_6_11 : ta (w_ar ws (n_v vs 6) 11) = some 56 := tv_rg (th_fd hD hth r6 (g := GG_3) rfl (k := 11) (t := (2, 0, 0, [56])) rfl rfl)
  have ad_11 : v_ad (n_v vs 11) = w_ar ws (n_v vs 6) 11 := congrArg v_ad f3
  rw [ad_11] at f2
  have g5 : v_iv (n_v vs 10) = w_fi ws (n_v vs 6) 2 := congrArg v_iv f5
  have kz_0_12 : 0 ≤ w_fi ws (n_v vs 0) 12 ∧ w_fi ws (n_v vs 0) 12 ≤ 100000000 := tv_rng (th_fd hD hth r0 (g := GG_12) rfl (k := 12) (t := (0, 0, 100000000, [])) rfl rfl)
  have kz_6_2 : 0 ≤ w_fi ws (n_v vs 6) 2 ∧ w_fi ws (n_v vs 6) 2 ≤ 8 := tv_rng (th_fd hD hth r6 (g := GG_3) rfl (k := 2) (t := (0, 0, 8, [])) rfl rfl)
  have nf0 : fc_1 (20, [5, 4, 13, 7], [30, 744, 1, 1, 12, -1, 0, 0, 0, 0, 0, 0, 0, 0]) ws (vs) := by
    refine ⟨fun n hn => ?_, ?_⟩
    · have hn : n ∈ [5, 4, 13, 7] := hn
      rw [hl]
      simp only [List.mem_cons, List.not_mem_nil, or_false] at hn
      show n < 14; omega
    · show 1 * w_fi ws (n_v vs 5) 12 + ((-1) * v_iv (n_v vs 4) + (0 * v_iv (n_v vs 13) + (0 * v_iv (n_v vs 7) + 0))) ≤ 744
      rw [q5]
      omega
  refine ⟨(fun _ h => (by cases h)), [], trivial, ?_, (fun _ h => (by cases h))⟩
  rw [List.append_nil]
  exact List.forall_mem_cons.mpr ⟨⟨show (20 : Nat) < 100 from by decide, nf0⟩, (fun _ h => (by cases h))⟩
def o_Ho_writeGroup_at_k5_14 : or_T := (100, 15, [(0, (2, 0, 0, [12])), (4, (0, 0, 99999256, [])), (5, (2, 0, 0, [12])), (6, (2, 0, 0, [3])), (7, (0, 5, 6, [])), (9, (0, 6, 7, [])), (10, (0, 7, 8, [])), (11, (2, 0, 0, [56])), (12, (0, 5, 6, [])), (14, (0, 7, 8, []))], [(6, [14, 9], [1]), (7, [12, 7], [0]), (10, [12, 11, 9], []), (9, [11, 6], [11]), (7, [9, 10], [2]), (9, [10, 6], [2]), (20, [5, 4, 9, 7], [30, 744, 1, 1, 12, -1, 0, 0, 0, 0, 0, 0, 0, 0]), (24, [0, 5], [])], [], [], [(20, [5, 4, 14, 7], [30, 744, 1, 1, 12, -1, 0, 0, 0, 0, 0, 0, 0, 0])], [], [(14, 9, 1, 1), (14, 10, -4294967296, 0), (14, 4, -4294967296, 9), (14, 7, -4294967296, 4), (12, 7, 0, 0), (9, 10, -4294967296, -1), (7, 4, -4294967296, 7), (7, 9, -4294967296, -1), (9, 4, -4294967296, 8), (9, 7, -4294967296, 3)])
theorem oo_Ho_writeGroup_at_k5_14 {kA : Nat → ClassId} : or_ok kA GG o_Ho_writeGroup_at_k5_14 := by
  intro A ta ws vs hD hth hl hk hds hf
  have hl : vs.length = 15 := hl
  have hk : ∀ q ∈ ([(0, (2, 0, 0, [12])), (4, (0, 0, 99999256, [])), (5, (2, 0, 0, [12])), (6, (2, 0, 0, [3])), (7, (0, 5, 6, [])), (9, (0, 6, 7, [])), (10, (0, 7, 8, [])), (11, (2, 0, 0, [56])), (12, (0, 5, 6, [])), (14, (0, 7, 8, []))] : List (Nat × tv_T)), tv_ok ta q.2 (n_v vs q.1) := hk
  obtain ⟨t0, hk⟩ := List.forall_mem_cons.mp hk
  have t0 : tv_ok ta (2, 0, 0, [12]) (n_v vs 0) := t0
  have r0 : ta (v_ad (n_v vs 0)) = some 12 := tv_rg t0
  obtain ⟨t4, hk⟩ := List.forall_mem_cons.mp hk
  have t4 : tv_ok ta (0, 0, 99999256, []) (n_v vs 4) := t4
  have k4 : 0 ≤ v_iv (n_v vs 4) ∧ v_iv (n_v vs 4) ≤ 99999256 := tv_rng t4
  obtain ⟨t5, hk⟩ := List.forall_mem_cons.mp hk
  have t5 : tv_ok ta (2, 0, 0, [12]) (n_v vs 5) := t5
  have r5 : ta (v_ad (n_v vs 5)) = some 12 := tv_rg t5
  obtain ⟨t6, hk⟩ := List.forall_mem_cons.mp hk
  have t6 : tv_ok ta (2, 0, 0, [3]) (n_v vs 6) := t6
  have r6 : ta (v_ad (n_v vs 6)) = some 3 := tv_rg t6
  obtain ⟨t7, hk⟩ := List.forall_mem_cons.mp hk
  have t7 : tv_ok ta (0, 5, 6, []) (n_v vs 7) := t7
  have k7 : 5 ≤ v_iv (n_v vs 7) ∧ v_iv (n_v vs 7) ≤ 6 := tv_rng t7
  obtain ⟨t9, hk⟩ := List.forall_mem_cons.mp hk
  have t9 : tv_ok ta (0, 6, 7, []) (n_v vs 9) := t9
  have k9 : 6 ≤ v_iv (n_v vs 9) ∧ v_iv (n_v vs 9) ≤ 7 := tv_rng t9
  obtain ⟨t10, hk⟩ := List.forall_mem_cons.mp hk
  have t10 : tv_ok ta (0, 7, 8, []) (n_v vs 10) := t10
  have k10 : 7 ≤ v_iv (n_v vs 10) ∧ v_iv (n_v vs 10) ≤ 8 := tv_rng t10
  obtain ⟨t11, hk⟩ := List.forall_mem_cons.mp hk
  have t11 : tv_ok ta (2, 0, 0, [56]) (n_v vs 11) := t11
  have r11 : ta (v_ad (n_v vs 11)) = some 56 := tv_rg t11
  obtain ⟨t12, hk⟩ := List.forall_mem_cons.mp hk
  have t12 : tv_ok ta (0, 5, 6, []) (n_v vs 12) := t12
  have k12 : 5 ≤ v_iv (n_v vs 12) ∧ v_iv (n_v vs 12) ≤ 6 := tv_rng t12
  obtain ⟨t14, hk⟩ := List.forall_mem_cons.mp hk
  have t14 : tv_ok ta (0, 7, 8, []) (n_v vs 14) := t14
  have k14 : 7 ≤ v_iv (n_v vs 14) ∧ v_iv (n_v vs 14) ≤ 8 := tv_rng t14
  have hds : ∀ q ∈ ([(14, 9, 1, 1), (14, 10, -4294967296, 0), (14, 4, -4294967296, 9), (14, 7, -4294967296, 4), (12, 7, 0, 0), (9, 10, -4294967296, -1), (7, 4, -4294967296, 7), (7, 9, -4294967296, -1), (9, 4, -4294967296, 8), (9, 7, -4294967296, 3)] : List of_T), n_iv vs q.2.1 + q.2.2.1 ≤ n_iv vs q.1 ∧ n_iv vs q.1 ≤ n_iv vs q.2.1 + q.2.2.2 := hds
  obtain ⟨d0, hds⟩ := List.forall_mem_cons.mp hds
  have d0 : v_iv (n_v vs 9) + 1 ≤ v_iv (n_v vs 14) ∧ v_iv (n_v vs 14) ≤ v_iv (n_v vs 9) + 1 := d0
  obtain ⟨d1, hds⟩ := List.forall_mem_cons.mp hds
  have d1 : v_iv (n_v vs 10) + (-4294967296) ≤ v_iv (n_v vs 14) ∧ v_iv (n_v vs 14) ≤ v_iv (n_v vs 10) + 0 := d1
  obtain ⟨d2, hds⟩ := List.forall_mem_cons.mp hds
  have d2 : v_iv (n_v vs 4) + (-4294967296) ≤ v_iv (n_v vs 14) ∧ v_iv (n_v vs 14) ≤ v_iv (n_v vs 4) + 9 := d2
  obtain ⟨d3, hds⟩ := List.forall_mem_cons.mp hds
  have d3 : v_iv (n_v vs 7) + (-4294967296) ≤ v_iv (n_v vs 14) ∧ v_iv (n_v vs 14) ≤ v_iv (n_v vs 7) + 4 := d3
  obtain ⟨d4, hds⟩ := List.forall_mem_cons.mp hds
  have d4 : v_iv (n_v vs 7) + 0 ≤ v_iv (n_v vs 12) ∧ v_iv (n_v vs 12) ≤ v_iv (n_v vs 7) + 0 := d4
  obtain ⟨d5, hds⟩ := List.forall_mem_cons.mp hds
  have d5 : v_iv (n_v vs 10) + (-4294967296) ≤ v_iv (n_v vs 9) ∧ v_iv (n_v vs 9) ≤ v_iv (n_v vs 10) + (-1) := d5
  obtain ⟨d6, hds⟩ := List.forall_mem_cons.mp hds
  have d6 : v_iv (n_v vs 4) + (-4294967296) ≤ v_iv (n_v vs 7) ∧ v_iv (n_v vs 7) ≤ v_iv (n_v vs 4) + 7 := d6
  obtain ⟨d7, hds⟩ := List.forall_mem_cons.mp hds
  have d7 : v_iv (n_v vs 9) + (-4294967296) ≤ v_iv (n_v vs 7) ∧ v_iv (n_v vs 7) ≤ v_iv (n_v vs 9) + (-1) := d7
  obtain ⟨d8, hds⟩ := List.forall_mem_cons.mp hds
  have d8 : v_iv (n_v vs 4) + (-4294967296) ≤ v_iv (n_v vs 9) ∧ v_iv (n_v vs 9) ≤ v_iv (n_v vs 4) + 8 := d8
  obtain ⟨d9, hds⟩ := List.forall_mem_cons.mp hds
  have d9 : v_iv (n_v vs 7) + (-4294967296) ≤ v_iv (n_v vs 9) ∧ v_iv (n_v vs 9) ≤ v_iv (n_v vs 7) + 3 := d9
  have hf : fc_ok [(6, [14, 9], [1]), (7, [12, 7], [0]), (10, [12, 11, 9], []), (9, [11, 6], [11]), (7, [9, 10], [2]), (9, [10, 6], [2]), (20, [5, 4, 9, 7], [30, 744, 1, 1, 12, -1, 0, 0, 0, 0, 0, 0, 0, 0]), (24, [0, 5], [])] ta ws vs := hf
  obtain ⟨f0, hf⟩ := fc_un (show (6 : Nat) < 100 from by decide) hf
  have f0 : v_iv (n_v vs 14) = v_iv (n_v vs 9) + 1 := f0
  obtain ⟨f1, hf⟩ := fc_un (show (7 : Nat) < 100 from by decide) hf
  have f1 : v_iv (n_v vs 12) = v_iv (n_v vs 7) := f1
  obtain ⟨f2, hf⟩ := fc_un (show (10 : Nat) < 100 from by decide) hf
  have f2 : v_iv (n_v vs 12) = w_el ws (v_ad (n_v vs 11)) (v_iv (n_v vs 9)).toNat := f2
  obtain ⟨f3, hf⟩ := fc_un (show (9 : Nat) < 100 from by decide) hf
  have f3 : n_v vs 11 = w_fd ws (v_ad (n_v vs 6)) 11 := f3
  obtain ⟨f4, hf⟩ := fc_un (show (7 : Nat) < 100 from by decide) hf
  have f4 : v_iv (n_v vs 9) < v_iv (n_v vs 10) := f4
  obtain ⟨f5, hf⟩ := fc_un (show (9 : Nat) < 100 from by decide) hf
  have f5 : n_v vs 10 = w_fd ws (v_ad (n_v vs 6)) 2 := f5
  obtain ⟨f6, hf⟩ := fc_un (show (20 : Nat) < 100 from by decide) hf
  have f6 : 1 * w_fi ws (n_v vs 5) 12 + ((-1) * v_iv (n_v vs 4) + (0 * v_iv (n_v vs 9) + (0 * v_iv (n_v vs 7) + 0))) ≤ 744 := f6
  obtain ⟨f7, hf⟩ := fc_un (show (24 : Nat) < 100 from by decide) hf
  have f7 : n_v vs 0 = n_v vs 5 := f7
  have q5 : n_v vs 5 = n_v vs 0 := f7.symm
  rw [q5] at f6
  have cr_6_11 : ta (w_ar ws (n_v vs 6) 11) = some 56 := tv_rg (th_fd hD hth r6 (g := GG_3) rfl (k := 11) (t := (2, 0, 0, [56])) rfl rfl)
  have ad_11 : v_ad (n_v vs 11) = w_ar ws (n_v vs 6) 11 := congrArg v_ad f3
  rw [ad_11] at f2
  have g5 : v_iv (n_v vs 10) = w_fi ws (n_v vs 6) 2 := congrArg v_iv f5
  have kz_0_12 : 0 ≤ w_fi ws (n_v vs 0) 12 ∧ w_fi ws (n_v vs 0) 12 ≤ 100000000 := tv_rng (th_fd hD hth r0 (g := GG_12) rfl (k := 12) (t := (0, 0, 100000000, [])) rfl rfl)
  have kz_6_2 : 0 ≤ w_fi ws (n_v vs 6) 2 ∧ w_fi ws (n_v vs 6) 2 ≤ 8 := tv_rng (th_fd hD hth r6 (g := GG_3) rfl (k := 2) (t := (0, 0, 8, [])) rfl rfl)
  have nf0 : fc_1 (20, [5, 4, 14, 7], [30, 744, 1, 1, 12, -1, 0, 0, 0, 0, 0, 0, 0, 0]) ws (vs) := by
    refine ⟨fun n hn => ?_, ?_⟩
    · have hn : n ∈ [5, 4, 14, 7] := hn
      rw [hl]
      simp only [List.mem_cons, List.not_mem_nil, or_false] at hn
      show n < 15; omega
    · show 1 * w_fi ws (n_v vs 5) 12 + ((-1) * v_iv (n_v vs 4) + (0 * v_iv (n_v vs 14) + (0 * v_iv (n_v vs 7) + 0))) ≤ 744
      rw [q5]
      omega
  refine ⟨(fun _ h => (by cases h)), [], trivial, ?_, (fun _ h => (by cases h))⟩
  rw [List.append_nil]
  exact List.forall_mem_cons.mpr ⟨⟨show (20 : Nat) < 100 from by decide, nf0⟩, (fun _ h => (by cases h))⟩
def n_Ho_writeGroup_at_k5_an : List an_T := [(3, [(0, (2, 0, 0, [12])), (1, (2, 0, 0, [3])), (2, (0, 5, 7, [])), (3, (0, 5, 5, [])), (4, (0, 0, 24, []))], [], (0, 0), [(0, 0, 99997), (1, 9, 24), (0, 0, 100000)], [(2, 3, -1000000000000, 2), (2, 4, -1000000000000, 7), (2, 7, -1000000000000, 0), (2, 8, -1000000000000, 2), (2, 9, -1000000000000, 7), (3, 2, -1000000000000, 0), (3, 4, -1000000000000, 5), (3, 7, -1000000000000, 0), (3, 8, -1000000000000, 0), (3, 9, -1000000000000, 5), (7, 2, -1000000000000, 0), (7, 3, -1000000000000, 2), (7, 4, -1000000000000, 7), (7, 8, -1000000000000, 2), (7, 9, -1000000000000, 7), (8, 2, -1000000000000, 0), (8, 3, -1000000000000, 0), (8, 4, -1000000000000, 5), (8, 7, -1000000000000, 0), (8, 9, -1000000000000, 5)], [], [(2, 0, 0, [12]), (2, 0, 0, [3]), (0, 5, 7, []), (0, 5, 5, []), (0, 0, 99999256, [])], 0, [], [(20, [5, 4, 9], [30, 0, 1, 1, 12, -1, 0, 0, -31, 0, 0]), (24, [0, 5], [])]), (100, [(0, (2, 0, 0, [12])), (1, (2, 0, 0, [3])), (2, (0, 5, 7, [])), (3, (0, 5, 5, [])), (4, (0, 6, 8, []))], [], (0, 0), [(0, 0, 99900), (1, 9, 8), (0, 0, 100000)], [(2, 3, -1000000000000, 2), (2, 4, -1000000000000, 7), (2, 7, -1000000000000, 0), (2, 8, -1000000000000, 2), (2, 9, -1000000000000, -1), (3, 2, -1000000000000, 0), (3, 4, -1000000000000, 5), (3, 7, -1000000000000, 0), (3, 8, -1000000000000, 0), (3, 9, -1000000000000, -1), (7, 2, -1000000000000, 0), (7, 3, -1000000000000, 2), (7, 4, -1000000000000, 7), (7, 8, -1000000000000, 2), (7, 9, -1000000000000, -1), (8, 2, -1000000000000, 0), (8, 3, -1000000000000, 0), (8, 4, -1000000000000, 5), (8, 7, -1000000000000, 0), (8, 9, -1000000000000, -1), (9, 2, -1000000000000, 3), (9, 3, -1000000000000, 3), (9, 4, -1000000000000, 8), (9, 7, -1000000000000, 3), (9, 8, -1000000000000, 3)], [], [(2, 0, 0, [12]), (2, 0, 0, [3]), (0, 5, 7, []), (0, 5, 5, []), (0, 0, 99999256, [])], 0, [], [(20, [5, 4, 9, 7], [30, 744, 1, 1, 12, -1, 0, 0, 0, 0, 0, 0, 0, 0]), (24, [0, 5], [])])]
def t_Ho_writeGroup_at_k5_ct : ct_L := [(1, 447, e_Ho_writeByte), (1, 471, e_Ho_writeNumber), (85, 461, e_Ho_writeWord_at_s5013), (136, 465, e_Ho_writeName_at_Grname), (190, 461, e_Ho_writeWord_at_s5014), (262, 461, e_Ho_writeWord_at_s5015), (1000001, 459, en_ro [] (2, 0, 0, [5013])), (1000001, 469, en_ro [] (2, 0, 0, [5014])), (1000001, 474, en_ro [] (2, 0, 0, [5015]))]
set_option maxRecDepth 100000 in
theorem c_Ho_writeGroup_at_k5 {l : Launch} {D : va_G} {kA : Nat → ClassId} (h_Ho_writeByte : ct_ok l D kA GG y_Ho_writeByte z_Ho_writeByte e_Ho_writeByte) (h_Ho_writeName_at_Grname : ct_ok l D kA GG y_Ho_writeName_at_Grname z_Ho_writeName_at_Grname e_Ho_writeName_at_Grname) (h_Ho_writeNumber : ct_ok l D kA GG y_Ho_writeNumber z_Ho_writeNumber e_Ho_writeNumber) (h_Ho_writeWord_at_s5013 : ct_ok l D kA GG y_Ho_writeWord_at_s5013 z_Ho_writeWord_at_s5013 e_Ho_writeWord_at_s5013) (h_Ho_writeWord_at_s5014 : ct_ok l D kA GG y_Ho_writeWord_at_s5014 z_Ho_writeWord_at_s5014 e_Ho_writeWord_at_s5014) (h_Ho_writeWord_at_s5015 : ct_ok l D kA GG y_Ho_writeWord_at_s5015 z_Ho_writeWord_at_s5015 e_Ho_writeWord_at_s5015) : ct_ok l D kA GG y_Ho_writeGroup_at_k5 z_Ho_writeGroup_at_k5 e_Ho_writeGroup_at_k5 := chk_all_ok (FT := [(132, 3, 0), (144, 3, 2), (169, 3, 4), (172, 3, 5), (175, 3, 6), (221, 3, 11), (224, 3, 13), (230, 3, 3), (233, 3, 12)]) (PT := []) (CT := t_Ho_writeGroup_at_k5_ct) (KT := []) (NT := []) (AN := n_Ho_writeGroup_at_k5_an) (OT := [o_Ho_writeGroup_at_k5_0, o_Ho_writeGroup_at_k5_1, o_Ho_writeGroup_at_k5_2, o_Ho_writeGroup_at_k5_3, o_Ho_writeGroup_at_k5_4, o_Ho_writeGroup_at_k5_5, o_Ho_writeGroup_at_k5_6, o_Ho_writeGroup_at_k5_7, o_Ho_writeGroup_at_k5_8, o_Ho_writeGroup_at_k5_9, o_Ho_writeGroup_at_k5_10, o_Ho_writeGroup_at_k5_11, o_Ho_writeGroup_at_k5_12, o_Ho_writeGroup_at_k5_13, o_Ho_writeGroup_at_k5_14]) 3 304 (List.forall_mem_cons.mpr ⟨oo_Ho_writeGroup_at_k5_0, List.forall_mem_cons.mpr ⟨oo_Ho_writeGroup_at_k5_1, List.forall_mem_cons.mpr ⟨oo_Ho_writeGroup_at_k5_2, List.forall_mem_cons.mpr ⟨oo_Ho_writeGroup_at_k5_3, List.forall_mem_cons.mpr ⟨oo_Ho_writeGroup_at_k5_4, List.forall_mem_cons.mpr ⟨oo_Ho_writeGroup_at_k5_5, List.forall_mem_cons.mpr ⟨oo_Ho_writeGroup_at_k5_6, List.forall_mem_cons.mpr ⟨oo_Ho_writeGroup_at_k5_7, List.forall_mem_cons.mpr ⟨oo_Ho_writeGroup_at_k5_8, List.forall_mem_cons.mpr ⟨oo_Ho_writeGroup_at_k5_9, List.forall_mem_cons.mpr ⟨oo_Ho_writeGroup_at_k5_10, List.forall_mem_cons.mpr ⟨oo_Ho_writeGroup_at_k5_11, List.forall_mem_cons.mpr ⟨oo_Ho_writeGroup_at_k5_12, List.forall_mem_cons.mpr ⟨oo_Ho_writeGroup_at_k5_13, List.forall_mem_cons.mpr ⟨oo_Ho_writeGroup_at_k5_14, List.forall_mem_nil _⟩⟩⟩⟩⟩⟩⟩⟩⟩⟩⟩⟩⟩⟩⟩) (by decide +kernel) ⟨List.forall_mem_cons.mpr ⟨gf_Ho_132, List.forall_mem_cons.mpr ⟨gf_Ho_144, List.forall_mem_cons.mpr ⟨gf_Ho_169, List.forall_mem_cons.mpr ⟨gf_Ho_172, List.forall_mem_cons.mpr ⟨gf_Ho_175, List.forall_mem_cons.mpr ⟨gf_Ho_221, List.forall_mem_cons.mpr ⟨gf_Ho_224, List.forall_mem_cons.mpr ⟨gf_Ho_230, List.forall_mem_cons.mpr ⟨gf_Ho_233, List.forall_mem_nil _⟩⟩⟩⟩⟩⟩⟩⟩⟩, List.forall_mem_nil _, List.forall_mem_cons.mpr ⟨cl_virtual (y := y_Ho_writeByte) (ci := 12) rfl rfl ⟨_, _, rfl⟩ (by decide +kernel) h_Ho_writeByte wm_2345 wm_1 wm_2342 wm_2344 wv_12_0 ⟨by decide, by decide, by decide +kernel⟩ (by decide), List.forall_mem_cons.mpr ⟨cl_virtual (y := y_Ho_writeNumber) (ci := 12) rfl rfl ⟨_, _, rfl⟩ (by decide +kernel) h_Ho_writeNumber wm_2354 wm_1 wm_2351 wm_2353 wv_12_2 ⟨by decide, by decide, by decide +kernel⟩ (by decide), List.forall_mem_cons.mpr ⟨cl_virtual (y := y_Ho_writeWord_at_s5013) (ci := 12) rfl rfl ⟨_, _, rfl⟩ (by decide +kernel) h_Ho_writeWord_at_s5013 wm_2339 wm_1 wm_2336 wm_2338 wv_11_15 ⟨by decide, by decide, by decide +kernel⟩ (by decide), List.forall_mem_cons.mpr ⟨cl_virtual (y := y_Ho_writeName_at_Grname) (ci := 12) rfl rfl ⟨_, _, rfl⟩ (by decide +kernel) h_Ho_writeName_at_Grname wm_2349 wm_1 wm_2346 wm_2348 wv_12_1 ⟨by decide, by decide, by decide +kernel⟩ (by decide), List.forall_mem_cons.mpr ⟨cl_virtual (y := y_Ho_writeWord_at_s5014) (ci := 12) rfl rfl ⟨_, _, rfl⟩ (by decide +kernel) h_Ho_writeWord_at_s5014 wm_2339 wm_1 wm_2336 wm_2338 wv_11_15 ⟨by decide, by decide, by decide +kernel⟩ (by decide), List.forall_mem_cons.mpr ⟨cl_virtual (y := y_Ho_writeWord_at_s5015) (ci := 12) rfl rfl ⟨_, _, rfl⟩ (by decide +kernel) h_Ho_writeWord_at_s5015 wm_2339 wm_1 wm_2336 wm_2338 wv_11_15 ⟨by decide, by decide, by decide +kernel⟩ (by decide), List.forall_mem_cons.mpr ⟨cl_ldcw (own := "DrawingHouse") (idx := 459) (i := 13) (tx := "node ") (by decide +kernel) (by decide +kernel) (by decide +kernel), List.forall_mem_cons.mpr ⟨cl_ldcw (own := "DrawingHouse") (idx := 469) (i := 14) (tx := " [size=") (by decide +kernel) (by decide +kernel) (by decide +kernel), List.forall_mem_cons.mpr ⟨cl_ldcw (own := "DrawingHouse") (idx := 474) (i := 15) (tx := ";\n") (by decide +kernel) (by decide +kernel) (by decide +kernel), List.forall_mem_nil _⟩⟩⟩⟩⟩⟩⟩⟩⟩, List.forall_mem_nil _, List.forall_mem_nil _, GG_pl⟩ (by decide +kernel)
def n_Mo_edge_an : List an_T := []
def t_Mo_edge_ct : ct_L := [(0, 387, e_Mo_in), (0, 521, e_Mo_isPlace), (1, 394, e_Mo_tail), (1, 398, e_Mo_head), (1, 401, e_Mo_edges), (1, 527, e_Mo_take), (1, 553, e_Mo_one), (1, 668, e_Mo_blocks), (1, 689, e_Mo_plane), (1, 737, e_Mo_weight), (1, 739, e_Mo_isBridge)]
set_option maxRecDepth 100000 in
theorem c_Mo_edge {l : Launch} {D : va_G} {kA : Nat → ClassId} (h_Mo_blocks : ct_ok l D kA GG y_Mo_blocks z_Mo_blocks e_Mo_blocks) (h_Mo_edges : ct_ok l D kA GG y_Mo_edges z_Mo_edges e_Mo_edges) (h_Mo_head : ct_ok l D kA GG y_Mo_head z_Mo_head e_Mo_head) (h_Mo_in : ct_ok l D kA GG y_Mo_in z_Mo_in e_Mo_in) (h_Mo_isBridge : ct_ok l D kA GG y_Mo_isBridge z_Mo_isBridge e_Mo_isBridge) (h_Mo_isPlace : ct_ok l D kA GG y_Mo_isPlace z_Mo_isPlace e_Mo_isPlace) (h_Mo_one : ct_ok l D kA GG y_Mo_one z_Mo_one e_Mo_one) (h_Mo_plane : ct_ok l D kA GG y_Mo_plane z_Mo_plane e_Mo_plane) (h_Mo_tail : ct_ok l D kA GG y_Mo_tail z_Mo_tail e_Mo_tail) (h_Mo_take : ct_ok l D kA GG y_Mo_take z_Mo_take e_Mo_take) (h_Mo_weight : ct_ok l D kA GG y_Mo_weight z_Mo_weight e_Mo_weight) : ct_ok l D kA GG y_Mo_edge z_Mo_edge e_Mo_edge := chk_all_ok (FT := [(32, 13, 17)]) (PT := []) (CT := t_Mo_edge_ct) (KT := []) (NT := []) (AN := n_Mo_edge_an) (OT := []) 0 328 (List.forall_mem_nil _) (by decide +kernel) ⟨List.forall_mem_cons.mpr ⟨gf_Mo_32, List.forall_mem_nil _⟩, List.forall_mem_nil _, List.forall_mem_cons.mpr ⟨cl_static (y := y_Mo_in) h_Mo_in wm_2971 wm_9 wm_2969 wm_2970 ⟨by decide, by decide, by decide +kernel⟩ (by decide), List.forall_mem_cons.mpr ⟨cl_static (y := y_Mo_isPlace) h_Mo_isPlace wm_2978 wm_9 wm_2976 wm_2977 ⟨by decide, by decide, by decide +kernel⟩ (by decide), List.forall_mem_cons.mpr ⟨cl_virtual (y := y_Mo_tail) (ci := 13) rfl rfl ⟨_, _, rfl⟩ (by decide +kernel) h_Mo_tail wm_3045 wm_9 wm_3042 wm_3044 wv_13_8 ⟨by decide, by decide, by decide +kernel⟩ (by decide), List.forall_mem_cons.mpr ⟨cl_virtual (y := y_Mo_head) (ci := 13) rfl rfl ⟨_, _, rfl⟩ (by decide +kernel) h_Mo_head wm_3049 wm_9 wm_3046 wm_3048 wv_13_9 ⟨by decide, by decide, by decide +kernel⟩ (by decide), List.forall_mem_cons.mpr ⟨cl_virtual (y := y_Mo_edges) (ci := 13) rfl rfl ⟨_, _, rfl⟩ (by decide +kernel) h_Mo_edges wm_3037 wm_9 wm_3034 wm_3036 wv_13_6 ⟨by decide, by decide, by decide +kernel⟩ (by decide), List.forall_mem_cons.mpr ⟨cl_virtual (y := y_Mo_take) (ci := 13) rfl rfl ⟨_, _, rfl⟩ (by decide +kernel) h_Mo_take wm_3091 wm_9 wm_3088 wm_3090 wv_14_2 ⟨by decide, by decide, by decide +kernel⟩ (by decide), List.forall_mem_cons.mpr ⟨cl_virtual (y := y_Mo_one) (ci := 13) rfl rfl ⟨_, _, rfl⟩ (by decide +kernel) h_Mo_one wm_3299 wm_9 wm_3296 wm_3298 wv_16_15 ⟨by decide, by decide, by decide +kernel⟩ (by decide), List.forall_mem_cons.mpr ⟨cl_virtual (y := y_Mo_blocks) (ci := 13) rfl rfl ⟨_, _, rfl⟩ (by decide +kernel) h_Mo_blocks wm_3155 wm_9 wm_3152 wm_3154 wv_14_14 ⟨by decide, by decide, by decide +kernel⟩ (by decide), List.forall_mem_cons.mpr ⟨cl_virtual (y := y_Mo_plane) (ci := 13) rfl rfl ⟨_, _, rfl⟩ (by decide +kernel) h_Mo_plane wm_3147 wm_9 wm_3144 wm_3146 wv_14_12 ⟨by decide, by decide, by decide +kernel⟩ (by decide), List.forall_mem_cons.mpr ⟨cl_virtual (y := y_Mo_weight) (ci := 13) rfl rfl ⟨_, _, rfl⟩ (by decide +kernel) h_Mo_weight wm_3339 wm_9 wm_3336 wm_3338 wv_17_7 ⟨by decide, by decide, by decide +kernel⟩ (by decide), List.forall_mem_cons.mpr ⟨cl_virtual (y := y_Mo_isBridge) (ci := 13) rfl rfl ⟨_, _, rfl⟩ (by decide +kernel) h_Mo_isBridge wm_3343 wm_9 wm_3340 wm_3342 wv_17_8 ⟨by decide, by decide, by decide +kernel⟩ (by decide), List.forall_mem_nil _⟩⟩⟩⟩⟩⟩⟩⟩⟩⟩⟩, List.forall_mem_nil _, List.forall_mem_nil _, GG_pl⟩ (by decide +kernel)
def o_Re_readValue_at_s5002_0 : or_T := (1, 3, [(0, (2, 0, 0, [8]))], [], [], [(0, -2147483648, 1000000, [])], [(20, [0, 3], [30, 0, 1, 1, 9, -1, 0, 0]), (20, [0, 3], [30, 0, -1, 1, 9, 1, 0, 0])], [], [])
theorem oo_Re_readValue_at_s5002_0 {kA : Nat → ClassId} : or_ok kA GG o_Re_readValue_at_s5002_0 := by
  intro A ta ws vs hD hth hl hk hds hf
  have hl : vs.length = 3 := hl
  have hk : ∀ q ∈ ([(0, (2, 0, 0, [8]))] : List (Nat × tv_T)), tv_ok ta q.2 (n_v vs q.1) := hk
  obtain ⟨t0, hk⟩ := List.forall_mem_cons.mp hk
  have t0 : tv_ok ta (2, 0, 0, [8]) (n_v vs 0) := t0
  have r0 : ta (v_ad (n_v vs 0)) = some 8 := tv_rg t0
  have kz_0_9 : (-2147483648) ≤ w_fi ws (n_v vs 0) 9 ∧ w_fi ws (n_v vs 0) 9 ≤ 1000000 := tv_rng (th_fd hD hth r0 (g := GG_8) rfl (k := 9) (t := (0, -2147483648, 1000000, [])) rfl rfl)
  have kv0 : (-2147483648) ≤ w_fi ws (n_v vs 0) 9 ∧ w_fi ws (n_v vs 0) 9 ≤ 1000000 := tv_rng (th_fd hD hth r0 (g := GG_8) rfl (k := 9) (t := (0, -2147483648, 1000000, [])) rfl rfl)
  obtain ⟨x, ex, hx⟩ := iv_ex (ta := ta) (lo := (-2147483648)) (hi := 1000000) (z := w_fi ws (n_v vs 0) 9) (by omega) (by omega) (by omega) (by omega)
  have ex2 : v_iv (Value.int x) = w_fi ws (n_v vs 0) 9 := ex
  have ex3 : (-2147483648) ≤ v_iv (Value.int x) ∧ v_iv (Value.int x) ≤ 1000000 := tv_rng hx
  have e_0 : n_v (vs ++ [Value.int x]) 0 = n_v vs 0 := n_v_old (by rw [hl]; decide)
  have e_3 : n_v (vs ++ [Value.int x]) 3 = Value.int x := n_v_new hl
  have nf0 : fc_1 (20, [0, 3], [30, 0, 1, 1, 9, -1, 0, 0]) ws (vs ++ [Value.int x]) := by
    refine ⟨fun n hn => ?_, ?_⟩
    · have hn : n ∈ [0, 3] := hn
      rw [List.length_append, hl]
      simp only [List.mem_cons, List.not_mem_nil, or_false] at hn
      show n < 3 + 1; omega
    · show 1 * w_fi ws (n_v (vs ++ [Value.int x]) 0) 9 + ((-1) * v_iv (n_v (vs ++ [Value.int x]) 3) + 0) ≤ 0
      rw [e_0]
      rw [e_3]
      omega
  have nf1 : fc_1 (20, [0, 3], [30, 0, -1, 1, 9, 1, 0, 0]) ws (vs ++ [Value.int x]) := by
    refine ⟨fun n hn => ?_, ?_⟩
    · have hn : n ∈ [0, 3] := hn
      rw [List.length_append, hl]
      simp only [List.mem_cons, List.not_mem_nil, or_false] at hn
      show n < 3 + 1; omega
    · show (-1) * w_fi ws (n_v (vs ++ [Value.int x]) 0) 9 + (1 * v_iv (n_v (vs ++ [Value.int x]) 3) + 0) ≤ 0
      rw [e_0]
      rw [e_3]
      omega
  exact ⟨(fun _ h => (by cases h)), [Value.int x], ag_one hx, List.forall_mem_cons.mpr ⟨⟨show (20 : Nat) < 100 from by decide, nf0⟩, List.forall_mem_cons.mpr ⟨⟨show (20 : Nat) < 100 from by decide, nf1⟩, (fun _ h => (by cases h))⟩⟩, (fun _ h => (by cases h))⟩
def o_Re_readValue_at_s5002_1 : or_T := (33, 7, [(0, (2, 0, 0, [8])), (3, (0, -2147483648, 1000000, []))], [(20, [0, 0, 3], [31, 1, 3, 1, 1, 7, 0, 1, 1, 9, -1, 0, 0]), (20, [0, 0, 3], [31, 1, 3, 1, 1, 7, 0, -1, 1, 9, 1, 0, 0]), (20, [0, 0, 0, 0], [31, 1, -3, -1, 1, 7, 4008, 1, 1, 6, -1, 1, 8, 2000, 1, 7]), (20, [0, 0], [30, 0, 1, 1, 8, -1, 1, 6])], [], [(0, -2147483648, 1000000, [])], [(20, [0, 7], [30, 0, 1, 1, 9, -1, 0, 0]), (20, [0, 7], [30, 0, -1, 1, 9, 1, 0, 0])], [], [])
theorem oo_Re_readValue_at_s5002_1 {kA : Nat → ClassId} : or_ok kA GG o_Re_readValue_at_s5002_1 := by
  intro A ta ws vs hD hth hl hk hds hf
  have hl : vs.length = 7 := hl
  have hk : ∀ q ∈ ([(0, (2, 0, 0, [8])), (3, (0, -2147483648, 1000000, []))] : List (Nat × tv_T)), tv_ok ta q.2 (n_v vs q.1) := hk
  obtain ⟨t0, hk⟩ := List.forall_mem_cons.mp hk
  have t0 : tv_ok ta (2, 0, 0, [8]) (n_v vs 0) := t0
  have r0 : ta (v_ad (n_v vs 0)) = some 8 := tv_rg t0
  obtain ⟨t3, hk⟩ := List.forall_mem_cons.mp hk
  have t3 : tv_ok ta (0, -2147483648, 1000000, []) (n_v vs 3) := t3
  have k3 : (-2147483648) ≤ v_iv (n_v vs 3) ∧ v_iv (n_v vs 3) ≤ 1000000 := tv_rng t3
  have hf : fc_ok [(20, [0, 0, 3], [31, 1, 3, 1, 1, 7, 0, 1, 1, 9, -1, 0, 0]), (20, [0, 0, 3], [31, 1, 3, 1, 1, 7, 0, -1, 1, 9, 1, 0, 0]), (20, [0, 0, 0, 0], [31, 1, -3, -1, 1, 7, 4008, 1, 1, 6, -1, 1, 8, 2000, 1, 7]), (20, [0, 0], [30, 0, 1, 1, 8, -1, 1, 6])] ta ws vs := hf
  obtain ⟨f0, hf⟩ := fc_un (show (20 : Nat) < 100 from by decide) hf
  have f0 : (1 * w_fi ws (n_v vs 0) 7 + 0 ≤ 3) ∨ (1 * w_fi ws (n_v vs 0) 9 + ((-1) * v_iv (n_v vs 3) + 0) ≤ 0) := f0
  obtain ⟨f1, hf⟩ := fc_un (show (20 : Nat) < 100 from by decide) hf
  have f1 : (1 * w_fi ws (n_v vs 0) 7 + 0 ≤ 3) ∨ ((-1) * w_fi ws (n_v vs 0) 9 + (1 * v_iv (n_v vs 3) + 0) ≤ 0) := f1
  obtain ⟨f2, hf⟩ := fc_un (show (20 : Nat) < 100 from by decide) hf
  have f2 : ((-1) * w_fi ws (n_v vs 0) 7 + 0 ≤ (-3)) ∨ (1 * w_fi ws (n_v vs 0) 6 + ((-1) * w_fi ws (n_v vs 0) 8 + (2000 * w_fi ws (n_v vs 0) 7 + 0)) ≤ 4008) := f2
  obtain ⟨f3, hf⟩ := fc_un (show (20 : Nat) < 100 from by decide) hf
  have f3 : 1 * w_fi ws (n_v vs 0) 8 + ((-1) * w_fi ws (n_v vs 0) 6 + 0) ≤ 0 := f3
  have kz_0_6 : 0 ≤ w_fi ws (n_v vs 0) 6 ∧ w_fi ws (n_v vs 0) 6 ≤ 2000 := tv_rng (th_fd hD hth r0 (g := GG_8) rfl (k := 6) (t := (0, 0, 2000, [])) rfl rfl)
  have kz_0_7 : (-128) ≤ w_fi ws (n_v vs 0) 7 ∧ w_fi ws (n_v vs 0) 7 ≤ 127 := tv_rng (th_fd hD hth r0 (g := GG_8) rfl (k := 7) (t := (0, -128, 127, [])) rfl rfl)
  have kz_0_8 : 0 ≤ w_fi ws (n_v vs 0) 8 ∧ w_fi ws (n_v vs 0) 8 ≤ 2000 := tv_rng (th_fd hD hth r0 (g := GG_8) rfl (k := 8) (t := (0, 0, 2000, [])) rfl rfl)
  have kz_0_9 : (-2147483648) ≤ w_fi ws (n_v vs 0) 9 ∧ w_fi ws (n_v vs 0) 9 ≤ 1000000 := tv_rng (th_fd hD hth r0 (g := GG_8) rfl (k := 9) (t := (0, -2147483648, 1000000, [])) rfl rfl)
  have kv0 : (-2147483648) ≤ w_fi ws (n_v vs 0) 9 ∧ w_fi ws (n_v vs 0) 9 ≤ 1000000 := tv_rng (th_fd hD hth r0 (g := GG_8) rfl (k := 9) (t := (0, -2147483648, 1000000, [])) rfl rfl)
  obtain ⟨x, ex, hx⟩ := iv_ex (ta := ta) (lo := (-2147483648)) (hi := 1000000) (z := w_fi ws (n_v vs 0) 9) (by omega) (by omega) (by omega) (by omega)
  have ex2 : v_iv (Value.int x) = w_fi ws (n_v vs 0) 9 := ex
  have ex3 : (-2147483648) ≤ v_iv (Value.int x) ∧ v_iv (Value.int x) ≤ 1000000 := tv_rng hx
  have e_0 : n_v (vs ++ [Value.int x]) 0 = n_v vs 0 := n_v_old (by rw [hl]; decide)
  have e_7 : n_v (vs ++ [Value.int x]) 7 = Value.int x := n_v_new hl
  have nf0 : fc_1 (20, [0, 7], [30, 0, 1, 1, 9, -1, 0, 0]) ws (vs ++ [Value.int x]) := by
    refine ⟨fun n hn => ?_, ?_⟩
    · have hn : n ∈ [0, 7] := hn
      rw [List.length_append, hl]
      simp only [List.mem_cons, List.not_mem_nil, or_false] at hn
      show n < 7 + 1; omega
    · show 1 * w_fi ws (n_v (vs ++ [Value.int x]) 0) 9 + ((-1) * v_iv (n_v (vs ++ [Value.int x]) 7) + 0) ≤ 0
      rw [e_0]
      rw [e_7]
      omega
  have nf1 : fc_1 (20, [0, 7], [30, 0, -1, 1, 9, 1, 0, 0]) ws (vs ++ [Value.int x]) := by
    refine ⟨fun n hn => ?_, ?_⟩
    · have hn : n ∈ [0, 7] := hn
      rw [List.length_append, hl]
      simp only [List.mem_cons, List.not_mem_nil, or_false] at hn
      show n < 7 + 1; omega
    · show (-1) * w_fi ws (n_v (vs ++ [Value.int x]) 0) 9 + (1 * v_iv (n_v (vs ++ [Value.int x]) 7) + 0) ≤ 0
      rw [e_0]
      rw [e_7]
      omega
  exact ⟨(fun _ h => (by cases h)), [Value.int x], ag_one hx, List.forall_mem_cons.mpr ⟨⟨show (20 : Nat) < 100 from by decide, nf0⟩, List.forall_mem_cons.mpr ⟨⟨show (20 : Nat) < 100 from by decide, nf1⟩, (fun _ h => (by cases h))⟩⟩, (fun _ h => (by cases h))⟩
def o_Re_readValue_at_s5002_2 : or_T := (52, 10, [(0, (2, 0, 0, [8])), (7, (0, -2147483648, 1000000, [])), (8, (0, 61, 61, [])), (9, (0, 61, 61, []))], [(7, [8, 9], [0]), (9, [8, 0], [7]), (20, [0, 0, 7], [31, 1, 3, 1, 1, 7, 0, 1, 1, 9, -1, 0, 0]), (20, [0, 0, 7], [31, 1, 3, 1, 1, 7, 0, -1, 1, 9, 1, 0, 0]), (20, [0, 0, 0, 0], [31, 1, -3, -1, 1, 7, 4008, 1, 1, 6, -1, 1, 8, 2000, 1, 7]), (20, [0, 0], [30, 0, 1, 1, 8, -1, 1, 6])], [], [(0, -2147483648, 1000000, [])], [(20, [0, 10], [30, 0, 1, 1, 9, -1, 0, 0]), (20, [0, 10], [30, 0, -1, 1, 9, 1, 0, 0])], [], [])
theorem oo_Re_readValue_at_s5002_2 {kA : Nat → ClassId} : or_ok kA GG o_Re_readValue_at_s5002_2 := by
  intro A ta ws vs hD hth hl hk hds hf
  have hl : vs.length = 10 := hl
  have hk : ∀ q ∈ ([(0, (2, 0, 0, [8])), (7, (0, -2147483648, 1000000, [])), (8, (0, 61, 61, [])), (9, (0, 61, 61, []))] : List (Nat × tv_T)), tv_ok ta q.2 (n_v vs q.1) := hk
  obtain ⟨t0, hk⟩ := List.forall_mem_cons.mp hk
  have t0 : tv_ok ta (2, 0, 0, [8]) (n_v vs 0) := t0
  have r0 : ta (v_ad (n_v vs 0)) = some 8 := tv_rg t0
  obtain ⟨t7, hk⟩ := List.forall_mem_cons.mp hk
  have t7 : tv_ok ta (0, -2147483648, 1000000, []) (n_v vs 7) := t7
  have k7 : (-2147483648) ≤ v_iv (n_v vs 7) ∧ v_iv (n_v vs 7) ≤ 1000000 := tv_rng t7
  obtain ⟨t8, hk⟩ := List.forall_mem_cons.mp hk
  have t8 : tv_ok ta (0, 61, 61, []) (n_v vs 8) := t8
  have k8 : 61 ≤ v_iv (n_v vs 8) ∧ v_iv (n_v vs 8) ≤ 61 := tv_rng t8
  obtain ⟨t9, hk⟩ := List.forall_mem_cons.mp hk
  have t9 : tv_ok ta (0, 61, 61, []) (n_v vs 9) := t9
  have k9 : 61 ≤ v_iv (n_v vs 9) ∧ v_iv (n_v vs 9) ≤ 61 := tv_rng t9
  have hf : fc_ok [(7, [8, 9], [0]), (9, [8, 0], [7]), (20, [0, 0, 7], [31, 1, 3, 1, 1, 7, 0, 1, 1, 9, -1, 0, 0]), (20, [0, 0, 7], [31, 1, 3, 1, 1, 7, 0, -1, 1, 9, 1, 0, 0]), (20, [0, 0, 0, 0], [31, 1, -3, -1, 1, 7, 4008, 1, 1, 6, -1, 1, 8, 2000, 1, 7]), (20, [0, 0], [30, 0, 1, 1, 8, -1, 1, 6])] ta ws vs := hf
  obtain ⟨f0, hf⟩ := fc_un (show (7 : Nat) < 100 from by decide) hf
  have f0 : v_iv (n_v vs 8) = v_iv (n_v vs 9) := f0
  obtain ⟨f1, hf⟩ := fc_un (show (9 : Nat) < 100 from by decide) hf
  have f1 : n_v vs 8 = w_fd ws (v_ad (n_v vs 0)) 7 := f1
  obtain ⟨f2, hf⟩ := fc_un (show (20 : Nat) < 100 from by decide) hf
  have f2 : (1 * w_fi ws (n_v vs 0) 7 + 0 ≤ 3) ∨ (1 * w_fi ws (n_v vs 0) 9 + ((-1) * v_iv (n_v vs 7) + 0) ≤ 0) := f2
  obtain ⟨f3, hf⟩ := fc_un (show (20 : Nat) < 100 from by decide) hf
  have f3 : (1 * w_fi ws (n_v vs 0) 7 + 0 ≤ 3) ∨ ((-1) * w_fi ws (n_v vs 0) 9 + (1 * v_iv (n_v vs 7) + 0) ≤ 0) := f3
  obtain ⟨f4, hf⟩ := fc_un (show (20 : Nat) < 100 from by decide) hf
  have f4 : ((-1) * w_fi ws (n_v vs 0) 7 + 0 ≤ (-3)) ∨ (1 * w_fi ws (n_v vs 0) 6 + ((-1) * w_fi ws (n_v vs 0) 8 + (2000 * w_fi ws (n_v vs 0) 7 + 0)) ≤ 4008) := f4
  obtain ⟨f5, hf⟩ := fc_un (show (20 : Nat) < 100 from by decide) hf
  have f5 : 1 * w_fi ws (n_v vs 0) 8 + ((-1) * w_fi ws (n_v vs 0) 6 + 0) ≤ 0 := f5
  have g1 : v_iv (n_v vs 8) = w_fi ws (n_v vs 0) 7 := congrArg v_iv f1
  have kz_0_6 : 0 ≤ w_fi ws (n_v vs 0) 6 ∧ w_fi ws (n_v vs 0) 6 ≤ 2000 := tv_rng (th_fd hD hth r0 (g := GG_8) rfl (k := 6) (t := (0, 0, 2000, [])) rfl rfl)
  have kz_0_7 : (-128) ≤ w_fi ws (n_v vs 0) 7 ∧ w_fi ws (n_v vs 0) 7 ≤ 127 := tv_rng (th_fd hD hth r0 (g := GG_8) rfl (k := 7) (t := (0, -128, 127, [])) rfl rfl)
  have kz_0_8 : 0 ≤ w_fi ws (n_v vs 0) 8 ∧ w_fi ws (n_v vs 0) 8 ≤ 2000 := tv_rng (th_fd hD hth r0 (g := GG_8) rfl (k := 8) (t := (0, 0, 2000, [])) rfl rfl)
  have kz_0_9 : (-2147483648) ≤ w_fi ws (n_v vs 0) 9 ∧ w_fi ws (n_v vs 0) 9 ≤ 1000000 := tv_rng (th_fd hD hth r0 (g := GG_8) rfl (k := 9) (t := (0, -2147483648, 1000000, [])) rfl rfl)
  have kv0 : (-2147483648) ≤ w_fi ws (n_v vs 0) 9 ∧ w_fi ws (n_v vs 0) 9 ≤ 1000000 := tv_rng (th_fd hD hth r0 (g := GG_8) rfl (k := 9) (t := (0, -2147483648, 1000000, [])) rfl rfl)
  obtain ⟨x, ex, hx⟩ := iv_ex (ta := ta) (lo := (-2147483648)) (hi := 1000000) (z := w_fi ws (n_v vs 0) 9) (by omega) (by omega) (by omega) (by omega)
  have ex2 : v_iv (Value.int x) = w_fi ws (n_v vs 0) 9 := ex
  have ex3 : (-2147483648) ≤ v_iv (Value.int x) ∧ v_iv (Value.int x) ≤ 1000000 := tv_rng hx
  have e_0 : n_v (vs ++ [Value.int x]) 0 = n_v vs 0 := n_v_old (by rw [hl]; decide)
  have e_10 : n_v (vs ++ [Value.int x]) 10 = Value.int x := n_v_new hl
  have nf0 : fc_1 (20, [0, 10], [30, 0, 1, 1, 9, -1, 0, 0]) ws (vs ++ [Value.int x]) := by
    refine ⟨fun n hn => ?_, ?_⟩
    · have hn : n ∈ [0, 10] := hn
      rw [List.length_append, hl]
      simp only [List.mem_cons, List.not_mem_nil, or_false] at hn
      show n < 10 + 1; omega
    · show 1 * w_fi ws (n_v (vs ++ [Value.int x]) 0) 9 + ((-1) * v_iv (n_v (vs ++ [Value.int x]) 10) + 0) ≤ 0
      rw [e_0]
      rw [e_10]
      omega
  have nf1 : fc_1 (20, [0, 10], [30, 0, -1, 1, 9, 1, 0, 0]) ws (vs ++ [Value.int x]) := by
    refine ⟨fun n hn => ?_, ?_⟩
    · have hn : n ∈ [0, 10] := hn
      rw [List.length_append, hl]
      simp only [List.mem_cons, List.not_mem_nil, or_false] at hn
      show n < 10 + 1; omega
    · show (-1) * w_fi ws (n_v (vs ++ [Value.int x]) 0) 9 + (1 * v_iv (n_v (vs ++ [Value.int x]) 10) + 0) ≤ 0
      rw [e_0]
      rw [e_10]
      omega
  exact ⟨(fun _ h => (by cases h)), [Value.int x], ag_one hx, List.forall_mem_cons.mpr ⟨⟨show (20 : Nat) < 100 from by decide, nf0⟩, List.forall_mem_cons.mpr ⟨⟨show (20 : Nat) < 100 from by decide, nf1⟩, (fun _ h => (by cases h))⟩⟩, (fun _ h => (by cases h))⟩
def o_Re_readValue_at_s5002_3 : or_T := (90, 17, [(0, (2, 0, 0, [8])), (2, (0, 99, 99, [])), (10, (0, -2147483648, 1000000, [])), (16, (0, 0, 0, []))], [(20, [0, 0, 10], [31, 1, 3, 1, 1, 7, 0, 1, 1, 9, -1, 0, 0]), (20, [0, 0, 10], [31, 1, 3, 1, 1, 7, 0, -1, 1, 9, 1, 0, 0]), (20, [0, 0, 0, 0], [31, 1, -3, -1, 1, 7, 4008, 1, 1, 6, -1, 1, 8, 2000, 1, 7]), (20, [0, 0], [30, 0, 1, 1, 8, -1, 1, 6])], [], [], [(20, [16, 0, 2], [31, 1, 0, 1, 0, 0, 0, 1, 1, 9, -1, 0, 0]), (20, [16, 0], [31, 1, 0, 1, 0, 0, -1, -1, 1, 9])], [], [])
theorem oo_Re_readValue_at_s5002_3 {kA : Nat → ClassId} : or_ok kA GG o_Re_readValue_at_s5002_3 := by
  intro A ta ws vs hD hth hl hk hds hf
  have hl : vs.length = 17 := hl
  have hk : ∀ q ∈ ([(0, (2, 0, 0, [8])), (2, (0, 99, 99, [])), (10, (0, -2147483648, 1000000, [])), (16, (0, 0, 0, []))] : List (Nat × tv_T)), tv_ok ta q.2 (n_v vs q.1) := hk
  obtain ⟨t0, hk⟩ := List.forall_mem_cons.mp hk
  have t0 : tv_ok ta (2, 0, 0, [8]) (n_v vs 0) := t0
  have r0 : ta (v_ad (n_v vs 0)) = some 8 := tv_rg t0
  obtain ⟨t2, hk⟩ := List.forall_mem_cons.mp hk
  have t2 : tv_ok ta (0, 99, 99, []) (n_v vs 2) := t2
  have k2 : 99 ≤ v_iv (n_v vs 2) ∧ v_iv (n_v vs 2) ≤ 99 := tv_rng t2
  obtain ⟨t10, hk⟩ := List.forall_mem_cons.mp hk
  have t10 : tv_ok ta (0, -2147483648, 1000000, []) (n_v vs 10) := t10
  have k10 : (-2147483648) ≤ v_iv (n_v vs 10) ∧ v_iv (n_v vs 10) ≤ 1000000 := tv_rng t10
  obtain ⟨t16, hk⟩ := List.forall_mem_cons.mp hk
  have t16 : tv_ok ta (0, 0, 0, []) (n_v vs 16) := t16
  have k16 : 0 ≤ v_iv (n_v vs 16) ∧ v_iv (n_v vs 16) ≤ 0 := tv_rng t16
  have hf : fc_ok [(20, [0, 0, 10], [31, 1, 3, 1, 1, 7, 0, 1, 1, 9, -1, 0, 0]), (20, [0, 0, 10], [31, 1, 3, 1, 1, 7, 0, -1, 1, 9, 1, 0, 0]), (20, [0, 0, 0, 0], [31, 1, -3, -1, 1, 7, 4008, 1, 1, 6, -1, 1, 8, 2000, 1, 7]), (20, [0, 0], [30, 0, 1, 1, 8, -1, 1, 6])] ta ws vs := hf
  obtain ⟨f0, hf⟩ := fc_un (show (20 : Nat) < 100 from by decide) hf
  have f0 : (1 * w_fi ws (n_v vs 0) 7 + 0 ≤ 3) ∨ (1 * w_fi ws (n_v vs 0) 9 + ((-1) * v_iv (n_v vs 10) + 0) ≤ 0) := f0
  obtain ⟨f1, hf⟩ := fc_un (show (20 : Nat) < 100 from by decide) hf
  have f1 : (1 * w_fi ws (n_v vs 0) 7 + 0 ≤ 3) ∨ ((-1) * w_fi ws (n_v vs 0) 9 + (1 * v_iv (n_v vs 10) + 0) ≤ 0) := f1
  obtain ⟨f2, hf⟩ := fc_un (show (20 : Nat) < 100 from by decide) hf
  have f2 : ((-1) * w_fi ws (n_v vs 0) 7 + 0 ≤ (-3)) ∨ (1 * w_fi ws (n_v vs 0) 6 + ((-1) * w_fi ws (n_v vs 0) 8 + (2000 * w_fi ws (n_v vs 0) 7 + 0)) ≤ 4008) := f2
  obtain ⟨f3, hf⟩ := fc_un (show (20 : Nat) < 100 from by decide) hf
  have f3 : 1 * w_fi ws (n_v vs 0) 8 + ((-1) * w_fi ws (n_v vs 0) 6 + 0) ≤ 0 := f3
  have kz_0_6 : 0 ≤ w_fi ws (n_v vs 0) 6 ∧ w_fi ws (n_v vs 0) 6 ≤ 2000 := tv_rng (th_fd hD hth r0 (g := GG_8) rfl (k := 6) (t := (0, 0, 2000, [])) rfl rfl)
  have kz_0_7 : (-128) ≤ w_fi ws (n_v vs 0) 7 ∧ w_fi ws (n_v vs 0) 7 ≤ 127 := tv_rng (th_fd hD hth r0 (g := GG_8) rfl (k := 7) (t := (0, -128, 127, [])) rfl rfl)
  have kz_0_8 : 0 ≤ w_fi ws (n_v vs 0) 8 ∧ w_fi ws (n_v vs 0) 8 ≤ 2000 := tv_rng (th_fd hD hth r0 (g := GG_8) rfl (k := 8) (t := (0, 0, 2000, [])) rfl rfl)
  have kz_0_9 : (-2147483648) ≤ w_fi ws (n_v vs 0) 9 ∧ w_fi ws (n_v vs 0) 9 ≤ 1000000 := tv_rng (th_fd hD hth r0 (g := GG_8) rfl (k := 9) (t := (0, -2147483648, 1000000, [])) rfl rfl)
  have nf0 : fc_1 (20, [16, 0, 2], [31, 1, 0, 1, 0, 0, 0, 1, 1, 9, -1, 0, 0]) ws (vs) := by
    refine ⟨fun n hn => ?_, ?_⟩
    · have hn : n ∈ [16, 0, 2] := hn
      rw [hl]
      simp only [List.mem_cons, List.not_mem_nil, or_false] at hn
      show n < 17; omega
    · show (1 * v_iv (n_v vs 16) + 0 ≤ 0) ∨ (1 * w_fi ws (n_v vs 0) 9 + ((-1) * v_iv (n_v vs 2) + 0) ≤ 0)
      omega
  have nf1 : fc_1 (20, [16, 0], [31, 1, 0, 1, 0, 0, -1, -1, 1, 9]) ws (vs) := by
    refine ⟨fun n hn => ?_, ?_⟩
    · have hn : n ∈ [16, 0] := hn
      rw [hl]
      simp only [List.mem_cons, List.not_mem_nil, or_false] at hn
      show n < 17; omega
    · show (1 * v_iv (n_v vs 16) + 0 ≤ 0) ∨ ((-1) * w_fi ws (n_v vs 0) 9 + 0 ≤ (-1))
      omega
  refine ⟨(fun _ h => (by cases h)), [], trivial, ?_, (fun _ h => (by cases h))⟩
  rw [List.append_nil]
  exact List.forall_mem_cons.mpr ⟨⟨show (20 : Nat) < 100 from by decide, nf0⟩, List.forall_mem_cons.mpr ⟨⟨show (20 : Nat) < 100 from by decide, nf1⟩, (fun _ h => (by cases h))⟩⟩
def o_Re_readValue_at_s5002_4 : or_T := (92, 15, [(0, (2, 0, 0, [8])), (2, (0, 99, 99, [])), (10, (0, -2147483648, 1000000, [])), (11, (0, 3, 3, [])), (12, (0, 3, 3, [])), (13, (0, 1, 99, [])), (14, (0, 1, 1, []))], [(7, [13, 2], [5]), (9, [13, 0], [9]), (7, [13, 14], [3]), (7, [11, 12], [0]), (9, [11, 0], [7]), (20, [0, 0, 10], [31, 1, 3, 1, 1, 7, 0, 1, 1, 9, -1, 0, 0]), (20, [0, 0, 10], [31, 1, 3, 1, 1, 7, 0, -1, 1, 9, 1, 0, 0]), (20, [0, 0, 0, 0], [31, 1, -3, -1, 1, 7, 4008, 1, 1, 6, -1, 1, 8, 2000, 1, 7]), (20, [0, 0], [30, 0, 1, 1, 8, -1, 1, 6])], [], [(0, -2147483648, 1000000, [])], [(20, [0, 15], [30, 0, 1, 1, 9, -1, 0, 0]), (20, [0, 15], [30, 0, -1, 1, 9, 1, 0, 0]), (23, [15, 13], [0, 1, -1]), (23, [15, 13], [0, -1, 1])], [], [])
theorem oo_Re_readValue_at_s5002_4 {kA : Nat → ClassId} : or_ok kA GG o_Re_readValue_at_s5002_4 := by
  intro A ta ws vs hD hth hl hk hds hf
  have hl : vs.length = 15 := hl
  have hk : ∀ q ∈ ([(0, (2, 0, 0, [8])), (2, (0, 99, 99, [])), (10, (0, -2147483648, 1000000, [])), (11, (0, 3, 3, [])), (12, (0, 3, 3, [])), (13, (0, 1, 99, [])), (14, (0, 1, 1, []))] : List (Nat × tv_T)), tv_ok ta q.2 (n_v vs q.1) := hk
  obtain ⟨t0, hk⟩ := List.forall_mem_cons.mp hk
  have t0 : tv_ok ta (2, 0, 0, [8]) (n_v vs 0) := t0
  have r0 : ta (v_ad (n_v vs 0)) = some 8 := tv_rg t0
  obtain ⟨t2, hk⟩ := List.forall_mem_cons.mp hk
  have t2 : tv_ok ta (0, 99, 99, []) (n_v vs 2) := t2
  have k2 : 99 ≤ v_iv (n_v vs 2) ∧ v_iv (n_v vs 2) ≤ 99 := tv_rng t2
  obtain ⟨t10, hk⟩ := List.forall_mem_cons.mp hk
  have t10 : tv_ok ta (0, -2147483648, 1000000, []) (n_v vs 10) := t10
  have k10 : (-2147483648) ≤ v_iv (n_v vs 10) ∧ v_iv (n_v vs 10) ≤ 1000000 := tv_rng t10
  obtain ⟨t11, hk⟩ := List.forall_mem_cons.mp hk
  have t11 : tv_ok ta (0, 3, 3, []) (n_v vs 11) := t11
  have k11 : 3 ≤ v_iv (n_v vs 11) ∧ v_iv (n_v vs 11) ≤ 3 := tv_rng t11
  obtain ⟨t12, hk⟩ := List.forall_mem_cons.mp hk
  have t12 : tv_ok ta (0, 3, 3, []) (n_v vs 12) := t12
  have k12 : 3 ≤ v_iv (n_v vs 12) ∧ v_iv (n_v vs 12) ≤ 3 := tv_rng t12
  obtain ⟨t13, hk⟩ := List.forall_mem_cons.mp hk
  have t13 : tv_ok ta (0, 1, 99, []) (n_v vs 13) := t13
  have k13 : 1 ≤ v_iv (n_v vs 13) ∧ v_iv (n_v vs 13) ≤ 99 := tv_rng t13
  obtain ⟨t14, hk⟩ := List.forall_mem_cons.mp hk
  have t14 : tv_ok ta (0, 1, 1, []) (n_v vs 14) := t14
  have k14 : 1 ≤ v_iv (n_v vs 14) ∧ v_iv (n_v vs 14) ≤ 1 := tv_rng t14
  have hf : fc_ok [(7, [13, 2], [5]), (9, [13, 0], [9]), (7, [13, 14], [3]), (7, [11, 12], [0]), (9, [11, 0], [7]), (20, [0, 0, 10], [31, 1, 3, 1, 1, 7, 0, 1, 1, 9, -1, 0, 0]), (20, [0, 0, 10], [31, 1, 3, 1, 1, 7, 0, -1, 1, 9, 1, 0, 0]), (20, [0, 0, 0, 0], [31, 1, -3, -1, 1, 7, 4008, 1, 1, 6, -1, 1, 8, 2000, 1, 7]), (20, [0, 0], [30, 0, 1, 1, 8, -1, 1, 6])] ta ws vs := hf
  obtain ⟨f0, hf⟩ := fc_un (show (7 : Nat) < 100 from by decide) hf
  have f0 : v_iv (n_v vs 13) ≤ v_iv (n_v vs 2) := f0
  obtain ⟨f1, hf⟩ := fc_un (show (9 : Nat) < 100 from by decide) hf
  have f1 : n_v vs 13 = w_fd ws (v_ad (n_v vs 0)) 9 := f1
  obtain ⟨f2, hf⟩ := fc_un (show (7 : Nat) < 100 from by decide) hf
  have f2 : v_iv (n_v vs 14) ≤ v_iv (n_v vs 13) := f2
  obtain ⟨f3, hf⟩ := fc_un (show (7 : Nat) < 100 from by decide) hf
  have f3 : v_iv (n_v vs 11) = v_iv (n_v vs 12) := f3
  obtain ⟨f4, hf⟩ := fc_un (show (9 : Nat) < 100 from by decide) hf
  have f4 : n_v vs 11 = w_fd ws (v_ad (n_v vs 0)) 7 := f4
  obtain ⟨f5, hf⟩ := fc_un (show (20 : Nat) < 100 from by decide) hf
  have f5 : (1 * w_fi ws (n_v vs 0) 7 + 0 ≤ 3) ∨ (1 * w_fi ws (n_v vs 0) 9 + ((-1) * v_iv (n_v vs 10) + 0) ≤ 0) := f5
  obtain ⟨f6, hf⟩ := fc_un (show (20 : Nat) < 100 from by decide) hf
  have f6 : (1 * w_fi ws (n_v vs 0) 7 + 0 ≤ 3) ∨ ((-1) * w_fi ws (n_v vs 0) 9 + (1 * v_iv (n_v vs 10) + 0) ≤ 0) := f6
  obtain ⟨f7, hf⟩ := fc_un (show (20 : Nat) < 100 from by decide) hf
  have f7 : ((-1) * w_fi ws (n_v vs 0) 7 + 0 ≤ (-3)) ∨ (1 * w_fi ws (n_v vs 0) 6 + ((-1) * w_fi ws (n_v vs 0) 8 + (2000 * w_fi ws (n_v vs 0) 7 + 0)) ≤ 4008) := f7
  obtain ⟨f8, hf⟩ := fc_un (show (20 : Nat) < 100 from by decide) hf
  have f8 : 1 * w_fi ws (n_v vs 0) 8 + ((-1) * w_fi ws (n_v vs 0) 6 + 0) ≤ 0 := f8
  have g1 : v_iv (n_v vs 13) = w_fi ws (n_v vs 0) 9 := congrArg v_iv f1
  have g4 : v_iv (n_v vs 11) = w_fi ws (n_v vs 0) 7 := congrArg v_iv f4
  have kz_0_6 : 0 ≤ w_fi ws (n_v vs 0) 6 ∧ w_fi ws (n_v vs 0) 6 ≤ 2000 := tv_rng (th_fd hD hth r0 (g := GG_8) rfl (k := 6) (t := (0, 0, 2000, [])) rfl rfl)
  have kz_0_7 : (-128) ≤ w_fi ws (n_v vs 0) 7 ∧ w_fi ws (n_v vs 0) 7 ≤ 127 := tv_rng (th_fd hD hth r0 (g := GG_8) rfl (k := 7) (t := (0, -128, 127, [])) rfl rfl)
  have kz_0_8 : 0 ≤ w_fi ws (n_v vs 0) 8 ∧ w_fi ws (n_v vs 0) 8 ≤ 2000 := tv_rng (th_fd hD hth r0 (g := GG_8) rfl (k := 8) (t := (0, 0, 2000, [])) rfl rfl)
  have kz_0_9 : (-2147483648) ≤ w_fi ws (n_v vs 0) 9 ∧ w_fi ws (n_v vs 0) 9 ≤ 1000000 := tv_rng (th_fd hD hth r0 (g := GG_8) rfl (k := 9) (t := (0, -2147483648, 1000000, [])) rfl rfl)
  have kv0 : (-2147483648) ≤ w_fi ws (n_v vs 0) 9 ∧ w_fi ws (n_v vs 0) 9 ≤ 1000000 := tv_rng (th_fd hD hth r0 (g := GG_8) rfl (k := 9) (t := (0, -2147483648, 1000000, [])) rfl rfl)
  obtain ⟨x, ex, hx⟩ := iv_ex (ta := ta) (lo := (-2147483648)) (hi := 1000000) (z := w_fi ws (n_v vs 0) 9) (by omega) (by omega) (by omega) (by omega)
  have ex2 : v_iv (Value.int x) = w_fi ws (n_v vs 0) 9 := ex
  have ex3 : (-2147483648) ≤ v_iv (Value.int x) ∧ v_iv (Value.int x) ≤ 1000000 := tv_rng hx
  have e_0 : n_v (vs ++ [Value.int x]) 0 = n_v vs 0 := n_v_old (by rw [hl]; decide)
  have e_13 : n_v (vs ++ [Value.int x]) 13 = n_v vs 13 := n_v_old (by rw [hl]; decide)
  have e_15 : n_v (vs ++ [Value.int x]) 15 = Value.int x := n_v_new hl
  have nf0 : fc_1 (20, [0, 15], [30, 0, 1, 1, 9, -1, 0, 0]) ws (vs ++ [Value.int x]) := by
    refine ⟨fun n hn => ?_, ?_⟩
    · have hn : n ∈ [0, 15] := hn
      rw [List.length_append, hl]
      simp only [List.mem_cons, List.not_mem_nil, or_false] at hn
      show n < 15 + 1; omega
    · show 1 * w_fi ws (n_v (vs ++ [Value.int x]) 0) 9 + ((-1) * v_iv (n_v (vs ++ [Value.int x]) 15) + 0) ≤ 0
      rw [e_0]
      rw [e_15]
      omega
  have nf1 : fc_1 (20, [0, 15], [30, 0, -1, 1, 9, 1, 0, 0]) ws (vs ++ [Value.int x]) := by
    refine ⟨fun n hn => ?_, ?_⟩
    · have hn : n ∈ [0, 15] := hn
      rw [List.length_append, hl]
      simp only [List.mem_cons, List.not_mem_nil, or_false] at hn
      show n < 15 + 1; omega
    · show (-1) * w_fi ws (n_v (vs ++ [Value.int x]) 0) 9 + (1 * v_iv (n_v (vs ++ [Value.int x]) 15) + 0) ≤ 0
      rw [e_0]
      rw [e_15]
      omega
  have nf2 : fc_1 (23, [15, 13], [0, 1, -1]) ws (vs ++ [Value.int x]) := by
    refine ⟨fun n hn => ?_, ?_⟩
    · have hn : n ∈ [15, 13] := hn
      rw [List.length_append, hl]
      simp only [List.mem_cons, List.not_mem_nil, or_false] at hn
      show n < 15 + 1; omega
    · show 1 * v_iv (n_v (vs ++ [Value.int x]) 15) + ((-1) * v_iv (n_v (vs ++ [Value.int x]) 13) + 0) ≤ 0
      rw [e_13]
      rw [e_15]
      omega
  have nf3 : fc_1 (23, [15, 13], [0, -1, 1]) ws (vs ++ [Value.int x]) := by
    refine ⟨fun n hn => ?_, ?_⟩
    · have hn : n ∈ [15, 13] := hn
      rw [List.length_append, hl]
      simp only [List.mem_cons, List.not_mem_nil, or_false] at hn
      show n < 15 + 1; omega
    · show (-1) * v_iv (n_v (vs ++ [Value.int x]) 15) + (1 * v_iv (n_v (vs ++ [Value.int x]) 13) + 0) ≤ 0
      rw [e_13]
      rw [e_15]
      omega
  exact ⟨(fun _ h => (by cases h)), [Value.int x], ag_one hx, List.forall_mem_cons.mpr ⟨⟨show (20 : Nat) < 100 from by decide, nf0⟩, List.forall_mem_cons.mpr ⟨⟨show (20 : Nat) < 100 from by decide, nf1⟩, List.forall_mem_cons.mpr ⟨⟨show (23 : Nat) < 100 from by decide, nf2⟩, List.forall_mem_cons.mpr ⟨⟨show (23 : Nat) < 100 from by decide, nf3⟩, (fun _ h => (by cases h))⟩⟩⟩⟩, (fun _ h => (by cases h))⟩
def o_Re_readValue_at_s5002_5 : or_T := (131, 20, [(0, (2, 0, 0, [8])), (2, (0, 99, 99, [])), (13, (0, 1, 99, [])), (14, (0, 1, 1, [])), (15, (0, -2147483648, 1000000, [])), (16, (0, 93, 93, [])), (17, (0, 2, 2, [])), (18, (0, 93, 93, [])), (19, (0, 1, 1, []))], [(7, [16, 18], [0]), (9, [16, 0], [7]), (7, [16, 17], [1]), (23, [15, 13], [0, 1, -1]), (23, [15, 13], [0, -1, 1]), (20, [0, 0, 15], [31, 1, 3, 1, 1, 7, 0, 1, 1, 9, -1, 0, 0]), (20, [0, 0, 15], [31, 1, 3, 1, 1, 7, 0, -1, 1, 9, 1, 0, 0]), (20, [0, 0, 0, 0], [31, 1, -3, -1, 1, 7, 4008, 1, 1, 6, -1, 1, 8, 2000, 1, 7]), (20, [0, 0], [30, 0, 1, 1, 8, -1, 1, 6]), (102, [15], [0, 8006, 8007, 8008, 8009]), (23, [15, 13], [0, 1, -1]), (23, [15, 13], [0, -1, 1]), (7, [13, 2], [5]), (7, [13, 14], [3])], [], [], [(20, [19, 0, 2], [31, 1, 0, 1, 0, 0, 0, 1, 1, 9, -1, 0, 0]), (20, [19, 0], [31, 1, 0, 1, 0, 0, -1, -1, 1, 9])], [], [])
theorem oo_Re_readValue_at_s5002_5 {kA : Nat → ClassId} : or_ok kA GG o_Re_readValue_at_s5002_5 := by
  intro A ta ws vs hD hth hl hk hds hf
  have hl : vs.length = 20 := hl
  have hk : ∀ q ∈ ([(0, (2, 0, 0, [8])), (2, (0, 99, 99, [])), (13, (0, 1, 99, [])), (14, (0, 1, 1, [])), (15, (0, -2147483648, 1000000, [])), (16, (0, 93, 93, [])), (17, (0, 2, 2, [])), (18, (0, 93, 93, [])), (19, (0, 1, 1, []))] : List (Nat × tv_T)), tv_ok ta q.2 (n_v vs q.1) := hk
  obtain ⟨t0, hk⟩ := List.forall_mem_cons.mp hk
  have t0 : tv_ok ta (2, 0, 0, [8]) (n_v vs 0) := t0
  have r0 : ta (v_ad (n_v vs 0)) = some 8 := tv_rg t0
  obtain ⟨t2, hk⟩ := List.forall_mem_cons.mp hk
  have t2 : tv_ok ta (0, 99, 99, []) (n_v vs 2) := t2
  have k2 : 99 ≤ v_iv (n_v vs 2) ∧ v_iv (n_v vs 2) ≤ 99 := tv_rng t2
  obtain ⟨t13, hk⟩ := List.forall_mem_cons.mp hk
  have t13 : tv_ok ta (0, 1, 99, []) (n_v vs 13) := t13
  have k13 : 1 ≤ v_iv (n_v vs 13) ∧ v_iv (n_v vs 13) ≤ 99 := tv_rng t13
  obtain ⟨t14, hk⟩ := List.forall_mem_cons.mp hk
  have t14 : tv_ok ta (0, 1, 1, []) (n_v vs 14) := t14
  have k14 : 1 ≤ v_iv (n_v vs 14) ∧ v_iv (n_v vs 14) ≤ 1 := tv_rng t14
  obtain ⟨t15, hk⟩ := List.forall_mem_cons.mp hk
  have t15 : tv_ok ta (0, -2147483648, 1000000, []) (n_v vs 15) := t15
  have k15 : (-2147483648) ≤ v_iv (n_v vs 15) ∧ v_iv (n_v vs 15) ≤ 1000000 := tv_rng t15
  obtain ⟨t16, hk⟩ := List.forall_mem_cons.mp hk
  have t16 : tv_ok ta (0, 93, 93, []) (n_v vs 16) := t16
  have k16 : 93 ≤ v_iv (n_v vs 16) ∧ v_iv (n_v vs 16) ≤ 93 := tv_rng t16
  obtain ⟨t17, hk⟩ := List.forall_mem_cons.mp hk
  have t17 : tv_ok ta (0, 2, 2, []) (n_v vs 17) := t17
  have k17 : 2 ≤ v_iv (n_v vs 17) ∧ v_iv (n_v vs 17) ≤ 2 := tv_rng t17
  obtain ⟨t18, hk⟩ := List.forall_mem_cons.mp hk
  have t18 : tv_ok ta (0, 93, 93, []) (n_v vs 18) := t18
  have k18 : 93 ≤ v_iv (n_v vs 18) ∧ v_iv (n_v vs 18) ≤ 93 := tv_rng t18
  obtain ⟨t19, hk⟩ := List.forall_mem_cons.mp hk
  have t19 : tv_ok ta (0, 1, 1, []) (n_v vs 19) := t19
  have k19 : 1 ≤ v_iv (n_v vs 19) ∧ v_iv (n_v vs 19) ≤ 1 := tv_rng t19
  have hf : fc_ok [(7, [16, 18], [0]), (9, [16, 0], [7]), (7, [16, 17], [1]), (23, [15, 13], [0, 1, -1]), (23, [15, 13], [0, -1, 1]), (20, [0, 0, 15], [31, 1, 3, 1, 1, 7, 0, 1, 1, 9, -1, 0, 0]), (20, [0, 0, 15], [31, 1, 3, 1, 1, 7, 0, -1, 1, 9, 1, 0, 0]), (20, [0, 0, 0, 0], [31, 1, -3, -1, 1, 7, 4008, 1, 1, 6, -1, 1, 8, 2000, 1, 7]), (20, [0, 0], [30, 0, 1, 1, 8, -1, 1, 6]), (102, [15], [0, 8006, 8007, 8008, 8009]), (23, [15, 13], [0, 1, -1]), (23, [15, 13], [0, -1, 1]), (7, [13, 2], [5]), (7, [13, 14], [3])] ta ws vs := hf
  obtain ⟨f0, hf⟩ := fc_un (show (7 : Nat) < 100 from by decide) hf
  have f0 : v_iv (n_v vs 16) = v_iv (n_v vs 18) := f0
  obtain ⟨f1, hf⟩ := fc_un (show (9 : Nat) < 100 from by decide) hf
  have f1 : n_v vs 16 = w_fd ws (v_ad (n_v vs 0)) 7 := f1
  obtain ⟨f2, hf⟩ := fc_un (show (7 : Nat) < 100 from by decide) hf
  have f2 : v_iv (n_v vs 16) ≠ v_iv (n_v vs 17) := f2
  obtain ⟨f3, hf⟩ := fc_un (show (23 : Nat) < 100 from by decide) hf
  have f3 : 1 * v_iv (n_v vs 15) + ((-1) * v_iv (n_v vs 13) + 0) ≤ 0 := f3
  obtain ⟨f4, hf⟩ := fc_un (show (23 : Nat) < 100 from by decide) hf
  have f4 : (-1) * v_iv (n_v vs 15) + (1 * v_iv (n_v vs 13) + 0) ≤ 0 := f4
  obtain ⟨f5, hf⟩ := fc_un (show (20 : Nat) < 100 from by decide) hf
  have f5 : (1 * w_fi ws (n_v vs 0) 7 + 0 ≤ 3) ∨ (1 * w_fi ws (n_v vs 0) 9 + ((-1) * v_iv (n_v vs 15) + 0) ≤ 0) := f5
  obtain ⟨f6, hf⟩ := fc_un (show (20 : Nat) < 100 from by decide) hf
  have f6 : (1 * w_fi ws (n_v vs 0) 7 + 0 ≤ 3) ∨ ((-1) * w_fi ws (n_v vs 0) 9 + (1 * v_iv (n_v vs 15) + 0) ≤ 0) := f6
  obtain ⟨f7, hf⟩ := fc_un (show (20 : Nat) < 100 from by decide) hf
  have f7 : ((-1) * w_fi ws (n_v vs 0) 7 + 0 ≤ (-3)) ∨ (1 * w_fi ws (n_v vs 0) 6 + ((-1) * w_fi ws (n_v vs 0) 8 + (2000 * w_fi ws (n_v vs 0) 7 + 0)) ≤ 4008) := f7
  obtain ⟨f8, hf⟩ := fc_un (show (20 : Nat) < 100 from by decide) hf
  have f8 : 1 * w_fi ws (n_v vs 0) 8 + ((-1) * w_fi ws (n_v vs 0) 6 + 0) ≤ 0 := f8
  obtain ⟨ta1, w1, le1, ⟨_, s1⟩, hf⟩ := fc_us (show ¬ (102 : Nat) < 100 from by decide) hf
  obtain ⟨f10, hf⟩ := fc_un (show (23 : Nat) < 100 from by decide) hf
  have f10 : 1 * v_iv (n_v vs 15) + ((-1) * v_iv (n_v vs 13) + 0) ≤ 0 := f10
  obtain ⟨f11, hf⟩ := fc_un (show (23 : Nat) < 100 from by decide) hf
  have f11 : (-1) * v_iv (n_v vs 15) + (1 * v_iv (n_v vs 13) + 0) ≤ 0 := f11
  obtain ⟨f12, hf⟩ := fc_un (show (7 : Nat) < 100 from by decide) hf
  have f12 : v_iv (n_v vs 13) ≤ v_iv (n_v vs 2) := f12
  obtain ⟨f13, hf⟩ := fc_un (show (7 : Nat) < 100 from by decide) hf
  have f13 : v_iv (n_v vs 14) ≤ v_iv (n_v vs 13) := f13
  have g1 : v_iv (n_v vs 16) = w_fi ws (n_v vs 0) 7 := congrArg v_iv f1
  have kz_0_6 : 0 ≤ w_fi ws (n_v vs 0) 6 ∧ w_fi ws (n_v vs 0) 6 ≤ 2000 := tv_rng (th_fd hD hth r0 (g := GG_8) rfl (k := 6) (t := (0, 0, 2000, [])) rfl rfl)
  have kz_0_7 : (-128) ≤ w_fi ws (n_v vs 0) 7 ∧ w_fi ws (n_v vs 0) 7 ≤ 127 := tv_rng (th_fd hD hth r0 (g := GG_8) rfl (k := 7) (t := (0, -128, 127, [])) rfl rfl)
  have kz_0_8 : 0 ≤ w_fi ws (n_v vs 0) 8 ∧ w_fi ws (n_v vs 0) 8 ≤ 2000 := tv_rng (th_fd hD hth r0 (g := GG_8) rfl (k := 8) (t := (0, 0, 2000, [])) rfl rfl)
  have kz_0_9 : (-2147483648) ≤ w_fi ws (n_v vs 0) 9 ∧ w_fi ws (n_v vs 0) 9 ≤ 1000000 := tv_rng (th_fd hD hth r0 (g := GG_8) rfl (k := 9) (t := (0, -2147483648, 1000000, [])) rfl rfl)
  have nf0 : fc_1 (20, [19, 0, 2], [31, 1, 0, 1, 0, 0, 0, 1, 1, 9, -1, 0, 0]) ws (vs) := by
    refine ⟨fun n hn => ?_, ?_⟩
    · have hn : n ∈ [19, 0, 2] := hn
      rw [hl]
      simp only [List.mem_cons, List.not_mem_nil, or_false] at hn
      show n < 20; omega
    · show (1 * v_iv (n_v vs 19) + 0 ≤ 0) ∨ (1 * w_fi ws (n_v vs 0) 9 + ((-1) * v_iv (n_v vs 2) + 0) ≤ 0)
      omega
  have nf1 : fc_1 (20, [19, 0], [31, 1, 0, 1, 0, 0, -1, -1, 1, 9]) ws (vs) := by
    refine ⟨fun n hn => ?_, ?_⟩
    · have hn : n ∈ [19, 0] := hn
      rw [hl]
      simp only [List.mem_cons, List.not_mem_nil, or_false] at hn
      show n < 20; omega
    · show (1 * v_iv (n_v vs 19) + 0 ≤ 0) ∨ ((-1) * w_fi ws (n_v vs 0) 9 + 0 ≤ (-1))
      omega
  refine ⟨(fun _ h => (by cases h)), [], trivial, ?_, (fun _ h => (by cases h))⟩
  rw [List.append_nil]
  exact List.forall_mem_cons.mpr ⟨⟨show (20 : Nat) < 100 from by decide, nf0⟩, List.forall_mem_cons.mpr ⟨⟨show (20 : Nat) < 100 from by decide, nf1⟩, (fun _ h => (by cases h))⟩⟩
def o_Re_readValue_at_s5002_6 : or_T := (131, 22, [(0, (2, 0, 0, [8])), (2, (0, 99, 99, [])), (13, (0, 1, 99, [])), (14, (0, 1, 1, [])), (15, (0, -2147483648, 1000000, [])), (21, (0, 0, 0, []))], [(23, [15, 13], [0, 1, -1]), (23, [15, 13], [0, -1, 1]), (20, [0, 0, 15], [31, 1, 3, 1, 1, 7, 0, 1, 1, 9, -1, 0, 0]), (20, [0, 0, 15], [31, 1, 3, 1, 1, 7, 0, -1, 1, 9, 1, 0, 0]), (20, [0, 0, 0, 0], [31, 1, -3, -1, 1, 7, 4008, 1, 1, 6, -1, 1, 8, 2000, 1, 7]), (20, [0, 0], [30, 0, 1, 1, 8, -1, 1, 6]), (102, [19], [0, 8002, 8003]), (23, [15, 13], [0, 1, -1]), (23, [15, 13], [0, -1, 1]), (102, [15], [0, 8006, 8007, 8008, 8009]), (23, [15, 13], [0, 1, -1]), (23, [15, 13], [0, -1, 1]), (7, [13, 2], [5]), (7, [13, 14], [3])], [], [], [(20, [21, 0, 2], [31, 1, 0, 1, 0, 0, 0, 1, 1, 9, -1, 0, 0]), (20, [21, 0], [31, 1, 0, 1, 0, 0, -1, -1, 1, 9])], [], [])
theorem oo_Re_readValue_at_s5002_6 {kA : Nat → ClassId} : or_ok kA GG o_Re_readValue_at_s5002_6 := by
  intro A ta ws vs hD hth hl hk hds hf
  have hl : vs.length = 22 := hl
  have hk : ∀ q ∈ ([(0, (2, 0, 0, [8])), (2, (0, 99, 99, [])), (13, (0, 1, 99, [])), (14, (0, 1, 1, [])), (15, (0, -2147483648, 1000000, [])), (21, (0, 0, 0, []))] : List (Nat × tv_T)), tv_ok ta q.2 (n_v vs q.1) := hk
  obtain ⟨t0, hk⟩ := List.forall_mem_cons.mp hk
  have t0 : tv_ok ta (2, 0, 0, [8]) (n_v vs 0) := t0
  have r0 : ta (v_ad (n_v vs 0)) = some 8 := tv_rg t0
  obtain ⟨t2, hk⟩ := List.forall_mem_cons.mp hk
  have t2 : tv_ok ta (0, 99, 99, []) (n_v vs 2) := t2
  have k2 : 99 ≤ v_iv (n_v vs 2) ∧ v_iv (n_v vs 2) ≤ 99 := tv_rng t2
  obtain ⟨t13, hk⟩ := List.forall_mem_cons.mp hk
  have t13 : tv_ok ta (0, 1, 99, []) (n_v vs 13) := t13
  have k13 : 1 ≤ v_iv (n_v vs 13) ∧ v_iv (n_v vs 13) ≤ 99 := tv_rng t13
  obtain ⟨t14, hk⟩ := List.forall_mem_cons.mp hk
  have t14 : tv_ok ta (0, 1, 1, []) (n_v vs 14) := t14
  have k14 : 1 ≤ v_iv (n_v vs 14) ∧ v_iv (n_v vs 14) ≤ 1 := tv_rng t14
  obtain ⟨t15, hk⟩ := List.forall_mem_cons.mp hk
  have t15 : tv_ok ta (0, -2147483648, 1000000, []) (n_v vs 15) := t15
  have k15 : (-2147483648) ≤ v_iv (n_v vs 15) ∧ v_iv (n_v vs 15) ≤ 1000000 := tv_rng t15
  obtain ⟨t21, hk⟩ := List.forall_mem_cons.mp hk
  have t21 : tv_ok ta (0, 0, 0, []) (n_v vs 21) := t21
  have k21 : 0 ≤ v_iv (n_v vs 21) ∧ v_iv (n_v vs 21) ≤ 0 := tv_rng t21
  have hf : fc_ok [(23, [15, 13], [0, 1, -1]), (23, [15, 13], [0, -1, 1]), (20, [0, 0, 15], [31, 1, 3, 1, 1, 7, 0, 1, 1, 9, -1, 0, 0]), (20, [0, 0, 15], [31, 1, 3, 1, 1, 7, 0, -1, 1, 9, 1, 0, 0]), (20, [0, 0, 0, 0], [31, 1, -3, -1, 1, 7, 4008, 1, 1, 6, -1, 1, 8, 2000, 1, 7]), (20, [0, 0], [30, 0, 1, 1, 8, -1, 1, 6]), (102, [19], [0, 8002, 8003]), (23, [15, 13], [0, 1, -1]), (23, [15, 13], [0, -1, 1]), (102, [15], [0, 8006, 8007, 8008, 8009]), (23, [15, 13], [0, 1, -1]), (23, [15, 13], [0, -1, 1]), (7, [13, 2], [5]), (7, [13, 14], [3])] ta ws vs := hf
  obtain ⟨f0, hf⟩ := fc_un (show (23 : Nat) < 100 from by decide) hf
  have f0 : 1 * v_iv (n_v vs 15) + ((-1) * v_iv (n_v vs 13) + 0) ≤ 0 := f0
  obtain ⟨f1, hf⟩ := fc_un (show (23 : Nat) < 100 from by decide) hf
  have f1 : (-1) * v_iv (n_v vs 15) + (1 * v_iv (n_v vs 13) + 0) ≤ 0 := f1
  obtain ⟨f2, hf⟩ := fc_un (show (20 : Nat) < 100 from by decide) hf
  have f2 : (1 * w_fi ws (n_v vs 0) 7 + 0 ≤ 3) ∨ (1 * w_fi ws (n_v vs 0) 9 + ((-1) * v_iv (n_v vs 15) + 0) ≤ 0) := f2
  obtain ⟨f3, hf⟩ := fc_un (show (20 : Nat) < 100 from by decide) hf
  have f3 : (1 * w_fi ws (n_v vs 0) 7 + 0 ≤ 3) ∨ ((-1) * w_fi ws (n_v vs 0) 9 + (1 * v_iv (n_v vs 15) + 0) ≤ 0) := f3
  obtain ⟨f4, hf⟩ := fc_un (show (20 : Nat) < 100 from by decide) hf
  have f4 : ((-1) * w_fi ws (n_v vs 0) 7 + 0 ≤ (-3)) ∨ (1 * w_fi ws (n_v vs 0) 6 + ((-1) * w_fi ws (n_v vs 0) 8 + (2000 * w_fi ws (n_v vs 0) 7 + 0)) ≤ 4008) := f4
  obtain ⟨f5, hf⟩ := fc_un (show (20 : Nat) < 100 from by decide) hf
  have f5 : 1 * w_fi ws (n_v vs 0) 8 + ((-1) * w_fi ws (n_v vs 0) 6 + 0) ≤ 0 := f5
  obtain ⟨ta1, w1, le1, ⟨_, s1⟩, hf⟩ := fc_us (show ¬ (102 : Nat) < 100 from by decide) hf
  obtain ⟨f7, hf⟩ := fc_un (show (23 : Nat) < 100 from by decide) hf
  have f7 : 1 * v_iv (n_v vs 15) + ((-1) * v_iv (n_v vs 13) + 0) ≤ 0 := f7
  obtain ⟨f8, hf⟩ := fc_un (show (23 : Nat) < 100 from by decide) hf
  have f8 : (-1) * v_iv (n_v vs 15) + (1 * v_iv (n_v vs 13) + 0) ≤ 0 := f8
  obtain ⟨ta2, w2, le2, ⟨_, s2⟩, hf⟩ := fc_us (show ¬ (102 : Nat) < 100 from by decide) hf
  obtain ⟨f10, hf⟩ := fc_un (show (23 : Nat) < 100 from by decide) hf
  have f10 : 1 * v_iv (n_v vs 15) + ((-1) * v_iv (n_v vs 13) + 0) ≤ 0 := f10
  obtain ⟨f11, hf⟩ := fc_un (show (23 : Nat) < 100 from by decide) hf
  have f11 : (-1) * v_iv (n_v vs 15) + (1 * v_iv (n_v vs 13) + 0) ≤ 0 := f11
  obtain ⟨f12, hf⟩ := fc_un (show (7 : Nat) < 100 from by decide) hf
  have f12 : v_iv (n_v vs 13) ≤ v_iv (n_v vs 2) := f12
  obtain ⟨f13, hf⟩ := fc_un (show (7 : Nat) < 100 from by decide) hf
  have f13 : v_iv (n_v vs 14) ≤ v_iv (n_v vs 13) := f13
  have kz_0_6 : 0 ≤ w_fi ws (n_v vs 0) 6 ∧ w_fi ws (n_v vs 0) 6 ≤ 2000 := tv_rng (th_fd hD hth r0 (g := GG_8) rfl (k := 6) (t := (0, 0, 2000, [])) rfl rfl)
  have kz_0_7 : (-128) ≤ w_fi ws (n_v vs 0) 7 ∧ w_fi ws (n_v vs 0) 7 ≤ 127 := tv_rng (th_fd hD hth r0 (g := GG_8) rfl (k := 7) (t := (0, -128, 127, [])) rfl rfl)
  have kz_0_8 : 0 ≤ w_fi ws (n_v vs 0) 8 ∧ w_fi ws (n_v vs 0) 8 ≤ 2000 := tv_rng (th_fd hD hth r0 (g := GG_8) rfl (k := 8) (t := (0, 0, 2000, [])) rfl rfl)
  have kz_0_9 : (-2147483648) ≤ w_fi ws (n_v vs 0) 9 ∧ w_fi ws (n_v vs 0) 9 ≤ 1000000 := tv_rng (th_fd hD hth r0 (g := GG_8) rfl (k := 9) (t := (0, -2147483648, 1000000, [])) rfl rfl)
  have nf0 : fc_1 (20, [21, 0, 2], [31, 1, 0, 1, 0, 0, 0, 1, 1, 9, -1, 0, 0]) ws (vs) := by
    refine ⟨fun n hn => ?_, ?_⟩
    · have hn : n ∈ [21, 0, 2] := hn
      rw [hl]
      simp only [List.mem_cons, List.not_mem_nil, or_false] at hn
      show n < 22; omega
    · show (1 * v_iv (n_v vs 21) + 0 ≤ 0) ∨ (1 * w_fi ws (n_v vs 0) 9 + ((-1) * v_iv (n_v vs 2) + 0) ≤ 0)
      omega
  have nf1 : fc_1 (20, [21, 0], [31, 1, 0, 1, 0, 0, -1, -1, 1, 9]) ws (vs) := by
    refine ⟨fun n hn => ?_, ?_⟩
    · have hn : n ∈ [21, 0] := hn
      rw [hl]
      simp only [List.mem_cons, List.not_mem_nil, or_false] at hn
      show n < 22; omega
    · show (1 * v_iv (n_v vs 21) + 0 ≤ 0) ∨ ((-1) * w_fi ws (n_v vs 0) 9 + 0 ≤ (-1))
      omega
  refine ⟨(fun _ h => (by cases h)), [], trivial, ?_, (fun _ h => (by cases h))⟩
  rw [List.append_nil]
  exact List.forall_mem_cons.mpr ⟨⟨show (20 : Nat) < 100 from by decide, nf0⟩, List.forall_mem_cons.mpr ⟨⟨show (20 : Nat) < 100 from by decide, nf1⟩, (fun _ h => (by cases h))⟩⟩
def o_Re_readValue_at_s5002_7 : or_T := (108, 20, [(0, (2, 0, 0, [8])), (2, (0, 99, 99, [])), (13, (0, 1, 99, [])), (14, (0, 1, 1, [])), (15, (0, -2147483648, 1000000, [])), (19, (0, 0, 0, []))], [(23, [15, 13], [0, 1, -1]), (23, [15, 13], [0, -1, 1]), (20, [0, 0, 15], [31, 1, 3, 1, 1, 7, 0, 1, 1, 9, -1, 0, 0]), (20, [0, 0, 15], [31, 1, 3, 1, 1, 7, 0, -1, 1, 9, 1, 0, 0]), (20, [0, 0, 0, 0], [31, 1, -3, -1, 1, 7, 4008, 1, 1, 6, -1, 1, 8, 2000, 1, 7]), (20, [0, 0], [30, 0, 1, 1, 8, -1, 1, 6]), (102, [18], [0, 8002, 8003]), (23, [15, 13], [0, 1, -1]), (23, [15, 13], [0, -1, 1]), (102, [15], [0, 8006, 8007, 8008, 8009]), (23, [15, 13], [0, 1, -1]), (23, [15, 13], [0, -1, 1]), (7, [13, 2], [5]), (7, [13, 14], [3])], [], [], [(20, [19, 0, 2], [31, 1, 0, 1, 0, 0, 0, 1, 1, 9, -1, 0, 0]), (20, [19, 0], [31, 1, 0, 1, 0, 0, -1, -1, 1, 9])], [], [])
theorem oo_Re_readValue_at_s5002_7 {kA : Nat → ClassId} : or_ok kA GG o_Re_readValue_at_s5002_7 := by
  intro A ta ws vs hD hth hl hk hds hf
  have hl : vs.length = 20 := hl
  have hk : ∀ q ∈ ([(0, (2, 0, 0, [8])), (2, (0, 99, 99, [])), (13, (0, 1, 99, [])), (14, (0, 1, 1, [])), (15, (0, -2147483648, 1000000, [])), (19, (0, 0, 0, []))] : List (Nat × tv_T)), tv_ok ta q.2 (n_v vs q.1) := hk
  obtain ⟨t0, hk⟩ := List.forall_mem_cons.mp hk
  have t0 : tv_ok ta (2, 0, 0, [8]) (n_v vs 0) := t0
  have r0 : ta (v_ad (n_v vs 0)) = some 8 := tv_rg t0
  obtain ⟨t2, hk⟩ := List.forall_mem_cons.mp hk
  have t2 : tv_ok ta (0, 99, 99, []) (n_v vs 2) := t2
  have k2 : 99 ≤ v_iv (n_v vs 2) ∧ v_iv (n_v vs 2) ≤ 99 := tv_rng t2
  obtain ⟨t13, hk⟩ := List.forall_mem_cons.mp hk
  have t13 : tv_ok ta (0, 1, 99, []) (n_v vs 13) := t13
  have k13 : 1 ≤ v_iv (n_v vs 13) ∧ v_iv (n_v vs 13) ≤ 99 := tv_rng t13
  obtain ⟨t14, hk⟩ := List.forall_mem_cons.mp hk
  have t14 : tv_ok ta (0, 1, 1, []) (n_v vs 14) := t14
  have k14 : 1 ≤ v_iv (n_v vs 14) ∧ v_iv (n_v vs 14) ≤ 1 := tv_rng t14
  obtain ⟨t15, hk⟩ := List.forall_mem_cons.mp hk
  have t15 : tv_ok ta (0, -2147483648, 1000000, []) (n_v vs 15) := t15
  have k15 : (-2147483648) ≤ v_iv (n_v vs 15) ∧ v_iv (n_v vs 15) ≤ 1000000 := tv_rng t15
  obtain ⟨t19, hk⟩ := List.forall_mem_cons.mp hk
  have t19 : tv_ok ta (0, 0, 0, []) (n_v vs 19) := t19
  have k19 : 0 ≤ v_iv (n_v vs 19) ∧ v_iv (n_v vs 19) ≤ 0 := tv_rng t19
  have hf : fc_ok [(23, [15, 13], [0, 1, -1]), (23, [15, 13], [0, -1, 1]), (20, [0, 0, 15], [31, 1, 3, 1, 1, 7, 0, 1, 1, 9, -1, 0, 0]), (20, [0, 0, 15], [31, 1, 3, 1, 1, 7, 0, -1, 1, 9, 1, 0, 0]), (20, [0, 0, 0, 0], [31, 1, -3, -1, 1, 7, 4008, 1, 1, 6, -1, 1, 8, 2000, 1, 7]), (20, [0, 0], [30, 0, 1, 1, 8, -1, 1, 6]), (102, [18], [0, 8002, 8003]), (23, [15, 13], [0, 1, -1]), (23, [15, 13], [0, -1, 1]), (102, [15], [0, 8006, 8007, 8008, 8009]), (23, [15, 13], [0, 1, -1]), (23, [15, 13], [0, -1, 1]), (7, [13, 2], [5]), (7, [13, 14], [3])] ta ws vs := hf
  obtain ⟨f0, hf⟩ := fc_un (show (23 : Nat) < 100 from by decide) hf
  have f0 : 1 * v_iv (n_v vs 15) + ((-1) * v_iv (n_v vs 13) + 0) ≤ 0 := f0
  obtain ⟨f1, hf⟩ := fc_un (show (23 : Nat) < 100 from by decide) hf
  have f1 : (-1) * v_iv (n_v vs 15) + (1 * v_iv (n_v vs 13) + 0) ≤ 0 := f1
  obtain ⟨f2, hf⟩ := fc_un (show (20 : Nat) < 100 from by decide) hf
  have f2 : (1 * w_fi ws (n_v vs 0) 7 + 0 ≤ 3) ∨ (1 * w_fi ws (n_v vs 0) 9 + ((-1) * v_iv (n_v vs 15) + 0) ≤ 0) := f2
  obtain ⟨f3, hf⟩ := fc_un (show (20 : Nat) < 100 from by decide) hf
  have f3 : (1 * w_fi ws (n_v vs 0) 7 + 0 ≤ 3) ∨ ((-1) * w_fi ws (n_v vs 0) 9 + (1 * v_iv (n_v vs 15) + 0) ≤ 0) := f3
  obtain ⟨f4, hf⟩ := fc_un (show (20 : Nat) < 100 from by decide) hf
  have f4 : ((-1) * w_fi ws (n_v vs 0) 7 + 0 ≤ (-3)) ∨ (1 * w_fi ws (n_v vs 0) 6 + ((-1) * w_fi ws (n_v vs 0) 8 + (2000 * w_fi ws (n_v vs 0) 7 + 0)) ≤ 4008) := f4
  obtain ⟨f5, hf⟩ := fc_un (show (20 : Nat) < 100 from by decide) hf
  have f5 : 1 * w_fi ws (n_v vs 0) 8 + ((-1) * w_fi ws (n_v vs 0) 6 + 0) ≤ 0 := f5
  obtain ⟨ta1, w1, le1, ⟨_, s1⟩, hf⟩ := fc_us (show ¬ (102 : Nat) < 100 from by decide) hf
  obtain ⟨f7, hf⟩ := fc_un (show (23 : Nat) < 100 from by decide) hf
  have f7 : 1 * v_iv (n_v vs 15) + ((-1) * v_iv (n_v vs 13) + 0) ≤ 0 := f7
  obtain ⟨f8, hf⟩ := fc_un (show (23 : Nat) < 100 from by decide) hf
  have f8 : (-1) * v_iv (n_v vs 15) + (1 * v_iv (n_v vs 13) + 0) ≤ 0 := f8
  obtain ⟨ta2, w2, le2, ⟨_, s2⟩, hf⟩ := fc_us (show ¬ (102 : Nat) < 100 from by decide) hf
  obtain ⟨f10, hf⟩ := fc_un (show (23 : Nat) < 100 from by decide) hf
  have f10 : 1 * v_iv (n_v vs 15) + ((-1) * v_iv (n_v vs 13) + 0) ≤ 0 := f10
  obtain ⟨f11, hf⟩ := fc_un (show (23 : Nat) < 100 from by decide) hf
  have f11 : (-1) * v_iv (n_v vs 15) + (1 * v_iv (n_v vs 13) + 0) ≤ 0 := f11
  obtain ⟨f12, hf⟩ := fc_un (show (7 : Nat) < 100 from by decide) hf
  have f12 : v_iv (n_v vs 13) ≤ v_iv (n_v vs 2) := f12
  obtain ⟨f13, hf⟩ := fc_un (show (7 : Nat) < 100 from by decide) hf
  have f13 : v_iv (n_v vs 14) ≤ v_iv (n_v vs 13) := f13
  have kz_0_6 : 0 ≤ w_fi ws (n_v vs 0) 6 ∧ w_fi ws (n_v vs 0) 6 ≤ 2000 := tv_rng (th_fd hD hth r0 (g := GG_8) rfl (k := 6) (t := (0, 0, 2000, [])) rfl rfl)
  have kz_0_7 : (-128) ≤ w_fi ws (n_v vs 0) 7 ∧ w_fi ws (n_v vs 0) 7 ≤ 127 := tv_rng (th_fd hD hth r0 (g := GG_8) rfl (k := 7) (t := (0, -128, 127, [])) rfl rfl)
  have kz_0_8 : 0 ≤ w_fi ws (n_v vs 0) 8 ∧ w_fi ws (n_v vs 0) 8 ≤ 2000 := tv_rng (th_fd hD hth r0 (g := GG_8) rfl (k := 8) (t := (0, 0, 2000, [])) rfl rfl)
  have kz_0_9 : (-2147483648) ≤ w_fi ws (n_v vs 0) 9 ∧ w_fi ws (n_v vs 0) 9 ≤ 1000000 := tv_rng (th_fd hD hth r0 (g := GG_8) rfl (k := 9) (t := (0, -2147483648, 1000000, [])) rfl rfl)
  have nf0 : fc_1 (20, [19, 0, 2], [31, 1, 0, 1, 0, 0, 0, 1, 1, 9, -1, 0, 0]) ws (vs) := by
    refine ⟨fun n hn => ?_, ?_⟩
    · have hn : n ∈ [19, 0, 2] := hn
      rw [hl]
      simp only [List.mem_cons, List.not_mem_nil, or_false] at hn
      show n < 20; omega
    · show (1 * v_iv (n_v vs 19) + 0 ≤ 0) ∨ (1 * w_fi ws (n_v vs 0) 9 + ((-1) * v_iv (n_v vs 2) + 0) ≤ 0)
      omega
  have nf1 : fc_1 (20, [19, 0], [31, 1, 0, 1, 0, 0, -1, -1, 1, 9]) ws (vs) := by
    refine ⟨fun n hn => ?_, ?_⟩
    · have hn : n ∈ [19, 0] := hn
      rw [hl]
      simp only [List.mem_cons, List.not_mem_nil, or_false] at hn
      show n < 20; omega
    · show (1 * v_iv (n_v vs 19) + 0 ≤ 0) ∨ ((-1) * w_fi ws (n_v vs 0) 9 + 0 ≤ (-1))
      omega
  refine ⟨(fun _ h => (by cases h)), [], trivial, ?_, (fun _ h => (by cases h))⟩
  rw [List.append_nil]
  exact List.forall_mem_cons.mpr ⟨⟨show (20 : Nat) < 100 from by decide, nf0⟩, List.forall_mem_cons.mpr ⟨⟨show (20 : Nat) < 100 from by decide, nf1⟩, (fun _ h => (by cases h))⟩⟩
def o_Re_readValue_at_s5002_8 : or_T := (90, 17, [(0, (2, 0, 0, [8])), (2, (0, 99, 99, [])), (10, (0, -2147483648, 1000000, [])), (13, (0, 100, 1000000, [])), (14, (0, 1, 1, [])), (16, (0, 0, 0, []))], [(20, [0, 0, 10], [31, 1, 3, 1, 1, 7, 0, 1, 1, 9, -1, 0, 0]), (20, [0, 0, 10], [31, 1, 3, 1, 1, 7, 0, -1, 1, 9, 1, 0, 0]), (20, [0, 0, 0, 0], [31, 1, -3, -1, 1, 7, 4008, 1, 1, 6, -1, 1, 8, 2000, 1, 7]), (20, [0, 0], [30, 0, 1, 1, 8, -1, 1, 6]), (102, [15], [0, 8002, 8003]), (7, [13, 2], [4]), (7, [13, 14], [3])], [], [], [(20, [16, 0, 2], [31, 1, 0, 1, 0, 0, 0, 1, 1, 9, -1, 0, 0]), (20, [16, 0], [31, 1, 0, 1, 0, 0, -1, -1, 1, 9])], [], [])
theorem oo_Re_readValue_at_s5002_8 {kA : Nat → ClassId} : or_ok kA GG o_Re_readValue_at_s5002_8 := by
  intro A ta ws vs hD hth hl hk hds hf
  have hl : vs.length = 17 := hl
  have hk : ∀ q ∈ ([(0, (2, 0, 0, [8])), (2, (0, 99, 99, [])), (10, (0, -2147483648, 1000000, [])), (13, (0, 100, 1000000, [])), (14, (0, 1, 1, [])), (16, (0, 0, 0, []))] : List (Nat × tv_T)), tv_ok ta q.2 (n_v vs q.1) := hk
  obtain ⟨t0, hk⟩ := List.forall_mem_cons.mp hk
  have t0 : tv_ok ta (2, 0, 0, [8]) (n_v vs 0) := t0
  have r0 : ta (v_ad (n_v vs 0)) = some 8 := tv_rg t0
  obtain ⟨t2, hk⟩ := List.forall_mem_cons.mp hk
  have t2 : tv_ok ta (0, 99, 99, []) (n_v vs 2) := t2
  have k2 : 99 ≤ v_iv (n_v vs 2) ∧ v_iv (n_v vs 2) ≤ 99 := tv_rng t2
  obtain ⟨t10, hk⟩ := List.forall_mem_cons.mp hk
  have t10 : tv_ok ta (0, -2147483648, 1000000, []) (n_v vs 10) := t10
  have k10 : (-2147483648) ≤ v_iv (n_v vs 10) ∧ v_iv (n_v vs 10) ≤ 1000000 := tv_rng t10
  obtain ⟨t13, hk⟩ := List.forall_mem_cons.mp hk
  have t13 : tv_ok ta (0, 100, 1000000, []) (n_v vs 13) := t13
  have k13 : 100 ≤ v_iv (n_v vs 13) ∧ v_iv (n_v vs 13) ≤ 1000000 := tv_rng t13
  obtain ⟨t14, hk⟩ := List.forall_mem_cons.mp hk
  have t14 : tv_ok ta (0, 1, 1, []) (n_v vs 14) := t14
  have k14 : 1 ≤ v_iv (n_v vs 14) ∧ v_iv (n_v vs 14) ≤ 1 := tv_rng t14
  obtain ⟨t16, hk⟩ := List.forall_mem_cons.mp hk
  have t16 : tv_ok ta (0, 0, 0, []) (n_v vs 16) := t16
  have k16 : 0 ≤ v_iv (n_v vs 16) ∧ v_iv (n_v vs 16) ≤ 0 := tv_rng t16
  have hf : fc_ok [(20, [0, 0, 10], [31, 1, 3, 1, 1, 7, 0, 1, 1, 9, -1, 0, 0]), (20, [0, 0, 10], [31, 1, 3, 1, 1, 7, 0, -1, 1, 9, 1, 0, 0]), (20, [0, 0, 0, 0], [31, 1, -3, -1, 1, 7, 4008, 1, 1, 6, -1, 1, 8, 2000, 1, 7]), (20, [0, 0], [30, 0, 1, 1, 8, -1, 1, 6]), (102, [15], [0, 8002, 8003]), (7, [13, 2], [4]), (7, [13, 14], [3])] ta ws vs := hf
  obtain ⟨f0, hf⟩ := fc_un (show (20 : Nat) < 100 from by decide) hf
  have f0 : (1 * w_fi ws (n_v vs 0) 7 + 0 ≤ 3) ∨ (1 * w_fi ws (n_v vs 0) 9 + ((-1) * v_iv (n_v vs 10) + 0) ≤ 0) := f0
  obtain ⟨f1, hf⟩ := fc_un (show (20 : Nat) < 100 from by decide) hf
  have f1 : (1 * w_fi ws (n_v vs 0) 7 + 0 ≤ 3) ∨ ((-1) * w_fi ws (n_v vs 0) 9 + (1 * v_iv (n_v vs 10) + 0) ≤ 0) := f1
  obtain ⟨f2, hf⟩ := fc_un (show (20 : Nat) < 100 from by decide) hf
  have f2 : ((-1) * w_fi ws (n_v vs 0) 7 + 0 ≤ (-3)) ∨ (1 * w_fi ws (n_v vs 0) 6 + ((-1) * w_fi ws (n_v vs 0) 8 + (2000 * w_fi ws (n_v vs 0) 7 + 0)) ≤ 4008) := f2
  obtain ⟨f3, hf⟩ := fc_un (show (20 : Nat) < 100 from by decide) hf
  have f3 : 1 * w_fi ws (n_v vs 0) 8 + ((-1) * w_fi ws (n_v vs 0) 6 + 0) ≤ 0 := f3
  obtain ⟨ta1, w1, le1, ⟨_, s1⟩, hf⟩ := fc_us (show ¬ (102 : Nat) < 100 from by decide) hf
  obtain ⟨f5, hf⟩ := fc_un (show (7 : Nat) < 100 from by decide) hf
  have f5 : v_iv (n_v vs 2) < v_iv (n_v vs 13) := f5
  obtain ⟨f6, hf⟩ := fc_un (show (7 : Nat) < 100 from by decide) hf
  have f6 : v_iv (n_v vs 14) ≤ v_iv (n_v vs 13) := f6
  have kz_0_6 : 0 ≤ w_fi ws (n_v vs 0) 6 ∧ w_fi ws (n_v vs 0) 6 ≤ 2000 := tv_rng (th_fd hD hth r0 (g := GG_8) rfl (k := 6) (t := (0, 0, 2000, [])) rfl rfl)
  have kz_0_7 : (-128) ≤ w_fi ws (n_v vs 0) 7 ∧ w_fi ws (n_v vs 0) 7 ≤ 127 := tv_rng (th_fd hD hth r0 (g := GG_8) rfl (k := 7) (t := (0, -128, 127, [])) rfl rfl)
  have kz_0_8 : 0 ≤ w_fi ws (n_v vs 0) 8 ∧ w_fi ws (n_v vs 0) 8 ≤ 2000 := tv_rng (th_fd hD hth r0 (g := GG_8) rfl (k := 8) (t := (0, 0, 2000, [])) rfl rfl)
  have kz_0_9 : (-2147483648) ≤ w_fi ws (n_v vs 0) 9 ∧ w_fi ws (n_v vs 0) 9 ≤ 1000000 := tv_rng (th_fd hD hth r0 (g := GG_8) rfl (k := 9) (t := (0, -2147483648, 1000000, [])) rfl rfl)
  have nf0 : fc_1 (20, [16, 0, 2], [31, 1, 0, 1, 0, 0, 0, 1, 1, 9, -1, 0, 0]) ws (vs) := by
    refine ⟨fun n hn => ?_, ?_⟩
    · have hn : n ∈ [16, 0, 2] := hn
      rw [hl]
      simp only [List.mem_cons, List.not_mem_nil, or_false] at hn
      show n < 17; omega
    · show (1 * v_iv (n_v vs 16) + 0 ≤ 0) ∨ (1 * w_fi ws (n_v vs 0) 9 + ((-1) * v_iv (n_v vs 2) + 0) ≤ 0)
      omega
  have nf1 : fc_1 (20, [16, 0], [31, 1, 0, 1, 0, 0, -1, -1, 1, 9]) ws (vs) := by
    refine ⟨fun n hn => ?_, ?_⟩
    · have hn : n ∈ [16, 0] := hn
      rw [hl]
      simp only [List.mem_cons, List.not_mem_nil, or_false] at hn
      show n < 17; omega
    · show (1 * v_iv (n_v vs 16) + 0 ≤ 0) ∨ ((-1) * w_fi ws (n_v vs 0) 9 + 0 ≤ (-1))
      omega
  refine ⟨(fun _ h => (by cases h)), [], trivial, ?_, (fun _ h => (by cases h))⟩
  rw [List.append_nil]
  exact List.forall_mem_cons.mpr ⟨⟨show (20 : Nat) < 100 from by decide, nf0⟩, List.forall_mem_cons.mpr ⟨⟨show (20 : Nat) < 100 from by decide, nf1⟩, (fun _ h => (by cases h))⟩⟩
def o_Re_readValue_at_s5002_9 : or_T := (68, 15, [(0, (2, 0, 0, [8])), (2, (0, 99, 99, [])), (10, (0, -2147483648, 1000000, [])), (14, (0, 0, 0, []))], [(20, [0, 0, 10], [31, 1, 3, 1, 1, 7, 0, 1, 1, 9, -1, 0, 0]), (20, [0, 0, 10], [31, 1, 3, 1, 1, 7, 0, -1, 1, 9, 1, 0, 0]), (20, [0, 0, 0, 0], [31, 1, -3, -1, 1, 7, 4008, 1, 1, 6, -1, 1, 8, 2000, 1, 7]), (20, [0, 0], [30, 0, 1, 1, 8, -1, 1, 6])], [], [], [(20, [14, 0, 2], [31, 1, 0, 1, 0, 0, 0, 1, 1, 9, -1, 0, 0]), (20, [14, 0], [31, 1, 0, 1, 0, 0, -1, -1, 1, 9])], [], [])
theorem oo_Re_readValue_at_s5002_9 {kA : Nat → ClassId} : or_ok kA GG o_Re_readValue_at_s5002_9 := by
  intro A ta ws vs hD hth hl hk hds hf
  have hl : vs.length = 15 := hl
  have hk : ∀ q ∈ ([(0, (2, 0, 0, [8])), (2, (0, 99, 99, [])), (10, (0, -2147483648, 1000000, [])), (14, (0, 0, 0, []))] : List (Nat × tv_T)), tv_ok ta q.2 (n_v vs q.1) := hk
  obtain ⟨t0, hk⟩ := List.forall_mem_cons.mp hk
  have t0 : tv_ok ta (2, 0, 0, [8]) (n_v vs 0) := t0
  have r0 : ta (v_ad (n_v vs 0)) = some 8 := tv_rg t0
  obtain ⟨t2, hk⟩ := List.forall_mem_cons.mp hk
  have t2 : tv_ok ta (0, 99, 99, []) (n_v vs 2) := t2
  have k2 : 99 ≤ v_iv (n_v vs 2) ∧ v_iv (n_v vs 2) ≤ 99 := tv_rng t2
  obtain ⟨t10, hk⟩ := List.forall_mem_cons.mp hk
  have t10 : tv_ok ta (0, -2147483648, 1000000, []) (n_v vs 10) := t10
  have k10 : (-2147483648) ≤ v_iv (n_v vs 10) ∧ v_iv (n_v vs 10) ≤ 1000000 := tv_rng t10
  obtain ⟨t14, hk⟩ := List.forall_mem_cons.mp hk
  have t14 : tv_ok ta (0, 0, 0, []) (n_v vs 14) := t14
  have k14 : 0 ≤ v_iv (n_v vs 14) ∧ v_iv (n_v vs 14) ≤ 0 := tv_rng t14
  have hf : fc_ok [(20, [0, 0, 10], [31, 1, 3, 1, 1, 7, 0, 1, 1, 9, -1, 0, 0]), (20, [0, 0, 10], [31, 1, 3, 1, 1, 7, 0, -1, 1, 9, 1, 0, 0]), (20, [0, 0, 0, 0], [31, 1, -3, -1, 1, 7, 4008, 1, 1, 6, -1, 1, 8, 2000, 1, 7]), (20, [0, 0], [30, 0, 1, 1, 8, -1, 1, 6])] ta ws vs := hf
  obtain ⟨f0, hf⟩ := fc_un (show (20 : Nat) < 100 from by decide) hf
  have f0 : (1 * w_fi ws (n_v vs 0) 7 + 0 ≤ 3) ∨ (1 * w_fi ws (n_v vs 0) 9 + ((-1) * v_iv (n_v vs 10) + 0) ≤ 0) := f0
  obtain ⟨f1, hf⟩ := fc_un (show (20 : Nat) < 100 from by decide) hf
  have f1 : (1 * w_fi ws (n_v vs 0) 7 + 0 ≤ 3) ∨ ((-1) * w_fi ws (n_v vs 0) 9 + (1 * v_iv (n_v vs 10) + 0) ≤ 0) := f1
  obtain ⟨f2, hf⟩ := fc_un (show (20 : Nat) < 100 from by decide) hf
  have f2 : ((-1) * w_fi ws (n_v vs 0) 7 + 0 ≤ (-3)) ∨ (1 * w_fi ws (n_v vs 0) 6 + ((-1) * w_fi ws (n_v vs 0) 8 + (2000 * w_fi ws (n_v vs 0) 7 + 0)) ≤ 4008) := f2
  obtain ⟨f3, hf⟩ := fc_un (show (20 : Nat) < 100 from by decide) hf
  have f3 : 1 * w_fi ws (n_v vs 0) 8 + ((-1) * w_fi ws (n_v vs 0) 6 + 0) ≤ 0 := f3
  have kz_0_6 : 0 ≤ w_fi ws (n_v vs 0) 6 ∧ w_fi ws (n_v vs 0) 6 ≤ 2000 := tv_rng (th_fd hD hth r0 (g := GG_8) rfl (k := 6) (t := (0, 0, 2000, [])) rfl rfl)
  have kz_0_7 : (-128) ≤ w_fi ws (n_v vs 0) 7 ∧ w_fi ws (n_v vs 0) 7 ≤ 127 := tv_rng (th_fd hD hth r0 (g := GG_8) rfl (k := 7) (t := (0, -128, 127, [])) rfl rfl)
  have kz_0_8 : 0 ≤ w_fi ws (n_v vs 0) 8 ∧ w_fi ws (n_v vs 0) 8 ≤ 2000 := tv_rng (th_fd hD hth r0 (g := GG_8) rfl (k := 8) (t := (0, 0, 2000, [])) rfl rfl)
  have kz_0_9 : (-2147483648) ≤ w_fi ws (n_v vs 0) 9 ∧ w_fi ws (n_v vs 0) 9 ≤ 1000000 := tv_rng (th_fd hD hth r0 (g := GG_8) rfl (k := 9) (t := (0, -2147483648, 1000000, [])) rfl rfl)
  have nf0 : fc_1 (20, [14, 0, 2], [31, 1, 0, 1, 0, 0, 0, 1, 1, 9, -1, 0, 0]) ws (vs) := by
    refine ⟨fun n hn => ?_, ?_⟩
    · have hn : n ∈ [14, 0, 2] := hn
      rw [hl]
      simp only [List.mem_cons, List.not_mem_nil, or_false] at hn
      show n < 15; omega
    · show (1 * v_iv (n_v vs 14) + 0 ≤ 0) ∨ (1 * w_fi ws (n_v vs 0) 9 + ((-1) * v_iv (n_v vs 2) + 0) ≤ 0)
      omega
  have nf1 : fc_1 (20, [14, 0], [31, 1, 0, 1, 0, 0, -1, -1, 1, 9]) ws (vs) := by
    refine ⟨fun n hn => ?_, ?_⟩
    · have hn : n ∈ [14, 0] := hn
      rw [hl]
      simp only [List.mem_cons, List.not_mem_nil, or_false] at hn
      show n < 15; omega
    · show (1 * v_iv (n_v vs 14) + 0 ≤ 0) ∨ ((-1) * w_fi ws (n_v vs 0) 9 + 0 ≤ (-1))
      omega
  refine ⟨(fun _ h => (by cases h)), [], trivial, ?_, (fun _ h => (by cases h))⟩
  rw [List.append_nil]
  exact List.forall_mem_cons.mpr ⟨⟨show (20 : Nat) < 100 from by decide, nf0⟩, List.forall_mem_cons.mpr ⟨⟨show (20 : Nat) < 100 from by decide, nf1⟩, (fun _ h => (by cases h))⟩⟩
def o_Re_readValue_at_s5002_10 : or_T := (50, 12, [(0, (2, 0, 0, [8])), (2, (0, 99, 99, [])), (7, (0, -2147483648, 1000000, [])), (11, (0, 0, 0, []))], [(20, [0, 0, 7], [31, 1, 3, 1, 1, 7, 0, 1, 1, 9, -1, 0, 0]), (20, [0, 0, 7], [31, 1, 3, 1, 1, 7, 0, -1, 1, 9, 1, 0, 0]), (20, [0, 0, 0, 0], [31, 1, -3, -1, 1, 7, 4008, 1, 1, 6, -1, 1, 8, 2000, 1, 7]), (20, [0, 0], [30, 0, 1, 1, 8, -1, 1, 6])], [], [], [(20, [11, 0, 2], [31, 1, 0, 1, 0, 0, 0, 1, 1, 9, -1, 0, 0]), (20, [11, 0], [31, 1, 0, 1, 0, 0, -1, -1, 1, 9])], [], [])
theorem oo_Re_readValue_at_s5002_10 {kA : Nat → ClassId} : or_ok kA GG o_Re_readValue_at_s5002_10 := by
  intro A ta ws vs hD hth hl hk hds hf
  have hl : vs.length = 12 := hl
  have hk : ∀ q ∈ ([(0, (2, 0, 0, [8])), (2, (0, 99, 99, [])), (7, (0, -2147483648, 1000000, [])), (11, (0, 0, 0, []))] : List (Nat × tv_T)), tv_ok ta q.2 (n_v vs q.1) := hk
  obtain ⟨t0, hk⟩ := List.forall_mem_cons.mp hk
  have t0 : tv_ok ta (2, 0, 0, [8]) (n_v vs 0) := t0
  have r0 : ta (v_ad (n_v vs 0)) = some 8 := tv_rg t0
  obtain ⟨t2, hk⟩ := List.forall_mem_cons.mp hk
  have t2 : tv_ok ta (0, 99, 99, []) (n_v vs 2) := t2
  have k2 : 99 ≤ v_iv (n_v vs 2) ∧ v_iv (n_v vs 2) ≤ 99 := tv_rng t2
  obtain ⟨t7, hk⟩ := List.forall_mem_cons.mp hk
  have t7 : tv_ok ta (0, -2147483648, 1000000, []) (n_v vs 7) := t7
  have k7 : (-2147483648) ≤ v_iv (n_v vs 7) ∧ v_iv (n_v vs 7) ≤ 1000000 := tv_rng t7
  obtain ⟨t11, hk⟩ := List.forall_mem_cons.mp hk
  have t11 : tv_ok ta (0, 0, 0, []) (n_v vs 11) := t11
  have k11 : 0 ≤ v_iv (n_v vs 11) ∧ v_iv (n_v vs 11) ≤ 0 := tv_rng t11
  have hf : fc_ok [(20, [0, 0, 7], [31, 1, 3, 1, 1, 7, 0, 1, 1, 9, -1, 0, 0]), (20, [0, 0, 7], [31, 1, 3, 1, 1, 7, 0, -1, 1, 9, 1, 0, 0]), (20, [0, 0, 0, 0], [31, 1, -3, -1, 1, 7, 4008, 1, 1, 6, -1, 1, 8, 2000, 1, 7]), (20, [0, 0], [30, 0, 1, 1, 8, -1, 1, 6])] ta ws vs := hf
  obtain ⟨f0, hf⟩ := fc_un (show (20 : Nat) < 100 from by decide) hf
  have f0 : (1 * w_fi ws (n_v vs 0) 7 + 0 ≤ 3) ∨ (1 * w_fi ws (n_v vs 0) 9 + ((-1) * v_iv (n_v vs 7) + 0) ≤ 0) := f0
  obtain ⟨f1, hf⟩ := fc_un (show (20 : Nat) < 100 from by decide) hf
  have f1 : (1 * w_fi ws (n_v vs 0) 7 + 0 ≤ 3) ∨ ((-1) * w_fi ws (n_v vs 0) 9 + (1 * v_iv (n_v vs 7) + 0) ≤ 0) := f1
  obtain ⟨f2, hf⟩ := fc_un (show (20 : Nat) < 100 from by decide) hf
  have f2 : ((-1) * w_fi ws (n_v vs 0) 7 + 0 ≤ (-3)) ∨ (1 * w_fi ws (n_v vs 0) 6 + ((-1) * w_fi ws (n_v vs 0) 8 + (2000 * w_fi ws (n_v vs 0) 7 + 0)) ≤ 4008) := f2
  obtain ⟨f3, hf⟩ := fc_un (show (20 : Nat) < 100 from by decide) hf
  have f3 : 1 * w_fi ws (n_v vs 0) 8 + ((-1) * w_fi ws (n_v vs 0) 6 + 0) ≤ 0 := f3
  have kz_0_6 : 0 ≤ w_fi ws (n_v vs 0) 6 ∧ w_fi ws (n_v vs 0) 6 ≤ 2000 := tv_rng (th_fd hD hth r0 (g := GG_8) rfl (k := 6) (t := (0, 0, 2000, [])) rfl rfl)
  have kz_0_7 : (-128) ≤ w_fi ws (n_v vs 0) 7 ∧ w_fi ws (n_v vs 0) 7 ≤ 127 := tv_rng (th_fd hD hth r0 (g := GG_8) rfl (k := 7) (t := (0, -128, 127, [])) rfl rfl)
  have kz_0_8 : 0 ≤ w_fi ws (n_v vs 0) 8 ∧ w_fi ws (n_v vs 0) 8 ≤ 2000 := tv_rng (th_fd hD hth r0 (g := GG_8) rfl (k := 8) (t := (0, 0, 2000, [])) rfl rfl)
  have kz_0_9 : (-2147483648) ≤ w_fi ws (n_v vs 0) 9 ∧ w_fi ws (n_v vs 0) 9 ≤ 1000000 := tv_rng (th_fd hD hth r0 (g := GG_8) rfl (k := 9) (t := (0, -2147483648, 1000000, [])) rfl rfl)
  have nf0 : fc_1 (20, [11, 0, 2], [31, 1, 0, 1, 0, 0, 0, 1, 1, 9, -1, 0, 0]) ws (vs) := by
    refine ⟨fun n hn => ?_, ?_⟩
    · have hn : n ∈ [11, 0, 2] := hn
      rw [hl]
      simp only [List.mem_cons, List.not_mem_nil, or_false] at hn
      show n < 12; omega
    · show (1 * v_iv (n_v vs 11) + 0 ≤ 0) ∨ (1 * w_fi ws (n_v vs 0) 9 + ((-1) * v_iv (n_v vs 2) + 0) ≤ 0)
      omega
  have nf1 : fc_1 (20, [11, 0], [31, 1, 0, 1, 0, 0, -1, -1, 1, 9]) ws (vs) := by
    refine ⟨fun n hn => ?_, ?_⟩
    · have hn : n ∈ [11, 0] := hn
      rw [hl]
      simp only [List.mem_cons, List.not_mem_nil, or_false] at hn
      show n < 12; omega
    · show (1 * v_iv (n_v vs 11) + 0 ≤ 0) ∨ ((-1) * w_fi ws (n_v vs 0) 9 + 0 ≤ (-1))
      omega
  refine ⟨(fun _ h => (by cases h)), [], trivial, ?_, (fun _ h => (by cases h))⟩
  rw [List.append_nil]
  exact List.forall_mem_cons.mpr ⟨⟨show (20 : Nat) < 100 from by decide, nf0⟩, List.forall_mem_cons.mpr ⟨⟨show (20 : Nat) < 100 from by decide, nf1⟩, (fun _ h => (by cases h))⟩⟩
def o_Re_readValue_at_s5002_11 : or_T := (31, 9, [(0, (2, 0, 0, [8])), (2, (0, 99, 99, [])), (3, (0, -2147483648, 1000000, [])), (8, (0, 0, 0, []))], [(20, [0, 0, 3], [31, 1, 3, 1, 1, 7, 0, 1, 1, 9, -1, 0, 0]), (20, [0, 0, 3], [31, 1, 3, 1, 1, 7, 0, -1, 1, 9, 1, 0, 0]), (20, [0, 0, 0, 0], [31, 1, -3, -1, 1, 7, 4008, 1, 1, 6, -1, 1, 8, 2000, 1, 7]), (20, [0, 0], [30, 0, 1, 1, 8, -1, 1, 6])], [], [], [(20, [8, 0, 2], [31, 1, 0, 1, 0, 0, 0, 1, 1, 9, -1, 0, 0]), (20, [8, 0], [31, 1, 0, 1, 0, 0, -1, -1, 1, 9])], [], [])
theorem oo_Re_readValue_at_s5002_11 {kA : Nat → ClassId} : or_ok kA GG o_Re_readValue_at_s5002_11 := by
  intro A ta ws vs hD hth hl hk hds hf
  have hl : vs.length = 9 := hl
  have hk : ∀ q ∈ ([(0, (2, 0, 0, [8])), (2, (0, 99, 99, [])), (3, (0, -2147483648, 1000000, [])), (8, (0, 0, 0, []))] : List (Nat × tv_T)), tv_ok ta q.2 (n_v vs q.1) := hk
  obtain ⟨t0, hk⟩ := List.forall_mem_cons.mp hk
  have t0 : tv_ok ta (2, 0, 0, [8]) (n_v vs 0) := t0
  have r0 : ta (v_ad (n_v vs 0)) = some 8 := tv_rg t0
  obtain ⟨t2, hk⟩ := List.forall_mem_cons.mp hk
  have t2 : tv_ok ta (0, 99, 99, []) (n_v vs 2) := t2
  have k2 : 99 ≤ v_iv (n_v vs 2) ∧ v_iv (n_v vs 2) ≤ 99 := tv_rng t2
  obtain ⟨t3, hk⟩ := List.forall_mem_cons.mp hk
  have t3 : tv_ok ta (0, -2147483648, 1000000, []) (n_v vs 3) := t3
  have k3 : (-2147483648) ≤ v_iv (n_v vs 3) ∧ v_iv (n_v vs 3) ≤ 1000000 := tv_rng t3
  obtain ⟨t8, hk⟩ := List.forall_mem_cons.mp hk
  have t8 : tv_ok ta (0, 0, 0, []) (n_v vs 8) := t8
  have k8 : 0 ≤ v_iv (n_v vs 8) ∧ v_iv (n_v vs 8) ≤ 0 := tv_rng t8
  have hf : fc_ok [(20, [0, 0, 3], [31, 1, 3, 1, 1, 7, 0, 1, 1, 9, -1, 0, 0]), (20, [0, 0, 3], [31, 1, 3, 1, 1, 7, 0, -1, 1, 9, 1, 0, 0]), (20, [0, 0, 0, 0], [31, 1, -3, -1, 1, 7, 4008, 1, 1, 6, -1, 1, 8, 2000, 1, 7]), (20, [0, 0], [30, 0, 1, 1, 8, -1, 1, 6])] ta ws vs := hf
  obtain ⟨f0, hf⟩ := fc_un (show (20 : Nat) < 100 from by decide) hf
  have f0 : (1 * w_fi ws (n_v vs 0) 7 + 0 ≤ 3) ∨ (1 * w_fi ws (n_v vs 0) 9 + ((-1) * v_iv (n_v vs 3) + 0) ≤ 0) := f0
  obtain ⟨f1, hf⟩ := fc_un (show (20 : Nat) < 100 from by decide) hf
  have f1 : (1 * w_fi ws (n_v vs 0) 7 + 0 ≤ 3) ∨ ((-1) * w_fi ws (n_v vs 0) 9 + (1 * v_iv (n_v vs 3) + 0) ≤ 0) := f1
  obtain ⟨f2, hf⟩ := fc_un (show (20 : Nat) < 100 from by decide) hf
  have f2 : ((-1) * w_fi ws (n_v vs 0) 7 + 0 ≤ (-3)) ∨ (1 * w_fi ws (n_v vs 0) 6 + ((-1) * w_fi ws (n_v vs 0) 8 + (2000 * w_fi ws (n_v vs 0) 7 + 0)) ≤ 4008) := f2
  obtain ⟨f3, hf⟩ := fc_un (show (20 : Nat) < 100 from by decide) hf
  have f3 : 1 * w_fi ws (n_v vs 0) 8 + ((-1) * w_fi ws (n_v vs 0) 6 + 0) ≤ 0 := f3
  have kz_0_6 : 0 ≤ w_fi ws (n_v vs 0) 6 ∧ w_fi ws (n_v vs 0) 6 ≤ 2000 := tv_rng (th_fd hD hth r0 (g := GG_8) rfl (k := 6) (t := (0, 0, 2000, [])) rfl rfl)
  have kz_0_7 : (-128) ≤ w_fi ws (n_v vs 0) 7 ∧ w_fi ws (n_v vs 0) 7 ≤ 127 := tv_rng (th_fd hD hth r0 (g := GG_8) rfl (k := 7) (t := (0, -128, 127, [])) rfl rfl)
  have kz_0_8 : 0 ≤ w_fi ws (n_v vs 0) 8 ∧ w_fi ws (n_v vs 0) 8 ≤ 2000 := tv_rng (th_fd hD hth r0 (g := GG_8) rfl (k := 8) (t := (0, 0, 2000, [])) rfl rfl)
  have kz_0_9 : (-2147483648) ≤ w_fi ws (n_v vs 0) 9 ∧ w_fi ws (n_v vs 0) 9 ≤ 1000000 := tv_rng (th_fd hD hth r0 (g := GG_8) rfl (k := 9) (t := (0, -2147483648, 1000000, [])) rfl rfl)
  have nf0 : fc_1 (20, [8, 0, 2], [31, 1, 0, 1, 0, 0, 0, 1, 1, 9, -1, 0, 0]) ws (vs) := by
    refine ⟨fun n hn => ?_, ?_⟩
    · have hn : n ∈ [8, 0, 2] := hn
      rw [hl]
      simp only [List.mem_cons, List.not_mem_nil, or_false] at hn
      show n < 9; omega
    · show (1 * v_iv (n_v vs 8) + 0 ≤ 0) ∨ (1 * w_fi ws (n_v vs 0) 9 + ((-1) * v_iv (n_v vs 2) + 0) ≤ 0)
      omega
  have nf1 : fc_1 (20, [8, 0], [31, 1, 0, 1, 0, 0, -1, -1, 1, 9]) ws (vs) := by
    refine ⟨fun n hn => ?_, ?_⟩
    · have hn : n ∈ [8, 0] := hn
      rw [hl]
      simp only [List.mem_cons, List.not_mem_nil, or_false] at hn
      show n < 9; omega
    · show (1 * v_iv (n_v vs 8) + 0 ≤ 0) ∨ ((-1) * w_fi ws (n_v vs 0) 9 + 0 ≤ (-1))
      omega
  refine ⟨(fun _ h => (by cases h)), [], trivial, ?_, (fun _ h => (by cases h))⟩
  rw [List.append_nil]
  exact List.forall_mem_cons.mpr ⟨⟨show (20 : Nat) < 100 from by decide, nf0⟩, List.forall_mem_cons.mpr ⟨⟨show (20 : Nat) < 100 from by decide, nf1⟩, (fun _ h => (by cases h))⟩⟩
def o_Re_readValue_at_s5002_12 : or_T := (17, 8, [(0, (2, 0, 0, [8])), (2, (0, 99, 99, [])), (3, (0, -2147483648, 1000000, [])), (7, (0, 0, 0, []))], [(20, [0, 0, 3], [31, 1, 3, 1, 1, 7, 0, 1, 1, 9, -1, 0, 0]), (20, [0, 0, 3], [31, 1, 3, 1, 1, 7, 0, -1, 1, 9, 1, 0, 0]), (20, [0, 0, 0, 0], [31, 1, -3, -1, 1, 7, 4008, 1, 1, 6, -1, 1, 8, 2000, 1, 7]), (20, [0, 0], [30, 0, 1, 1, 8, -1, 1, 6])], [], [], [(20, [7, 0, 2], [31, 1, 0, 1, 0, 0, 0, 1, 1, 9, -1, 0, 0]), (20, [7, 0], [31, 1, 0, 1, 0, 0, -1, -1, 1, 9])], [], [])
theorem oo_Re_readValue_at_s5002_12 {kA : Nat → ClassId} : or_ok kA GG o_Re_readValue_at_s5002_12 := by
  intro A ta ws vs hD hth hl hk hds hf
  have hl : vs.length = 8 := hl
  have hk : ∀ q ∈ ([(0, (2, 0, 0, [8])), (2, (0, 99, 99, [])), (3, (0, -2147483648, 1000000, [])), (7, (0, 0, 0, []))] : List (Nat × tv_T)), tv_ok ta q.2 (n_v vs q.1) := hk
  obtain ⟨t0, hk⟩ := List.forall_mem_cons.mp hk
  have t0 : tv_ok ta (2, 0, 0, [8]) (n_v vs 0) := t0
  have r0 : ta (v_ad (n_v vs 0)) = some 8 := tv_rg t0
  obtain ⟨t2, hk⟩ := List.forall_mem_cons.mp hk
  have t2 : tv_ok ta (0, 99, 99, []) (n_v vs 2) := t2
  have k2 : 99 ≤ v_iv (n_v vs 2) ∧ v_iv (n_v vs 2) ≤ 99 := tv_rng t2
  obtain ⟨t3, hk⟩ := List.forall_mem_cons.mp hk
  have t3 : tv_ok ta (0, -2147483648, 1000000, []) (n_v vs 3) := t3
  have k3 : (-2147483648) ≤ v_iv (n_v vs 3) ∧ v_iv (n_v vs 3) ≤ 1000000 := tv_rng t3
  obtain ⟨t7, hk⟩ := List.forall_mem_cons.mp hk
  have t7 : tv_ok ta (0, 0, 0, []) (n_v vs 7) := t7
  have k7 : 0 ≤ v_iv (n_v vs 7) ∧ v_iv (n_v vs 7) ≤ 0 := tv_rng t7
  have hf : fc_ok [(20, [0, 0, 3], [31, 1, 3, 1, 1, 7, 0, 1, 1, 9, -1, 0, 0]), (20, [0, 0, 3], [31, 1, 3, 1, 1, 7, 0, -1, 1, 9, 1, 0, 0]), (20, [0, 0, 0, 0], [31, 1, -3, -1, 1, 7, 4008, 1, 1, 6, -1, 1, 8, 2000, 1, 7]), (20, [0, 0], [30, 0, 1, 1, 8, -1, 1, 6])] ta ws vs := hf
  obtain ⟨f0, hf⟩ := fc_un (show (20 : Nat) < 100 from by decide) hf
  have f0 : (1 * w_fi ws (n_v vs 0) 7 + 0 ≤ 3) ∨ (1 * w_fi ws (n_v vs 0) 9 + ((-1) * v_iv (n_v vs 3) + 0) ≤ 0) := f0
  obtain ⟨f1, hf⟩ := fc_un (show (20 : Nat) < 100 from by decide) hf
  have f1 : (1 * w_fi ws (n_v vs 0) 7 + 0 ≤ 3) ∨ ((-1) * w_fi ws (n_v vs 0) 9 + (1 * v_iv (n_v vs 3) + 0) ≤ 0) := f1
  obtain ⟨f2, hf⟩ := fc_un (show (20 : Nat) < 100 from by decide) hf
  have f2 : ((-1) * w_fi ws (n_v vs 0) 7 + 0 ≤ (-3)) ∨ (1 * w_fi ws (n_v vs 0) 6 + ((-1) * w_fi ws (n_v vs 0) 8 + (2000 * w_fi ws (n_v vs 0) 7 + 0)) ≤ 4008) := f2
  obtain ⟨f3, hf⟩ := fc_un (show (20 : Nat) < 100 from by decide) hf
  have f3 : 1 * w_fi ws (n_v vs 0) 8 + ((-1) * w_fi ws (n_v vs 0) 6 + 0) ≤ 0 := f3
  have kz_0_6 : 0 ≤ w_fi ws (n_v vs 0) 6 ∧ w_fi ws (n_v vs 0) 6 ≤ 2000 := tv_rng (th_fd hD hth r0 (g := GG_8) rfl (k := 6) (t := (0, 0, 2000, [])) rfl rfl)
  have kz_0_7 : (-128) ≤ w_fi ws (n_v vs 0) 7 ∧ w_fi ws (n_v vs 0) 7 ≤ 127 := tv_rng (th_fd hD hth r0 (g := GG_8) rfl (k := 7) (t := (0, -128, 127, [])) rfl rfl)
  have kz_0_8 : 0 ≤ w_fi ws (n_v vs 0) 8 ∧ w_fi ws (n_v vs 0) 8 ≤ 2000 := tv_rng (th_fd hD hth r0 (g := GG_8) rfl (k := 8) (t := (0, 0, 2000, [])) rfl rfl)
  have kz_0_9 : (-2147483648) ≤ w_fi ws (n_v vs 0) 9 ∧ w_fi ws (n_v vs 0) 9 ≤ 1000000 := tv_rng (th_fd hD hth r0 (g := GG_8) rfl (k := 9) (t := (0, -2147483648, 1000000, [])) rfl rfl)
  have nf0 : fc_1 (20, [7, 0, 2], [31, 1, 0, 1, 0, 0, 0, 1, 1, 9, -1, 0, 0]) ws (vs) := by
    refine ⟨fun n hn => ?_, ?_⟩
    · have hn : n ∈ [7, 0, 2] := hn
      rw [hl]
      simp only [List.mem_cons, List.not_mem_nil, or_false] at hn
      show n < 8; omega
    · show (1 * v_iv (n_v vs 7) + 0 ≤ 0) ∨ (1 * w_fi ws (n_v vs 0) 9 + ((-1) * v_iv (n_v vs 2) + 0) ≤ 0)
      omega
  have nf1 : fc_1 (20, [7, 0], [31, 1, 0, 1, 0, 0, -1, -1, 1, 9]) ws (vs) := by
    refine ⟨fun n hn => ?_, ?_⟩
    · have hn : n ∈ [7, 0] := hn
      rw [hl]
      simp only [List.mem_cons, List.not_mem_nil, or_false] at hn
      show n < 8; omega
    · show (1 * v_iv (n_v vs 7) + 0 ≤ 0) ∨ ((-1) * w_fi ws (n_v vs 0) 9 + 0 ≤ (-1))
      omega
  refine ⟨(fun _ h => (by cases h)), [], trivial, ?_, (fun _ h => (by cases h))⟩
  rw [List.append_nil]
  exact List.forall_mem_cons.mpr ⟨⟨show (20 : Nat) < 100 from by decide, nf0⟩, List.forall_mem_cons.mpr ⟨⟨show (20 : Nat) < 100 from by decide, nf1⟩, (fun _ h => (by cases h))⟩⟩
def n_Re_readValue_at_s5002_an : List an_T := []
def t_Re_readValue_at_s5002_ct : ct_L := [(1, 57, e_Re_advance), (1, 113, e_Re_fail), (64, 95, e_Re_isWord_at_s5002)]
set_option maxRecDepth 100000 in
theorem c_Re_readValue_at_s5002 {l : Launch} {D : va_G} {kA : Nat → ClassId} (h_Re_advance : ct_ok l D kA GG y_Re_advance z_Re_advance e_Re_advance) (h_Re_fail : ct_ok l D kA GG y_Re_fail z_Re_fail e_Re_fail) (h_Re_isWord_at_s5002 : ct_ok l D kA GG y_Re_isWord_at_s5002 z_Re_isWord_at_s5002 e_Re_isWord_at_s5002) : ct_ok l D kA GG y_Re_readValue_at_s5002 z_Re_readValue_at_s5002 e_Re_readValue_at_s5002 := chk_all_ok (FT := [(38, 8, 7), (44, 8, 9)]) (PT := []) (CT := t_Re_readValue_at_s5002_ct) (KT := []) (NT := []) (AN := n_Re_readValue_at_s5002_an) (OT := [o_Re_readValue_at_s5002_0, o_Re_readValue_at_s5002_1, o_Re_readValue_at_s5002_2, o_Re_readValue_at_s5002_3, o_Re_readValue_at_s5002_4, o_Re_readValue_at_s5002_5, o_Re_readValue_at_s5002_6, o_Re_readValue_at_s5002_7, o_Re_readValue_at_s5002_8, o_Re_readValue_at_s5002_9, o_Re_readValue_at_s5002_10, o_Re_readValue_at_s5002_11, o_Re_readValue_at_s5002_12]) 0 308 (List.forall_mem_cons.mpr ⟨oo_Re_readValue_at_s5002_0, List.forall_mem_cons.mpr ⟨oo_Re_readValue_at_s5002_1, List.forall_mem_cons.mpr ⟨oo_Re_readValue_at_s5002_2, List.forall_mem_cons.mpr ⟨oo_Re_readValue_at_s5002_3, List.forall_mem_cons.mpr ⟨oo_Re_readValue_at_s5002_4, List.forall_mem_cons.mpr ⟨oo_Re_readValue_at_s5002_5, List.forall_mem_cons.mpr ⟨oo_Re_readValue_at_s5002_6, List.forall_mem_cons.mpr ⟨oo_Re_readValue_at_s5002_7, List.forall_mem_cons.mpr ⟨oo_Re_readValue_at_s5002_8, List.forall_mem_cons.mpr ⟨oo_Re_readValue_at_s5002_9, List.forall_mem_cons.mpr ⟨oo_Re_readValue_at_s5002_10, List.forall_mem_cons.mpr ⟨oo_Re_readValue_at_s5002_11, List.forall_mem_cons.mpr ⟨oo_Re_readValue_at_s5002_12, List.forall_mem_nil _⟩⟩⟩⟩⟩⟩⟩⟩⟩⟩⟩⟩⟩) (by decide +kernel) ⟨List.forall_mem_cons.mpr ⟨gf_Re_38, List.forall_mem_cons.mpr ⟨gf_Re_44, List.forall_mem_nil _⟩⟩, List.forall_mem_nil _, List.forall_mem_cons.mpr ⟨cl_virtual (y := y_Re_advance) (ci := 8) rfl rfl ⟨_, _, rfl⟩ (by decide +kernel) h_Re_advance wm_645 wm_2 wm_642 wm_644 wv_1_0 ⟨by decide, by decide, by decide +kernel⟩ (by decide), List.forall_mem_cons.mpr ⟨cl_virtual (y := y_Re_fail) (ci := 8) rfl rfl ⟨_, _, rfl⟩ (by decide +kernel) h_Re_fail wm_731 wm_2 wm_728 wm_730 wv_1_5 ⟨by decide, by decide, by decide +kernel⟩ (by decide), List.forall_mem_cons.mpr ⟨cl_virtual (y := y_Re_isWord_at_s5002) (ci := 8) rfl rfl ⟨_, _, rfl⟩ (by decide +kernel) h_Re_isWord_at_s5002 wm_670 wm_2 wm_667 wm_669 wv_1_2 ⟨by decide, by decide, by decide +kernel⟩ (by decide), List.forall_mem_nil _⟩⟩⟩, List.forall_mem_nil _, List.forall_mem_nil _, GG_pl⟩ (by decide +kernel)
def o_Re_readValue_at_s5003_0 : or_T := (1, 3, [(0, (2, 0, 0, [8]))], [], [], [(0, -2147483648, 1000000, [])], [(20, [0, 3], [30, 0, 1, 1, 9, -1, 0, 0]), (20, [0, 3], [30, 0, -1, 1, 9, 1, 0, 0])], [], [])
theorem oo_Re_readValue_at_s5003_0 {kA : Nat → ClassId} : or_ok kA GG o_Re_readValue_at_s5003_0 := by
  intro A ta ws vs hD hth hl hk hds hf
  have hl : vs.length = 3 := hl
  have hk : ∀ q ∈ ([(0, (2, 0, 0, [8]))] : List (Nat × tv_T)), tv_ok ta q.2 (n_v vs q.1) := hk
  obtain ⟨t0, hk⟩ := List.forall_mem_cons.mp hk
  have t0 : tv_ok ta (2, 0, 0, [8]) (n_v vs 0) := t0
  have r0 : ta (v_ad (n_v vs 0)) = some 8 := tv_rg t0
  have kz_0_9 : (-2147483648) ≤ w_fi ws (n_v vs 0) 9 ∧ w_fi ws (n_v vs 0) 9 ≤ 1000000 := tv_rng (th_fd hD hth r0 (g := GG_8) rfl (k := 9) (t := (0, -2147483648, 1000000, [])) rfl rfl)
  have kv0 : (-2147483648) ≤ w_fi ws (n_v vs 0) 9 ∧ w_fi ws (n_v vs 0) 9 ≤ 1000000 := tv_rng (th_fd hD hth r0 (g := GG_8) rfl (k := 9) (t := (0, -2147483648, 1000000, [])) rfl rfl)
  obtain ⟨x, ex, hx⟩ := iv_ex (ta := ta) (lo := (-2147483648)) (hi := 1000000) (z := w_fi ws (n_v vs 0) 9) (by omega) (by omega) (by omega) (by omega)
  have ex2 : v_iv (Value.int x) = w_fi ws (n_v vs 0) 9 := ex
  have ex3 : (-2147483648) ≤ v_iv (Value.int x) ∧ v_iv (Value.int x) ≤ 1000000 := tv_rng hx
  have e_0 : n_v (vs ++ [Value.int x]) 0 = n_v vs 0 := n_v_old (by rw [hl]; decide)
  have e_3 : n_v (vs ++ [Value.int x]) 3 = Value.int x := n_v_new hl
  have nf0 : fc_1 (20, [0, 3], [30, 0, 1, 1, 9, -1, 0, 0]) ws (vs ++ [Value.int x]) := by
    refine ⟨fun n hn => ?_, ?_⟩
    · have hn : n ∈ [0, 3] := hn
      rw [List.length_append, hl]
      simp only [List.mem_cons, List.not_mem_nil, or_false] at hn
      show n < 3 + 1; omega
    · show 1 * w_fi ws (n_v (vs ++ [Value.int x]) 0) 9 + ((-1) * v_iv (n_v (vs ++ [Value.int x]) 3) + 0) ≤ 0
      rw [e_0]
      rw [e_3]
      omega
  have nf1 : fc_1 (20, [0, 3], [30, 0, -1, 1, 9, 1, 0, 0]) ws (vs ++ [Value.int x]) := by
    refine ⟨fun n hn => ?_, ?_⟩
    · have hn : n ∈ [0, 3] := hn
      rw [List.length_append, hl]
      simp only [List.mem_cons, List.not_mem_nil, or_false] at hn
      show n < 3 + 1; omega
    · show (-1) * w_fi ws (n_v (vs ++ [Value.int x]) 0) 9 + (1 * v_iv (n_v (vs ++ [Value.int x]) 3) + 0) ≤ 0
      rw [e_0]
      rw [e_3]
      omega
  exact ⟨(fun _ h => (by cases h)), [Value.int x], ag_one hx, List.forall_mem_cons.mpr ⟨⟨show (20 : Nat) < 100 from by decide, nf0⟩, List.forall_mem_cons.mpr ⟨⟨show (20 : Nat) < 100 from by decide, nf1⟩, (fun _ h => (by cases h))⟩⟩, (fun _ h => (by cases h))⟩
def o_Re_readValue_at_s5003_1 : or_T := (33, 7, [(0, (2, 0, 0, [8])), (3, (0, -2147483648, 1000000, []))], [(20, [0, 0, 3], [31, 1, 3, 1, 1, 7, 0, 1, 1, 9, -1, 0, 0]), (20, [0, 0, 3], [31, 1, 3, 1, 1, 7, 0, -1, 1, 9, 1, 0, 0]), (20, [0, 0, 0, 0], [31, 1, -3, -1, 1, 7, 4008, 1, 1, 6, -1, 1, 8, 2000, 1, 7]), (20, [0, 0], [30, 0, 1, 1, 8, -1, 1, 6])], [], [(0, -2147483648, 1000000, [])], [(20, [0, 7], [30, 0, 1, 1, 9, -1, 0, 0]), (20, [0, 7], [30, 0, -1, 1, 9, 1, 0, 0])], [], [])
theorem oo_Re_readValue_at_s5003_1 {kA : Nat → ClassId} : or_ok kA GG o_Re_readValue_at_s5003_1 := by
  intro A ta ws vs hD hth hl hk hds hf
  have hl : vs.length = 7 := hl
  have hk : ∀ q ∈ ([(0, (2, 0, 0, [8])), (3, (0, -2147483648, 1000000, []))] : List (Nat × tv_T)), tv_ok ta q.2 (n_v vs q.1) := hk
  obtain ⟨t0, hk⟩ := List.forall_mem_cons.mp hk
  have t0 : tv_ok ta (2, 0, 0, [8]) (n_v vs 0) := t0
  have r0 : ta (v_ad (n_v vs 0)) = some 8 := tv_rg t0
  obtain ⟨t3, hk⟩ := List.forall_mem_cons.mp hk
  have t3 : tv_ok ta (0, -2147483648, 1000000, []) (n_v vs 3) := t3
  have k3 : (-2147483648) ≤ v_iv (n_v vs 3) ∧ v_iv (n_v vs 3) ≤ 1000000 := tv_rng t3
  have hf : fc_ok [(20, [0, 0, 3], [31, 1, 3, 1, 1, 7, 0, 1, 1, 9, -1, 0, 0]), (20, [0, 0, 3], [31, 1, 3, 1, 1, 7, 0, -1, 1, 9, 1, 0, 0]), (20, [0, 0, 0, 0], [31, 1, -3, -1, 1, 7, 4008, 1, 1, 6, -1, 1, 8, 2000, 1, 7]), (20, [0, 0], [30, 0, 1, 1, 8, -1, 1, 6])] ta ws vs := hf
  obtain ⟨f0, hf⟩ := fc_un (show (20 : Nat) < 100 from by decide) hf
  have f0 : (1 * w_fi ws (n_v vs 0) 7 + 0 ≤ 3) ∨ (1 * w_fi ws (n_v vs 0) 9 + ((-1) * v_iv (n_v vs 3) + 0) ≤ 0) := f0
  obtain ⟨f1, hf⟩ := fc_un (show (20 : Nat) < 100 from by decide) hf
  have f1 : (1 * w_fi ws (n_v vs 0) 7 + 0 ≤ 3) ∨ ((-1) * w_fi ws (n_v vs 0) 9 + (1 * v_iv (n_v vs 3) + 0) ≤ 0) := f1
  obtain ⟨f2, hf⟩ := fc_un (show (20 : Nat) < 100 from by decide) hf
  have f2 : ((-1) * w_fi ws (n_v vs 0) 7 + 0 ≤ (-3)) ∨ (1 * w_fi ws (n_v vs 0) 6 + ((-1) * w_fi ws (n_v vs 0) 8 + (2000 * w_fi ws (n_v vs 0) 7 + 0)) ≤ 4008) := f2
  obtain ⟨f3, hf⟩ := fc_un (show (20 : Nat) < 100 from by decide) hf
  have f3 : 1 * w_fi ws (n_v vs 0) 8 + ((-1) * w_fi ws (n_v vs 0) 6 + 0) ≤ 0 := f3
  have kz_0_6 : 0 ≤ w_fi ws (n_v vs 0) 6 ∧ w_fi ws (n_v vs 0) 6 ≤ 2000 := tv_rng (th_fd hD hth r0 (g := GG_8) rfl (k := 6) (t := (0, 0, 2000, [])) rfl rfl)
  have kz_0_7 : (-128) ≤ w_fi ws (n_v vs 0) 7 ∧ w_fi ws (n_v vs 0) 7 ≤ 127 := tv_rng (th_fd hD hth r0 (g := GG_8) rfl (k := 7) (t := (0, -128, 127, [])) rfl rfl)
  have kz_0_8 : 0 ≤ w_fi ws (n_v vs 0) 8 ∧ w_fi ws (n_v vs 0) 8 ≤ 2000 := tv_rng (th_fd hD hth r0 (g := GG_8) rfl (k := 8) (t := (0, 0, 2000, [])) rfl rfl)
  have kz_0_9 : (-2147483648) ≤ w_fi ws (n_v vs 0) 9 ∧ w_fi ws (n_v vs 0) 9 ≤ 1000000 := tv_rng (th_fd hD hth r0 (g := GG_8) rfl (k := 9) (t := (0, -2147483648, 1000000, [])) rfl rfl)
  have kv0 : (-2147483648) ≤ w_fi ws (n_v vs 0) 9 ∧ w_fi ws (n_v vs 0) 9 ≤ 1000000 := tv_rng (th_fd hD hth r0 (g := GG_8) rfl (k := 9) (t := (0, -2147483648, 1000000, [])) rfl rfl)
  obtain ⟨x, ex, hx⟩ := iv_ex (ta := ta) (lo := (-2147483648)) (hi := 1000000) (z := w_fi ws (n_v vs 0) 9) (by omega) (by omega) (by omega) (by omega)
  have ex2 : v_iv (Value.int x) = w_fi ws (n_v vs 0) 9 := ex
  have ex3 : (-2147483648) ≤ v_iv (Value.int x) ∧ v_iv (Value.int x) ≤ 1000000 := tv_rng hx
  have e_0 : n_v (vs ++ [Value.int x]) 0 = n_v vs 0 := n_v_old (by rw [hl]; decide)
  have e_7 : n_v (vs ++ [Value.int x]) 7 = Value.int x := n_v_new hl
  have nf0 : fc_1 (20, [0, 7], [30, 0, 1, 1, 9, -1, 0, 0]) ws (vs ++ [Value.int x]) := by
    refine ⟨fun n hn => ?_, ?_⟩
    · have hn : n ∈ [0, 7] := hn
      rw [List.length_append, hl]
      simp only [List.mem_cons, List.not_mem_nil, or_false] at hn
      show n < 7 + 1; omega
    · show 1 * w_fi ws (n_v (vs ++ [Value.int x]) 0) 9 + ((-1) * v_iv (n_v (vs ++ [Value.int x]) 7) + 0) ≤ 0
      rw [e_0]
      rw [e_7]
      omega
  have nf1 : fc_1 (20, [0, 7], [30, 0, -1, 1, 9, 1, 0, 0]) ws (vs ++ [Value.int x]) := by
    refine ⟨fun n hn => ?_, ?_⟩
    · have hn : n ∈ [0, 7] := hn
      rw [List.length_append, hl]
      simp only [List.mem_cons, List.not_mem_nil, or_false] at hn
      show n < 7 + 1; omega
    · show (-1) * w_fi ws (n_v (vs ++ [Value.int x]) 0) 9 + (1 * v_iv (n_v (vs ++ [Value.int x]) 7) + 0) ≤ 0
      rw [e_0]
      rw [e_7]
      omega
  exact ⟨(fun _ h => (by cases h)), [Value.int x], ag_one hx, List.forall_mem_cons.mpr ⟨⟨show (20 : Nat) < 100 from by decide, nf0⟩, List.forall_mem_cons.mpr ⟨⟨show (20 : Nat) < 100 from by decide, nf1⟩, (fun _ h => (by cases h))⟩⟩, (fun _ h => (by cases h))⟩
def o_Re_readValue_at_s5003_2 : or_T := (52, 10, [(0, (2, 0, 0, [8])), (7, (0, -2147483648, 1000000, [])), (8, (0, 61, 61, [])), (9, (0, 61, 61, []))], [(7, [8, 9], [0]), (9, [8, 0], [7]), (20, [0, 0, 7], [31, 1, 3, 1, 1, 7, 0, 1, 1, 9, -1, 0, 0]), (20, [0, 0, 7], [31, 1, 3, 1, 1, 7, 0, -1, 1, 9, 1, 0, 0]), (20, [0, 0, 0, 0], [31, 1, -3, -1, 1, 7, 4008, 1, 1, 6, -1, 1, 8, 2000, 1, 7]), (20, [0, 0], [30, 0, 1, 1, 8, -1, 1, 6])], [], [(0, -2147483648, 1000000, [])], [(20, [0, 10], [30, 0, 1, 1, 9, -1, 0, 0]), (20, [0, 10], [30, 0, -1, 1, 9, 1, 0, 0])], [], [])
theorem oo_Re_readValue_at_s5003_2 {kA : Nat → ClassId} : or_ok kA GG o_Re_readValue_at_s5003_2 := by
  intro A ta ws vs hD hth hl hk hds hf
  have hl : vs.length = 10 := hl
  have hk : ∀ q ∈ ([(0, (2, 0, 0, [8])), (7, (0, -2147483648, 1000000, [])), (8, (0, 61, 61, [])), (9, (0, 61, 61, []))] : List (Nat × tv_T)), tv_ok ta q.2 (n_v vs q.1) := hk
  obtain ⟨t0, hk⟩ := List.forall_mem_cons.mp hk
  have t0 : tv_ok ta (2, 0, 0, [8]) (n_v vs 0) := t0
  have r0 : ta (v_ad (n_v vs 0)) = some 8 := tv_rg t0
  obtain ⟨t7, hk⟩ := List.forall_mem_cons.mp hk
  have t7 : tv_ok ta (0, -2147483648, 1000000, []) (n_v vs 7) := t7
  have k7 : (-2147483648) ≤ v_iv (n_v vs 7) ∧ v_iv (n_v vs 7) ≤ 1000000 := tv_rng t7
  obtain ⟨t8, hk⟩ := List.forall_mem_cons.mp hk
  have t8 : tv_ok ta (0, 61, 61, []) (n_v vs 8) := t8
  have k8 : 61 ≤ v_iv (n_v vs 8) ∧ v_iv (n_v vs 8) ≤ 61 := tv_rng t8
  obtain ⟨t9, hk⟩ := List.forall_mem_cons.mp hk
  have t9 : tv_ok ta (0, 61, 61, []) (n_v vs 9) := t9
  have k9 : 61 ≤ v_iv (n_v vs 9) ∧ v_iv (n_v vs 9) ≤ 61 := tv_rng t9
  have hf : fc_ok [(7, [8, 9], [0]), (9, [8, 0], [7]), (20, [0, 0, 7], [31, 1, 3, 1, 1, 7, 0, 1, 1, 9, -1, 0, 0]), (20, [0, 0, 7], [31, 1, 3, 1, 1, 7, 0, -1, 1, 9, 1, 0, 0]), (20, [0, 0, 0, 0], [31, 1, -3, -1, 1, 7, 4008, 1, 1, 6, -1, 1, 8, 2000, 1, 7]), (20, [0, 0], [30, 0, 1, 1, 8, -1, 1, 6])] ta ws vs := hf
  obtain ⟨f0, hf⟩ := fc_un (show (7 : Nat) < 100 from by decide) hf
  have f0 : v_iv (n_v vs 8) = v_iv (n_v vs 9) := f0
  obtain ⟨f1, hf⟩ := fc_un (show (9 : Nat) < 100 from by decide) hf
  have f1 : n_v vs 8 = w_fd ws (v_ad (n_v vs 0)) 7 := f1
  obtain ⟨f2, hf⟩ := fc_un (show (20 : Nat) < 100 from by decide) hf
  have f2 : (1 * w_fi ws (n_v vs 0) 7 + 0 ≤ 3) ∨ (1 * w_fi ws (n_v vs 0) 9 + ((-1) * v_iv (n_v vs 7) + 0) ≤ 0) := f2
  obtain ⟨f3, hf⟩ := fc_un (show (20 : Nat) < 100 from by decide) hf
  have f3 : (1 * w_fi ws (n_v vs 0) 7 + 0 ≤ 3) ∨ ((-1) * w_fi ws (n_v vs 0) 9 + (1 * v_iv (n_v vs 7) + 0) ≤ 0) := f3
  obtain ⟨f4, hf⟩ := fc_un (show (20 : Nat) < 100 from by decide) hf
  have f4 : ((-1) * w_fi ws (n_v vs 0) 7 + 0 ≤ (-3)) ∨ (1 * w_fi ws (n_v vs 0) 6 + ((-1) * w_fi ws (n_v vs 0) 8 + (2000 * w_fi ws (n_v vs 0) 7 + 0)) ≤ 4008) := f4
  obtain ⟨f5, hf⟩ := fc_un (show (20 : Nat) < 100 from by decide) hf
  have f5 : 1 * w_fi ws (n_v vs 0) 8 + ((-1) * w_fi ws (n_v vs 0) 6 + 0) ≤ 0 := f5
  have g1 : v_iv (n_v vs 8) = w_fi ws (n_v vs 0) 7 := congrArg v_iv f1
  have kz_0_6 : 0 ≤ w_fi ws (n_v vs 0) 6 ∧ w_fi ws (n_v vs 0) 6 ≤ 2000 := tv_rng (th_fd hD hth r0 (g := GG_8) rfl (k := 6) (t := (0, 0, 2000, [])) rfl rfl)
  have kz_0_7 : (-128) ≤ w_fi ws (n_v vs 0) 7 ∧ w_fi ws (n_v vs 0) 7 ≤ 127 := tv_rng (th_fd hD hth r0 (g := GG_8) rfl (k := 7) (t := (0, -128, 127, [])) rfl rfl)
  have kz_0_8 : 0 ≤ w_fi ws (n_v vs 0) 8 ∧ w_fi ws (n_v vs 0) 8 ≤ 2000 := tv_rng (th_fd hD hth r0 (g := GG_8) rfl (k := 8) (t := (0, 0, 2000, [])) rfl rfl)
  have kz_0_9 : (-2147483648) ≤ w_fi ws (n_v vs 0) 9 ∧ w_fi ws (n_v vs 0) 9 ≤ 1000000 := tv_rng (th_fd hD hth r0 (g := GG_8) rfl (k := 9) (t := (0, -2147483648, 1000000, [])) rfl rfl)
  have kv0 : (-2147483648) ≤ w_fi ws (n_v vs 0) 9 ∧ w_fi ws (n_v vs 0) 9 ≤ 1000000 := tv_rng (th_fd hD hth r0 (g := GG_8) rfl (k := 9) (t := (0, -2147483648, 1000000, [])) rfl rfl)
  obtain ⟨x, ex, hx⟩ := iv_ex (ta := ta) (lo := (-2147483648)) (hi := 1000000) (z := w_fi ws (n_v vs 0) 9) (by omega) (by omega) (by omega) (by omega)
  have ex2 : v_iv (Value.int x) = w_fi ws (n_v vs 0) 9 := ex
  have ex3 : (-2147483648) ≤ v_iv (Value.int x) ∧ v_iv (Value.int x) ≤ 1000000 := tv_rng hx
  have e_0 : n_v (vs ++ [Value.int x]) 0 = n_v vs 0 := n_v_old (by rw [hl]; decide)
  have e_10 : n_v (vs ++ [Value.int x]) 10 = Value.int x := n_v_new hl
  have nf0 : fc_1 (20, [0, 10], [30, 0, 1, 1, 9, -1, 0, 0]) ws (vs ++ [Value.int x]) := by
    refine ⟨fun n hn => ?_, ?_⟩
    · have hn : n ∈ [0, 10] := hn
      rw [List.length_append, hl]
      simp only [List.mem_cons, List.not_mem_nil, or_false] at hn
      show n < 10 + 1; omega
    · show 1 * w_fi ws (n_v (vs ++ [Value.int x]) 0) 9 + ((-1) * v_iv (n_v (vs ++ [Value.int x]) 10) + 0) ≤ 0
      rw [e_0]
      rw [e_10]
      omega
  have nf1 : fc_1 (20, [0, 10], [30, 0, -1, 1, 9, 1, 0, 0]) ws (vs ++ [Value.int x]) := by
    refine ⟨fun n hn => ?_, ?_⟩
    · have hn : n ∈ [0, 10] := hn
      rw [List.length_append, hl]
      simp only [List.mem_cons, List.not_mem_nil, or_false] at hn
      show n < 10 + 1; omega
    · show (-1) * w_fi ws (n_v (vs ++ [Value.int x]) 0) 9 + (1 * v_iv (n_v (vs ++ [Value.int x]) 10) + 0) ≤ 0
      rw [e_0]
      rw [e_10]
      omega
  exact ⟨(fun _ h => (by cases h)), [Value.int x], ag_one hx, List.forall_mem_cons.mpr ⟨⟨show (20 : Nat) < 100 from by decide, nf0⟩, List.forall_mem_cons.mpr ⟨⟨show (20 : Nat) < 100 from by decide, nf1⟩, (fun _ h => (by cases h))⟩⟩, (fun _ h => (by cases h))⟩
def o_Re_readValue_at_s5003_3 : or_T := (90, 17, [(0, (2, 0, 0, [8])), (2, (0, 9, 9, [])), (10, (0, -2147483648, 1000000, [])), (16, (0, 0, 0, []))], [(20, [0, 0, 10], [31, 1, 3, 1, 1, 7, 0, 1, 1, 9, -1, 0, 0]), (20, [0, 0, 10], [31, 1, 3, 1, 1, 7, 0, -1, 1, 9, 1, 0, 0]), (20, [0, 0, 0, 0], [31, 1, -3, -1, 1, 7, 4008, 1, 1, 6, -1, 1, 8, 2000, 1, 7]), (20, [0, 0], [30, 0, 1, 1, 8, -1, 1, 6])], [], [], [(20, [16, 0, 2], [31, 1, 0, 1, 0, 0, 0, 1, 1, 9, -1, 0, 0]), (20, [16, 0], [31, 1, 0, 1, 0, 0, -1, -1, 1, 9])], [], [])
theorem oo_Re_readValue_at_s5003_3 {kA : Nat → ClassId} : or_ok kA GG o_Re_readValue_at_s5003_3 := by
  intro A ta ws vs hD hth hl hk hds hf
  have hl : vs.length = 17 := hl
  have hk : ∀ q ∈ ([(0, (2, 0, 0, [8])), (2, (0, 9, 9, [])), (10, (0, -2147483648, 1000000, [])), (16, (0, 0, 0, []))] : List (Nat × tv_T)), tv_ok ta q.2 (n_v vs q.1) := hk
  obtain ⟨t0, hk⟩ := List.forall_mem_cons.mp hk
  have t0 : tv_ok ta (2, 0, 0, [8]) (n_v vs 0) := t0
  have r0 : ta (v_ad (n_v vs 0)) = some 8 := tv_rg t0
  obtain ⟨t2, hk⟩ := List.forall_mem_cons.mp hk
  have t2 : tv_ok ta (0, 9, 9, []) (n_v vs 2) := t2
  have k2 : 9 ≤ v_iv (n_v vs 2) ∧ v_iv (n_v vs 2) ≤ 9 := tv_rng t2
  obtain ⟨t10, hk⟩ := List.forall_mem_cons.mp hk
  have t10 : tv_ok ta (0, -2147483648, 1000000, []) (n_v vs 10) := t10
  have k10 : (-2147483648) ≤ v_iv (n_v vs 10) ∧ v_iv (n_v vs 10) ≤ 1000000 := tv_rng t10
  obtain ⟨t16, hk⟩ := List.forall_mem_cons.mp hk
  have t16 : tv_ok ta (0, 0, 0, []) (n_v vs 16) := t16
  have k16 : 0 ≤ v_iv (n_v vs 16) ∧ v_iv (n_v vs 16) ≤ 0 := tv_rng t16
  have hf : fc_ok [(20, [0, 0, 10], [31, 1, 3, 1, 1, 7, 0, 1, 1, 9, -1, 0, 0]), (20, [0, 0, 10], [31, 1, 3, 1, 1, 7, 0, -1, 1, 9, 1, 0, 0]), (20, [0, 0, 0, 0], [31, 1, -3, -1, 1, 7, 4008, 1, 1, 6, -1, 1, 8, 2000, 1, 7]), (20, [0, 0], [30, 0, 1, 1, 8, -1, 1, 6])] ta ws vs := hf
  obtain ⟨f0, hf⟩ := fc_un (show (20 : Nat) < 100 from by decide) hf
  have f0 : (1 * w_fi ws (n_v vs 0) 7 + 0 ≤ 3) ∨ (1 * w_fi ws (n_v vs 0) 9 + ((-1) * v_iv (n_v vs 10) + 0) ≤ 0) := f0
  obtain ⟨f1, hf⟩ := fc_un (show (20 : Nat) < 100 from by decide) hf
  have f1 : (1 * w_fi ws (n_v vs 0) 7 + 0 ≤ 3) ∨ ((-1) * w_fi ws (n_v vs 0) 9 + (1 * v_iv (n_v vs 10) + 0) ≤ 0) := f1
  obtain ⟨f2, hf⟩ := fc_un (show (20 : Nat) < 100 from by decide) hf
  have f2 : ((-1) * w_fi ws (n_v vs 0) 7 + 0 ≤ (-3)) ∨ (1 * w_fi ws (n_v vs 0) 6 + ((-1) * w_fi ws (n_v vs 0) 8 + (2000 * w_fi ws (n_v vs 0) 7 + 0)) ≤ 4008) := f2
  obtain ⟨f3, hf⟩ := fc_un (show (20 : Nat) < 100 from by decide) hf
  have f3 : 1 * w_fi ws (n_v vs 0) 8 + ((-1) * w_fi ws (n_v vs 0) 6 + 0) ≤ 0 := f3
  have kz_0_6 : 0 ≤ w_fi ws (n_v vs 0) 6 ∧ w_fi ws (n_v vs 0) 6 ≤ 2000 := tv_rng (th_fd hD hth r0 (g := GG_8) rfl (k := 6) (t := (0, 0, 2000, [])) rfl rfl)
  have kz_0_7 : (-128) ≤ w_fi ws (n_v vs 0) 7 ∧ w_fi ws (n_v vs 0) 7 ≤ 127 := tv_rng (th_fd hD hth r0 (g := GG_8) rfl (k := 7) (t := (0, -128, 127, [])) rfl rfl)
  have kz_0_8 : 0 ≤ w_fi ws (n_v vs 0) 8 ∧ w_fi ws (n_v vs 0) 8 ≤ 2000 := tv_rng (th_fd hD hth r0 (g := GG_8) rfl (k := 8) (t := (0, 0, 2000, [])) rfl rfl)
  have kz_0_9 : (-2147483648) ≤ w_fi ws (n_v vs 0) 9 ∧ w_fi ws (n_v vs 0) 9 ≤ 1000000 := tv_rng (th_fd hD hth r0 (g := GG_8) rfl (k := 9) (t := (0, -2147483648, 1000000, [])) rfl rfl)
  have nf0 : fc_1 (20, [16, 0, 2], [31, 1, 0, 1, 0, 0, 0, 1, 1, 9, -1, 0, 0]) ws (vs) := by
    refine ⟨fun n hn => ?_, ?_⟩
    · have hn : n ∈ [16, 0, 2] := hn
      rw [hl]
      simp only [List.mem_cons, List.not_mem_nil, or_false] at hn
      show n < 17; omega
    · show (1 * v_iv (n_v vs 16) + 0 ≤ 0) ∨ (1 * w_fi ws (n_v vs 0) 9 + ((-1) * v_iv (n_v vs 2) + 0) ≤ 0)
      omega
  have nf1 : fc_1 (20, [16, 0], [31, 1, 0, 1, 0, 0, -1, -1, 1, 9]) ws (vs) := by
    refine ⟨fun n hn => ?_, ?_⟩
    · have hn : n ∈ [16, 0] := hn
      rw [hl]
      simp only [List.mem_cons, List.not_mem_nil, or_false] at hn
      show n < 17; omega
    · show (1 * v_iv (n_v vs 16) + 0 ≤ 0) ∨ ((-1) * w_fi ws (n_v vs 0) 9 + 0 ≤ (-1))
      omega
  refine ⟨(fun _ h => (by cases h)), [], trivial, ?_, (fun _ h => (by cases h))⟩
  rw [List.append_nil]
  exact List.forall_mem_cons.mpr ⟨⟨show (20 : Nat) < 100 from by decide, nf0⟩, List.forall_mem_cons.mpr ⟨⟨show (20 : Nat) < 100 from by decide, nf1⟩, (fun _ h => (by cases h))⟩⟩
def o_Re_readValue_at_s5003_4 : or_T := (92, 15, [(0, (2, 0, 0, [8])), (2, (0, 9, 9, [])), (10, (0, -2147483648, 1000000, [])), (11, (0, 3, 3, [])), (12, (0, 3, 3, [])), (13, (0, 1, 9, [])), (14, (0, 1, 1, []))], [(7, [13, 2], [5]), (9, [13, 0], [9]), (7, [13, 14], [3]), (7, [11, 12], [0]), (9, [11, 0], [7]), (20, [0, 0, 10], [31, 1, 3, 1, 1, 7, 0, 1, 1, 9, -1, 0, 0]), (20, [0, 0, 10], [31, 1, 3, 1, 1, 7, 0, -1, 1, 9, 1, 0, 0]), (20, [0, 0, 0, 0], [31, 1, -3, -1, 1, 7, 4008, 1, 1, 6, -1, 1, 8, 2000, 1, 7]), (20, [0, 0], [30, 0, 1, 1, 8, -1, 1, 6])], [], [(0, -2147483648, 1000000, [])], [(20, [0, 15], [30, 0, 1, 1, 9, -1, 0, 0]), (20, [0, 15], [30, 0, -1, 1, 9, 1, 0, 0]), (23, [15, 13], [0, 1, -1]), (23, [15, 13], [0, -1, 1])], [], [])
theorem oo_Re_readValue_at_s5003_4 {kA : Nat → ClassId} : or_ok kA GG o_Re_readValue_at_s5003_4 := by
  intro A ta ws vs hD hth hl hk hds hf
  have hl : vs.length = 15 := hl
  have hk : ∀ q ∈ ([(0, (2, 0, 0, [8])), (2, (0, 9, 9, [])), (10, (0, -2147483648, 1000000, [])), (11, (0, 3, 3, [])), (12, (0, 3, 3, [])), (13, (0, 1, 9, [])), (14, (0, 1, 1, []))] : List (Nat × tv_T)), tv_ok ta q.2 (n_v vs q.1) := hk
  obtain ⟨t0, hk⟩ := List.forall_mem_cons.mp hk
  have t0 : tv_ok ta (2, 0, 0, [8]) (n_v vs 0) := t0
  have r0 : ta (v_ad (n_v vs 0)) = some 8 := tv_rg t0
  obtain ⟨t2, hk⟩ := List.forall_mem_cons.mp hk
  have t2 : tv_ok ta (0, 9, 9, []) (n_v vs 2) := t2
  have k2 : 9 ≤ v_iv (n_v vs 2) ∧ v_iv (n_v vs 2) ≤ 9 := tv_rng t2
  obtain ⟨t10, hk⟩ := List.forall_mem_cons.mp hk
  have t10 : tv_ok ta (0, -2147483648, 1000000, []) (n_v vs 10) := t10
  have k10 : (-2147483648) ≤ v_iv (n_v vs 10) ∧ v_iv (n_v vs 10) ≤ 1000000 := tv_rng t10
  obtain ⟨t11, hk⟩ := List.forall_mem_cons.mp hk
  have t11 : tv_ok ta (0, 3, 3, []) (n_v vs 11) := t11
  have k11 : 3 ≤ v_iv (n_v vs 11) ∧ v_iv (n_v vs 11) ≤ 3 := tv_rng t11
  obtain ⟨t12, hk⟩ := List.forall_mem_cons.mp hk
  have t12 : tv_ok ta (0, 3, 3, []) (n_v vs 12) := t12
  have k12 : 3 ≤ v_iv (n_v vs 12) ∧ v_iv (n_v vs 12) ≤ 3 := tv_rng t12
  obtain ⟨t13, hk⟩ := List.forall_mem_cons.mp hk
  have t13 : tv_ok ta (0, 1, 9, []) (n_v vs 13) := t13
  have k13 : 1 ≤ v_iv (n_v vs 13) ∧ v_iv (n_v vs 13) ≤ 9 := tv_rng t13
  obtain ⟨t14, hk⟩ := List.forall_mem_cons.mp hk
  have t14 : tv_ok ta (0, 1, 1, []) (n_v vs 14) := t14
  have k14 : 1 ≤ v_iv (n_v vs 14) ∧ v_iv (n_v vs 14) ≤ 1 := tv_rng t14
  have hf : fc_ok [(7, [13, 2], [5]), (9, [13, 0], [9]), (7, [13, 14], [3]), (7, [11, 12], [0]), (9, [11, 0], [7]), (20, [0, 0, 10], [31, 1, 3, 1, 1, 7, 0, 1, 1, 9, -1, 0, 0]), (20, [0, 0, 10], [31, 1, 3, 1, 1, 7, 0, -1, 1, 9, 1, 0, 0]), (20, [0, 0, 0, 0], [31, 1, -3, -1, 1, 7, 4008, 1, 1, 6, -1, 1, 8, 2000, 1, 7]), (20, [0, 0], [30, 0, 1, 1, 8, -1, 1, 6])] ta ws vs := hf
  obtain ⟨f0, hf⟩ := fc_un (show (7 : Nat) < 100 from by decide) hf
  have f0 : v_iv (n_v vs 13) ≤ v_iv (n_v vs 2) := f0
  obtain ⟨f1, hf⟩ := fc_un (show (9 : Nat) < 100 from by decide) hf
  have f1 : n_v vs 13 = w_fd ws (v_ad (n_v vs 0)) 9 := f1
  obtain ⟨f2, hf⟩ := fc_un (show (7 : Nat) < 100 from by decide) hf
  have f2 : v_iv (n_v vs 14) ≤ v_iv (n_v vs 13) := f2
  obtain ⟨f3, hf⟩ := fc_un (show (7 : Nat) < 100 from by decide) hf
  have f3 : v_iv (n_v vs 11) = v_iv (n_v vs 12) := f3
  obtain ⟨f4, hf⟩ := fc_un (show (9 : Nat) < 100 from by decide) hf
  have f4 : n_v vs 11 = w_fd ws (v_ad (n_v vs 0)) 7 := f4
  obtain ⟨f5, hf⟩ := fc_un (show (20 : Nat) < 100 from by decide) hf
  have f5 : (1 * w_fi ws (n_v vs 0) 7 + 0 ≤ 3) ∨ (1 * w_fi ws (n_v vs 0) 9 + ((-1) * v_iv (n_v vs 10) + 0) ≤ 0) := f5
  obtain ⟨f6, hf⟩ := fc_un (show (20 : Nat) < 100 from by decide) hf
  have f6 : (1 * w_fi ws (n_v vs 0) 7 + 0 ≤ 3) ∨ ((-1) * w_fi ws (n_v vs 0) 9 + (1 * v_iv (n_v vs 10) + 0) ≤ 0) := f6
  obtain ⟨f7, hf⟩ := fc_un (show (20 : Nat) < 100 from by decide) hf
  have f7 : ((-1) * w_fi ws (n_v vs 0) 7 + 0 ≤ (-3)) ∨ (1 * w_fi ws (n_v vs 0) 6 + ((-1) * w_fi ws (n_v vs 0) 8 + (2000 * w_fi ws (n_v vs 0) 7 + 0)) ≤ 4008) := f7
  obtain ⟨f8, hf⟩ := fc_un (show (20 : Nat) < 100 from by decide) hf
  have f8 : 1 * w_fi ws (n_v vs 0) 8 + ((-1) * w_fi ws (n_v vs 0) 6 + 0) ≤ 0 := f8
  have g1 : v_iv (n_v vs 13) = w_fi ws (n_v vs 0) 9 := congrArg v_iv f1
  have g4 : v_iv (n_v vs 11) = w_fi ws (n_v vs 0) 7 := congrArg v_iv f4
  have kz_0_6 : 0 ≤ w_fi ws (n_v vs 0) 6 ∧ w_fi ws (n_v vs 0) 6 ≤ 2000 := tv_rng (th_fd hD hth r0 (g := GG_8) rfl (k := 6) (t := (0, 0, 2000, [])) rfl rfl)
  have kz_0_7 : (-128) ≤ w_fi ws (n_v vs 0) 7 ∧ w_fi ws (n_v vs 0) 7 ≤ 127 := tv_rng (th_fd hD hth r0 (g := GG_8) rfl (k := 7) (t := (0, -128, 127, [])) rfl rfl)
  have kz_0_8 : 0 ≤ w_fi ws (n_v vs 0) 8 ∧ w_fi ws (n_v vs 0) 8 ≤ 2000 := tv_rng (th_fd hD hth r0 (g := GG_8) rfl (k := 8) (t := (0, 0, 2000, [])) rfl rfl)
  have kz_0_9 : (-2147483648) ≤ w_fi ws (n_v vs 0) 9 ∧ w_fi ws (n_v vs 0) 9 ≤ 1000000 := tv_rng (th_fd hD hth r0 (g := GG_8) rfl (k := 9) (t := (0, -2147483648, 1000000, [])) rfl rfl)
  have kv0 : (-2147483648) ≤ w_fi ws (n_v vs 0) 9 ∧ w_fi ws (n_v vs 0) 9 ≤ 1000000 := tv_rng (th_fd hD hth r0 (g := GG_8) rfl (k := 9) (t := (0, -2147483648, 1000000, [])) rfl rfl)
  obtain ⟨x, ex, hx⟩ := iv_ex (ta := ta) (lo := (-2147483648)) (hi := 1000000) (z := w_fi ws (n_v vs 0) 9) (by omega) (by omega) (by omega) (by omega)
  have ex2 : v_iv (Value.int x) = w_fi ws (n_v vs 0) 9 := ex
  have ex3 : (-2147483648) ≤ v_iv (Value.int x) ∧ v_iv (Value.int x) ≤ 1000000 := tv_rng hx
  have e_0 : n_v (vs ++ [Value.int x]) 0 = n_v vs 0 := n_v_old (by rw [hl]; decide)
  have e_13 : n_v (vs ++ [Value.int x]) 13 = n_v vs 13 := n_v_old (by rw [hl]; decide)
  have e_15 : n_v (vs ++ [Value.int x]) 15 = Value.int x := n_v_new hl
  have nf0 : fc_1 (20, [0, 15], [30, 0, 1, 1, 9, -1, 0, 0]) ws (vs ++ [Value.int x]) := by
    refine ⟨fun n hn => ?_, ?_⟩
    · have hn : n ∈ [0, 15] := hn
      rw [List.length_append, hl]
      simp only [List.mem_cons, List.not_mem_nil, or_false] at hn
      show n < 15 + 1; omega
    · show 1 * w_fi ws (n_v (vs ++ [Value.int x]) 0) 9 + ((-1) * v_iv (n_v (vs ++ [Value.int x]) 15) + 0) ≤ 0
      rw [e_0]
      rw [e_15]
      omega
  have nf1 : fc_1 (20, [0, 15], [30, 0, -1, 1, 9, 1, 0, 0]) ws (vs ++ [Value.int x]) := by
    refine ⟨fun n hn => ?_, ?_⟩
    · have hn : n ∈ [0, 15] := hn
      rw [List.length_append, hl]
      simp only [List.mem_cons, List.not_mem_nil, or_false] at hn
      show n < 15 + 1; omega
    · show (-1) * w_fi ws (n_v (vs ++ [Value.int x]) 0) 9 + (1 * v_iv (n_v (vs ++ [Value.int x]) 15) + 0) ≤ 0
      rw [e_0]
      rw [e_15]
      omega
  have nf2 : fc_1 (23, [15, 13], [0, 1, -1]) ws (vs ++ [Value.int x]) := by
    refine ⟨fun n hn => ?_, ?_⟩
    · have hn : n ∈ [15, 13] := hn
      rw [List.length_append, hl]
      simp only [List.mem_cons, List.not_mem_nil, or_false] at hn
      show n < 15 + 1; omega
    · show 1 * v_iv (n_v (vs ++ [Value.int x]) 15) + ((-1) * v_iv (n_v (vs ++ [Value.int x]) 13) + 0) ≤ 0
      rw [e_13]
      rw [e_15]
      omega
  have nf3 : fc_1 (23, [15, 13], [0, -1, 1]) ws (vs ++ [Value.int x]) := by
    refine ⟨fun n hn => ?_, ?_⟩
    · have hn : n ∈ [15, 13] := hn
      rw [List.length_append, hl]
      simp only [List.mem_cons, List.not_mem_nil, or_false] at hn
      show n < 15 + 1; omega
    · show (-1) * v_iv (n_v (vs ++ [Value.int x]) 15) + (1 * v_iv (n_v (vs ++ [Value.int x]) 13) + 0) ≤ 0
      rw [e_13]
      rw [e_15]
      omega
  exact ⟨(fun _ h => (by cases h)), [Value.int x], ag_one hx, List.forall_mem_cons.mpr ⟨⟨show (20 : Nat) < 100 from by decide, nf0⟩, List.forall_mem_cons.mpr ⟨⟨show (20 : Nat) < 100 from by decide, nf1⟩, List.forall_mem_cons.mpr ⟨⟨show (23 : Nat) < 100 from by decide, nf2⟩, List.forall_mem_cons.mpr ⟨⟨show (23 : Nat) < 100 from by decide, nf3⟩, (fun _ h => (by cases h))⟩⟩⟩⟩, (fun _ h => (by cases h))⟩
def o_Re_readValue_at_s5003_5 : or_T := (131, 20, [(0, (2, 0, 0, [8])), (2, (0, 9, 9, [])), (13, (0, 1, 9, [])), (14, (0, 1, 1, [])), (15, (0, -2147483648, 1000000, [])), (16, (0, 93, 93, [])), (17, (0, 2, 2, [])), (18, (0, 93, 93, [])), (19, (0, 1, 1, []))], [(7, [16, 18], [0]), (9, [16, 0], [7]), (7, [16, 17], [1]), (23, [15, 13], [0, 1, -1]), (23, [15, 13], [0, -1, 1]), (20, [0, 0, 15], [31, 1, 3, 1, 1, 7, 0, 1, 1, 9, -1, 0, 0]), (20, [0, 0, 15], [31, 1, 3, 1, 1, 7, 0, -1, 1, 9, 1, 0, 0]), (20, [0, 0, 0, 0], [31, 1, -3, -1, 1, 7, 4008, 1, 1, 6, -1, 1, 8, 2000, 1, 7]), (20, [0, 0], [30, 0, 1, 1, 8, -1, 1, 6]), (102, [15], [0, 8006, 8007, 8008, 8009]), (23, [15, 13], [0, 1, -1]), (23, [15, 13], [0, -1, 1]), (7, [13, 2], [5]), (7, [13, 14], [3])], [], [], [(20, [19, 0, 2], [31, 1, 0, 1, 0, 0, 0, 1, 1, 9, -1, 0, 0]), (20, [19, 0], [31, 1, 0, 1, 0, 0, -1, -1, 1, 9])], [], [])
theorem oo_Re_readValue_at_s5003_5 {kA : Nat → ClassId} : or_ok kA GG o_Re_readValue_at_s5003_5 := by
  intro A ta ws vs hD hth hl hk hds hf
  have hl : vs.length = 20 := hl
  have hk : ∀ q ∈ ([(0, (2, 0, 0, [8])), (2, (0, 9, 9, [])), (13, (0, 1, 9, [])), (14, (0, 1, 1, [])), (15, (0, -2147483648, 1000000, [])), (16, (0, 93, 93, [])), (17, (0, 2, 2, [])), (18, (0, 93, 93, [])), (19, (0, 1, 1, []))] : List (Nat × tv_T)), tv_ok ta q.2 (n_v vs q.1) := hk
  obtain ⟨t0, hk⟩ := List.forall_mem_cons.mp hk
  have t0 : tv_ok ta (2, 0, 0, [8]) (n_v vs 0) := t0
  have r0 : ta (v_ad (n_v vs 0)) = some 8 := tv_rg t0
  obtain ⟨t2, hk⟩ := List.forall_mem_cons.mp hk
  have t2 : tv_ok ta (0, 9, 9, []) (n_v vs 2) := t2
  have k2 : 9 ≤ v_iv (n_v vs 2) ∧ v_iv (n_v vs 2) ≤ 9 := tv_rng t2
  obtain ⟨t13, hk⟩ := List.forall_mem_cons.mp hk
  have t13 : tv_ok ta (0, 1, 9, []) (n_v vs 13) := t13
  have k13 : 1 ≤ v_iv (n_v vs 13) ∧ v_iv (n_v vs 13) ≤ 9 := tv_rng t13
  obtain ⟨t14, hk⟩ := List.forall_mem_cons.mp hk
  have t14 : tv_ok ta (0, 1, 1, []) (n_v vs 14) := t14
  have k14 : 1 ≤ v_iv (n_v vs 14) ∧ v_iv (n_v vs 14) ≤ 1 := tv_rng t14
  obtain ⟨t15, hk⟩ := List.forall_mem_cons.mp hk
  have t15 : tv_ok ta (0, -2147483648, 1000000, []) (n_v vs 15) := t15
  have k15 : (-2147483648) ≤ v_iv (n_v vs 15) ∧ v_iv (n_v vs 15) ≤ 1000000 := tv_rng t15
  obtain ⟨t16, hk⟩ := List.forall_mem_cons.mp hk
  have t16 : tv_ok ta (0, 93, 93, []) (n_v vs 16) := t16
  have k16 : 93 ≤ v_iv (n_v vs 16) ∧ v_iv (n_v vs 16) ≤ 93 := tv_rng t16
  obtain ⟨t17, hk⟩ := List.forall_mem_cons.mp hk
  have t17 : tv_ok ta (0, 2, 2, []) (n_v vs 17) := t17
  have k17 : 2 ≤ v_iv (n_v vs 17) ∧ v_iv (n_v vs 17) ≤ 2 := tv_rng t17
  obtain ⟨t18, hk⟩ := List.forall_mem_cons.mp hk
  have t18 : tv_ok ta (0, 93, 93, []) (n_v vs 18) := t18
  have k18 : 93 ≤ v_iv (n_v vs 18) ∧ v_iv (n_v vs 18) ≤ 93 := tv_rng t18
  obtain ⟨t19, hk⟩ := List.forall_mem_cons.mp hk
  have t19 : tv_ok ta (0, 1, 1, []) (n_v vs 19) := t19
  have k19 : 1 ≤ v_iv (n_v vs 19) ∧ v_iv (n_v vs 19) ≤ 1 := tv_rng t19
  have hf : fc_ok [(7, [16, 18], [0]), (9, [16, 0], [7]), (7, [16, 17], [1]), (23, [15, 13], [0, 1, -1]), (23, [15, 13], [0, -1, 1]), (20, [0, 0, 15], [31, 1, 3, 1, 1, 7, 0, 1, 1, 9, -1, 0, 0]), (20, [0, 0, 15], [31, 1, 3, 1, 1, 7, 0, -1, 1, 9, 1, 0, 0]), (20, [0, 0, 0, 0], [31, 1, -3, -1, 1, 7, 4008, 1, 1, 6, -1, 1, 8, 2000, 1, 7]), (20, [0, 0], [30, 0, 1, 1, 8, -1, 1, 6]), (102, [15], [0, 8006, 8007, 8008, 8009]), (23, [15, 13], [0, 1, -1]), (23, [15, 13], [0, -1, 1]), (7, [13, 2], [5]), (7, [13, 14], [3])] ta ws vs := hf
  obtain ⟨f0, hf⟩ := fc_un (show (7 : Nat) < 100 from by decide) hf
  have f0 : v_iv (n_v vs 16) = v_iv (n_v vs 18) := f0
  obtain ⟨f1, hf⟩ := fc_un (show (9 : Nat) < 100 from by decide) hf
  have f1 : n_v vs 16 = w_fd ws (v_ad (n_v vs 0)) 7 := f1
  obtain ⟨f2, hf⟩ := fc_un (show (7 : Nat) < 100 from by decide) hf
  have f2 : v_iv (n_v vs 16) ≠ v_iv (n_v vs 17) := f2
  obtain ⟨f3, hf⟩ := fc_un (show (23 : Nat) < 100 from by decide) hf
  have f3 : 1 * v_iv (n_v vs 15) + ((-1) * v_iv (n_v vs 13) + 0) ≤ 0 := f3
  obtain ⟨f4, hf⟩ := fc_un (show (23 : Nat) < 100 from by decide) hf
  have f4 : (-1) * v_iv (n_v vs 15) + (1 * v_iv (n_v vs 13) + 0) ≤ 0 := f4
  obtain ⟨f5, hf⟩ := fc_un (show (20 : Nat) < 100 from by decide) hf
  have f5 : (1 * w_fi ws (n_v vs 0) 7 + 0 ≤ 3) ∨ (1 * w_fi ws (n_v vs 0) 9 + ((-1) * v_iv (n_v vs 15) + 0) ≤ 0) := f5
  obtain ⟨f6, hf⟩ := fc_un (show (20 : Nat) < 100 from by decide) hf
  have f6 : (1 * w_fi ws (n_v vs 0) 7 + 0 ≤ 3) ∨ ((-1) * w_fi ws (n_v vs 0) 9 + (1 * v_iv (n_v vs 15) + 0) ≤ 0) := f6
  obtain ⟨f7, hf⟩ := fc_un (show (20 : Nat) < 100 from by decide) hf
  have f7 : ((-1) * w_fi ws (n_v vs 0) 7 + 0 ≤ (-3)) ∨ (1 * w_fi ws (n_v vs 0) 6 + ((-1) * w_fi ws (n_v vs 0) 8 + (2000 * w_fi ws (n_v vs 0) 7 + 0)) ≤ 4008) := f7
  obtain ⟨f8, hf⟩ := fc_un (show (20 : Nat) < 100 from by decide) hf
  have f8 : 1 * w_fi ws (n_v vs 0) 8 + ((-1) * w_fi ws (n_v vs 0) 6 + 0) ≤ 0 := f8
  obtain ⟨ta1, w1, le1, ⟨_, s1⟩, hf⟩ := fc_us (show ¬ (102 : Nat) < 100 from by decide) hf
  obtain ⟨f10, hf⟩ := fc_un (show (23 : Nat) < 100 from by decide) hf
  have f10 : 1 * v_iv (n_v vs 15) + ((-1) * v_iv (n_v vs 13) + 0) ≤ 0 := f10
  obtain ⟨f11, hf⟩ := fc_un (show (23 : Nat) < 100 from by decide) hf
  have f11 : (-1) * v_iv (n_v vs 15) + (1 * v_iv (n_v vs 13) + 0) ≤ 0 := f11
  obtain ⟨f12, hf⟩ := fc_un (show (7 : Nat) < 100 from by decide) hf
  have f12 : v_iv (n_v vs 13) ≤ v_iv (n_v vs 2) := f12
  obtain ⟨f13, hf⟩ := fc_un (show (7 : Nat) < 100 from by decide) hf
  have f13 : v_iv (n_v vs 14) ≤ v_iv (n_v vs 13) := f13
  have g1 : v_iv (n_v vs 16) = w_fi ws (n_v vs 0) 7 := congrArg v_iv f1
  have kz_0_6 : 0 ≤ w_fi ws (n_v vs 0) 6 ∧ w_fi ws (n_v vs 0) 6 ≤ 2000 := tv_rng (th_fd hD hth r0 (g := GG_8) rfl (k := 6) (t := (0, 0, 2000, [])) rfl rfl)
  have kz_0_7 : (-128) ≤ w_fi ws (n_v vs 0) 7 ∧ w_fi ws (n_v vs 0) 7 ≤ 127 := tv_rng (th_fd hD hth r0 (g := GG_8) rfl (k := 7) (t := (0, -128, 127, [])) rfl rfl)
  have kz_0_8 : 0 ≤ w_fi ws (n_v vs 0) 8 ∧ w_fi ws (n_v vs 0) 8 ≤ 2000 := tv_rng (th_fd hD hth r0 (g := GG_8) rfl (k := 8) (t := (0, 0, 2000, [])) rfl rfl)
  have kz_0_9 : (-2147483648) ≤ w_fi ws (n_v vs 0) 9 ∧ w_fi ws (n_v vs 0) 9 ≤ 1000000 := tv_rng (th_fd hD hth r0 (g := GG_8) rfl (k := 9) (t := (0, -2147483648, 1000000, [])) rfl rfl)
  have nf0 : fc_1 (20, [19, 0, 2], [31, 1, 0, 1, 0, 0, 0, 1, 1, 9, -1, 0, 0]) ws (vs) := by
    refine ⟨fun n hn => ?_, ?_⟩
    · have hn : n ∈ [19, 0, 2] := hn
      rw [hl]
      simp only [List.mem_cons, List.not_mem_nil, or_false] at hn
      show n < 20; omega
    · show (1 * v_iv (n_v vs 19) + 0 ≤ 0) ∨ (1 * w_fi ws (n_v vs 0) 9 + ((-1) * v_iv (n_v vs 2) + 0) ≤ 0)
      omega
  have nf1 : fc_1 (20, [19, 0], [31, 1, 0, 1, 0, 0, -1, -1, 1, 9]) ws (vs) := by
    refine ⟨fun n hn => ?_, ?_⟩
    · have hn : n ∈ [19, 0] := hn
      rw [hl]
      simp only [List.mem_cons, List.not_mem_nil, or_false] at hn
      show n < 20; omega
    · show (1 * v_iv (n_v vs 19) + 0 ≤ 0) ∨ ((-1) * w_fi ws (n_v vs 0) 9 + 0 ≤ (-1))
      omega
  refine ⟨(fun _ h => (by cases h)), [], trivial, ?_, (fun _ h => (by cases h))⟩
  rw [List.append_nil]
  exact List.forall_mem_cons.mpr ⟨⟨show (20 : Nat) < 100 from by decide, nf0⟩, List.forall_mem_cons.mpr ⟨⟨show (20 : Nat) < 100 from by decide, nf1⟩, (fun _ h => (by cases h))⟩⟩
def o_Re_readValue_at_s5003_6 : or_T := (131, 22, [(0, (2, 0, 0, [8])), (2, (0, 9, 9, [])), (13, (0, 1, 9, [])), (14, (0, 1, 1, [])), (15, (0, -2147483648, 1000000, [])), (21, (0, 0, 0, []))], [(23, [15, 13], [0, 1, -1]), (23, [15, 13], [0, -1, 1]), (20, [0, 0, 15], [31, 1, 3, 1, 1, 7, 0, 1, 1, 9, -1, 0, 0]), (20, [0, 0, 15], [31, 1, 3, 1, 1, 7, 0, -1, 1, 9, 1, 0, 0]), (20, [0, 0, 0, 0], [31, 1, -3, -1, 1, 7, 4008, 1, 1, 6, -1, 1, 8, 2000, 1, 7]), (20, [0, 0], [30, 0, 1, 1, 8, -1, 1, 6]), (102, [19], [0, 8002, 8003]), (23, [15, 13], [0, 1, -1]), (23, [15, 13], [0, -1, 1]), (102, [15], [0, 8006, 8007, 8008, 8009]), (23, [15, 13], [0, 1, -1]), (23, [15, 13], [0, -1, 1]), (7, [13, 2], [5]), (7, [13, 14], [3])], [], [], [(20, [21, 0, 2], [31, 1, 0, 1, 0, 0, 0, 1, 1, 9, -1, 0, 0]), (20, [21, 0], [31, 1, 0, 1, 0, 0, -1, -1, 1, 9])], [], [])
theorem oo_Re_readValue_at_s5003_6 {kA : Nat → ClassId} : or_ok kA GG o_Re_readValue_at_s5003_6 := by
  intro A ta ws vs hD hth hl hk hds hf
  have hl : vs.length = 22 := hl
  have hk : ∀ q ∈ ([(0, (2, 0, 0, [8])), (2, (0, 9, 9, [])), (13, (0, 1, 9, [])), (14, (0, 1, 1, [])), (15, (0, -2147483648, 1000000, [])), (21, (0, 0, 0, []))] : List (Nat × tv_T)), tv_ok ta q.2 (n_v vs q.1) := hk
  obtain ⟨t0, hk⟩ := List.forall_mem_cons.mp hk
  have t0 : tv_ok ta (2, 0, 0, [8]) (n_v vs 0) := t0
  have r0 : ta (v_ad (n_v vs 0)) = some 8 := tv_rg t0
  obtain ⟨t2, hk⟩ := List.forall_mem_cons.mp hk
  have t2 : tv_ok ta (0, 9, 9, []) (n_v vs 2) := t2
  have k2 : 9 ≤ v_iv (n_v vs 2) ∧ v_iv (n_v vs 2) ≤ 9 := tv_rng t2
  obtain ⟨t13, hk⟩ := List.forall_mem_cons.mp hk
  have t13 : tv_ok ta (0, 1, 9, []) (n_v vs 13) := t13
  have k13 : 1 ≤ v_iv (n_v vs 13) ∧ v_iv (n_v vs 13) ≤ 9 := tv_rng t13
  obtain ⟨t14, hk⟩ := List.forall_mem_cons.mp hk
  have t14 : tv_ok ta (0, 1, 1, []) (n_v vs 14) := t14
  have k14 : 1 ≤ v_iv (n_v vs 14) ∧ v_iv (n_v vs 14) ≤ 1 := tv_rng t14
  obtain ⟨t15, hk⟩ := List.forall_mem_cons.mp hk
  have t15 : tv_ok ta (0, -2147483648, 1000000, []) (n_v vs 15) := t15
  have k15 : (-2147483648) ≤ v_iv (n_v vs 15) ∧ v_iv (n_v vs 15) ≤ 1000000 := tv_rng t15
  obtain ⟨t21, hk⟩ := List.forall_mem_cons.mp hk
  have t21 : tv_ok ta (0, 0, 0, []) (n_v vs 21) := t21
  have k21 : 0 ≤ v_iv (n_v vs 21) ∧ v_iv (n_v vs 21) ≤ 0 := tv_rng t21
  have hf : fc_ok [(23, [15, 13], [0, 1, -1]), (23, [15, 13], [0, -1, 1]), (20, [0, 0, 15], [31, 1, 3, 1, 1, 7, 0, 1, 1, 9, -1, 0, 0]), (20, [0, 0, 15], [31, 1, 3, 1, 1, 7, 0, -1, 1, 9, 1, 0, 0]), (20, [0, 0, 0, 0], [31, 1, -3, -1, 1, 7, 4008, 1, 1, 6, -1, 1, 8, 2000, 1, 7]), (20, [0, 0], [30, 0, 1, 1, 8, -1, 1, 6]), (102, [19], [0, 8002, 8003]), (23, [15, 13], [0, 1, -1]), (23, [15, 13], [0, -1, 1]), (102, [15], [0, 8006, 8007, 8008, 8009]), (23, [15, 13], [0, 1, -1]), (23, [15, 13], [0, -1, 1]), (7, [13, 2], [5]), (7, [13, 14], [3])] ta ws vs := hf
  obtain ⟨f0, hf⟩ := fc_un (show (23 : Nat) < 100 from by decide) hf
  have f0 : 1 * v_iv (n_v vs 15) + ((-1) * v_iv (n_v vs 13) + 0) ≤ 0 := f0
  obtain ⟨f1, hf⟩ := fc_un (show (23 : Nat) < 100 from by decide) hf
  have f1 : (-1) * v_iv (n_v vs 15) + (1 * v_iv (n_v vs 13) + 0) ≤ 0 := f1
  obtain ⟨f2, hf⟩ := fc_un (show (20 : Nat) < 100 from by decide) hf
  have f2 : (1 * w_fi ws (n_v vs 0) 7 + 0 ≤ 3) ∨ (1 * w_fi ws (n_v vs 0) 9 + ((-1) * v_iv (n_v vs 15) + 0) ≤ 0) := f2
  obtain ⟨f3, hf⟩ := fc_un (show (20 : Nat) < 100 from by decide) hf
  have f3 : (1 * w_fi ws (n_v vs 0) 7 + 0 ≤ 3) ∨ ((-1) * w_fi ws (n_v vs 0) 9 + (1 * v_iv (n_v vs 15) + 0) ≤ 0) := f3
  obtain ⟨f4, hf⟩ := fc_un (show (20 : Nat) < 100 from by decide) hf
  have f4 : ((-1) * w_fi ws (n_v vs 0) 7 + 0 ≤ (-3)) ∨ (1 * w_fi ws (n_v vs 0) 6 + ((-1) * w_fi ws (n_v vs 0) 8 + (2000 * w_fi ws (n_v vs 0) 7 + 0)) ≤ 4008) := f4
  obtain ⟨f5, hf⟩ := fc_un (show (20 : Nat) < 100 from by decide) hf
  have f5 : 1 * w_fi ws (n_v vs 0) 8 + ((-1) * w_fi ws (n_v vs 0) 6 + 0) ≤ 0 := f5
  obtain ⟨ta1, w1, le1, ⟨_, s1⟩, hf⟩ := fc_us (show ¬ (102 : Nat) < 100 from by decide) hf
  obtain ⟨f7, hf⟩ := fc_un (show (23 : Nat) < 100 from by decide) hf
  have f7 : 1 * v_iv (n_v vs 15) + ((-1) * v_iv (n_v vs 13) + 0) ≤ 0 := f7
  obtain ⟨f8, hf⟩ := fc_un (show (23 : Nat) < 100 from by decide) hf
  have f8 : (-1) * v_iv (n_v vs 15) + (1 * v_iv (n_v vs 13) + 0) ≤ 0 := f8
  obtain ⟨ta2, w2, le2, ⟨_, s2⟩, hf⟩ := fc_us (show ¬ (102 : Nat) < 100 from by decide) hf
  obtain ⟨f10, hf⟩ := fc_un (show (23 : Nat) < 100 from by decide) hf
  have f10 : 1 * v_iv (n_v vs 15) + ((-1) * v_iv (n_v vs 13) + 0) ≤ 0 := f10
  obtain ⟨f11, hf⟩ := fc_un (show (23 : Nat) < 100 from by decide) hf
  have f11 : (-1) * v_iv (n_v vs 15) + (1 * v_iv (n_v vs 13) + 0) ≤ 0 := f11
  obtain ⟨f12, hf⟩ := fc_un (show (7 : Nat) < 100 from by decide) hf
  have f12 : v_iv (n_v vs 13) ≤ v_iv (n_v vs 2) := f12
  obtain ⟨f13, hf⟩ := fc_un (show (7 : Nat) < 100 from by decide) hf
  have f13 : v_iv (n_v vs 14) ≤ v_iv (n_v vs 13) := f13
  have kz_0_6 : 0 ≤ w_fi ws (n_v vs 0) 6 ∧ w_fi ws (n_v vs 0) 6 ≤ 2000 := tv_rng (th_fd hD hth r0 (g := GG_8) rfl (k := 6) (t := (0, 0, 2000, [])) rfl rfl)
  have kz_0_7 : (-128) ≤ w_fi ws (n_v vs 0) 7 ∧ w_fi ws (n_v vs 0) 7 ≤ 127 := tv_rng (th_fd hD hth r0 (g := GG_8) rfl (k := 7) (t := (0, -128, 127, [])) rfl rfl)
  have kz_0_8 : 0 ≤ w_fi ws (n_v vs 0) 8 ∧ w_fi ws (n_v vs 0) 8 ≤ 2000 := tv_rng (th_fd hD hth r0 (g := GG_8) rfl (k := 8) (t := (0, 0, 2000, [])) rfl rfl)
  have kz_0_9 : (-2147483648) ≤ w_fi ws (n_v vs 0) 9 ∧ w_fi ws (n_v vs 0) 9 ≤ 1000000 := tv_rng (th_fd hD hth r0 (g := GG_8) rfl (k := 9) (t := (0, -2147483648, 1000000, [])) rfl rfl)
  have nf0 : fc_1 (20, [21, 0, 2], [31, 1, 0, 1, 0, 0, 0, 1, 1, 9, -1, 0, 0]) ws (vs) := by
    refine ⟨fun n hn => ?_, ?_⟩
    · have hn : n ∈ [21, 0, 2] := hn
      rw [hl]
      simp only [List.mem_cons, List.not_mem_nil, or_false] at hn
      show n < 22; omega
    · show (1 * v_iv (n_v vs 21) + 0 ≤ 0) ∨ (1 * w_fi ws (n_v vs 0) 9 + ((-1) * v_iv (n_v vs 2) + 0) ≤ 0)
      omega
  have nf1 : fc_1 (20, [21, 0], [31, 1, 0, 1, 0, 0, -1, -1, 1, 9]) ws (vs) := by
    refine ⟨fun n hn => ?_, ?_⟩
    · have hn : n ∈ [21, 0] := hn
      rw [hl]
      simp only [List.mem_cons, List.not_mem_nil, or_false] at hn
      show n < 22; omega
    · show (1 * v_iv (n_v vs 21) + 0 ≤ 0) ∨ ((-1) * w_fi ws (n_v vs 0) 9 + 0 ≤ (-1))
      omega
  refine ⟨(fun _ h => (by cases h)), [], trivial, ?_, (fun _ h => (by cases h))⟩
  rw [List.append_nil]
  exact List.forall_mem_cons.mpr ⟨⟨show (20 : Nat) < 100 from by decide, nf0⟩, List.forall_mem_cons.mpr ⟨⟨show (20 : Nat) < 100 from by decide, nf1⟩, (fun _ h => (by cases h))⟩⟩
def o_Re_readValue_at_s5003_7 : or_T := (108, 20, [(0, (2, 0, 0, [8])), (2, (0, 9, 9, [])), (13, (0, 1, 9, [])), (14, (0, 1, 1, [])), (15, (0, -2147483648, 1000000, [])), (19, (0, 0, 0, []))], [(23, [15, 13], [0, 1, -1]), (23, [15, 13], [0, -1, 1]), (20, [0, 0, 15], [31, 1, 3, 1, 1, 7, 0, 1, 1, 9, -1, 0, 0]), (20, [0, 0, 15], [31, 1, 3, 1, 1, 7, 0, -1, 1, 9, 1, 0, 0]), (20, [0, 0, 0, 0], [31, 1, -3, -1, 1, 7, 4008, 1, 1, 6, -1, 1, 8, 2000, 1, 7]), (20, [0, 0], [30, 0, 1, 1, 8, -1, 1, 6]), (102, [18], [0, 8002, 8003]), (23, [15, 13], [0, 1, -1]), (23, [15, 13], [0, -1, 1]), (102, [15], [0, 8006, 8007, 8008, 8009]), (23, [15, 13], [0, 1, -1]), (23, [15, 13], [0, -1, 1]), (7, [13, 2], [5]), (7, [13, 14], [3])], [], [], [(20, [19, 0, 2], [31, 1, 0, 1, 0, 0, 0, 1, 1, 9, -1, 0, 0]), (20, [19, 0], [31, 1, 0, 1, 0, 0, -1, -1, 1, 9])], [], [])
theorem oo_Re_readValue_at_s5003_7 {kA : Nat → ClassId} : or_ok kA GG o_Re_readValue_at_s5003_7 := by
  intro A ta ws vs hD hth hl hk hds hf
  have hl : vs.length = 20 := hl
  have hk : ∀ q ∈ ([(0, (2, 0, 0, [8])), (2, (0, 9, 9, [])), (13, (0, 1, 9, [])), (14, (0, 1, 1, [])), (15, (0, -2147483648, 1000000, [])), (19, (0, 0, 0, []))] : List (Nat × tv_T)), tv_ok ta q.2 (n_v vs q.1) := hk
  obtain ⟨t0, hk⟩ := List.forall_mem_cons.mp hk
  have t0 : tv_ok ta (2, 0, 0, [8]) (n_v vs 0) := t0
  have r0 : ta (v_ad (n_v vs 0)) = some 8 := tv_rg t0
  obtain ⟨t2, hk⟩ := List.forall_mem_cons.mp hk
  have t2 : tv_ok ta (0, 9, 9, []) (n_v vs 2) := t2
  have k2 : 9 ≤ v_iv (n_v vs 2) ∧ v_iv (n_v vs 2) ≤ 9 := tv_rng t2
  obtain ⟨t13, hk⟩ := List.forall_mem_cons.mp hk
  have t13 : tv_ok ta (0, 1, 9, []) (n_v vs 13) := t13
  have k13 : 1 ≤ v_iv (n_v vs 13) ∧ v_iv (n_v vs 13) ≤ 9 := tv_rng t13
  obtain ⟨t14, hk⟩ := List.forall_mem_cons.mp hk
  have t14 : tv_ok ta (0, 1, 1, []) (n_v vs 14) := t14
  have k14 : 1 ≤ v_iv (n_v vs 14) ∧ v_iv (n_v vs 14) ≤ 1 := tv_rng t14
  obtain ⟨t15, hk⟩ := List.forall_mem_cons.mp hk
  have t15 : tv_ok ta (0, -2147483648, 1000000, []) (n_v vs 15) := t15
  have k15 : (-2147483648) ≤ v_iv (n_v vs 15) ∧ v_iv (n_v vs 15) ≤ 1000000 := tv_rng t15
  obtain ⟨t19, hk⟩ := List.forall_mem_cons.mp hk
  have t19 : tv_ok ta (0, 0, 0, []) (n_v vs 19) := t19
  have k19 : 0 ≤ v_iv (n_v vs 19) ∧ v_iv (n_v vs 19) ≤ 0 := tv_rng t19
  have hf : fc_ok [(23, [15, 13], [0, 1, -1]), (23, [15, 13], [0, -1, 1]), (20, [0, 0, 15], [31, 1, 3, 1, 1, 7, 0, 1, 1, 9, -1, 0, 0]), (20, [0, 0, 15], [31, 1, 3, 1, 1, 7, 0, -1, 1, 9, 1, 0, 0]), (20, [0, 0, 0, 0], [31, 1, -3, -1, 1, 7, 4008, 1, 1, 6, -1, 1, 8, 2000, 1, 7]), (20, [0, 0], [30, 0, 1, 1, 8, -1, 1, 6]), (102, [18], [0, 8002, 8003]), (23, [15, 13], [0, 1, -1]), (23, [15, 13], [0, -1, 1]), (102, [15], [0, 8006, 8007, 8008, 8009]), (23, [15, 13], [0, 1, -1]), (23, [15, 13], [0, -1, 1]), (7, [13, 2], [5]), (7, [13, 14], [3])] ta ws vs := hf
  obtain ⟨f0, hf⟩ := fc_un (show (23 : Nat) < 100 from by decide) hf
  have f0 : 1 * v_iv (n_v vs 15) + ((-1) * v_iv (n_v vs 13) + 0) ≤ 0 := f0
  obtain ⟨f1, hf⟩ := fc_un (show (23 : Nat) < 100 from by decide) hf
  have f1 : (-1) * v_iv (n_v vs 15) + (1 * v_iv (n_v vs 13) + 0) ≤ 0 := f1
  obtain ⟨f2, hf⟩ := fc_un (show (20 : Nat) < 100 from by decide) hf
  have f2 : (1 * w_fi ws (n_v vs 0) 7 + 0 ≤ 3) ∨ (1 * w_fi ws (n_v vs 0) 9 + ((-1) * v_iv (n_v vs 15) + 0) ≤ 0) := f2
  obtain ⟨f3, hf⟩ := fc_un (show (20 : Nat) < 100 from by decide) hf
  have f3 : (1 * w_fi ws (n_v vs 0) 7 + 0 ≤ 3) ∨ ((-1) * w_fi ws (n_v vs 0) 9 + (1 * v_iv (n_v vs 15) + 0) ≤ 0) := f3
  obtain ⟨f4, hf⟩ := fc_un (show (20 : Nat) < 100 from by decide) hf
  have f4 : ((-1) * w_fi ws (n_v vs 0) 7 + 0 ≤ (-3)) ∨ (1 * w_fi ws (n_v vs 0) 6 + ((-1) * w_fi ws (n_v vs 0) 8 + (2000 * w_fi ws (n_v vs 0) 7 + 0)) ≤ 4008) := f4
  obtain ⟨f5, hf⟩ := fc_un (show (20 : Nat) < 100 from by decide) hf
  have f5 : 1 * w_fi ws (n_v vs 0) 8 + ((-1) * w_fi ws (n_v vs 0) 6 + 0) ≤ 0 := f5
  obtain ⟨ta1, w1, le1, ⟨_, s1⟩, hf⟩ := fc_us (show ¬ (102 : Nat) < 100 from by decide) hf
  obtain ⟨f7, hf⟩ := fc_un (show (23 : Nat) < 100 from by decide) hf
  have f7 : 1 * v_iv (n_v vs 15) + ((-1) * v_iv (n_v vs 13) + 0) ≤ 0 := f7
  obtain ⟨f8, hf⟩ := fc_un (show (23 : Nat) < 100 from by decide) hf
  have f8 : (-1) * v_iv (n_v vs 15) + (1 * v_iv (n_v vs 13) + 0) ≤ 0 := f8
  obtain ⟨ta2, w2, le2, ⟨_, s2⟩, hf⟩ := fc_us (show ¬ (102 : Nat) < 100 from by decide) hf
  obtain ⟨f10, hf⟩ := fc_un (show (23 : Nat) < 100 from by decide) hf
  have f10 : 1 * v_iv (n_v vs 15) + ((-1) * v_iv (n_v vs 13) + 0) ≤ 0 := f10
  obtain ⟨f11, hf⟩ := fc_un (show (23 : Nat) < 100 from by decide) hf
  have f11 : (-1) * v_iv (n_v vs 15) + (1 * v_iv (n_v vs 13) + 0) ≤ 0 := f11
  obtain ⟨f12, hf⟩ := fc_un (show (7 : Nat) < 100 from by decide) hf
  have f12 : v_iv (n_v vs 13) ≤ v_iv (n_v vs 2) := f12
  obtain ⟨f13, hf⟩ := fc_un (show (7 : Nat) < 100 from by decide) hf
  have f13 : v_iv (n_v vs 14) ≤ v_iv (n_v vs 13) := f13
  have kz_0_6 : 0 ≤ w_fi ws (n_v vs 0) 6 ∧ w_fi ws (n_v vs 0) 6 ≤ 2000 := tv_rng (th_fd hD hth r0 (g := GG_8) rfl (k := 6) (t := (0, 0, 2000, [])) rfl rfl)
  have kz_0_7 : (-128) ≤ w_fi ws (n_v vs 0) 7 ∧ w_fi ws (n_v vs 0) 7 ≤ 127 := tv_rng (th_fd hD hth r0 (g := GG_8) rfl (k := 7) (t := (0, -128, 127, [])) rfl rfl)
  have kz_0_8 : 0 ≤ w_fi ws (n_v vs 0) 8 ∧ w_fi ws (n_v vs 0) 8 ≤ 2000 := tv_rng (th_fd hD hth r0 (g := GG_8) rfl (k := 8) (t := (0, 0, 2000, [])) rfl rfl)
  have kz_0_9 : (-2147483648) ≤ w_fi ws (n_v vs 0) 9 ∧ w_fi ws (n_v vs 0) 9 ≤ 1000000 := tv_rng (th_fd hD hth r0 (g := GG_8) rfl (k := 9) (t := (0, -2147483648, 1000000, [])) rfl rfl)
  have nf0 : fc_1 (20, [19, 0, 2], [31, 1, 0, 1, 0, 0, 0, 1, 1, 9, -1, 0, 0]) ws (vs) := by
    refine ⟨fun n hn => ?_, ?_⟩
    · have hn : n ∈ [19, 0, 2] := hn
      rw [hl]
      simp only [List.mem_cons, List.not_mem_nil, or_false] at hn
      show n < 20; omega
    · show (1 * v_iv (n_v vs 19) + 0 ≤ 0) ∨ (1 * w_fi ws (n_v vs 0) 9 + ((-1) * v_iv (n_v vs 2) + 0) ≤ 0)
      omega
  have nf1 : fc_1 (20, [19, 0], [31, 1, 0, 1, 0, 0, -1, -1, 1, 9]) ws (vs) := by
    refine ⟨fun n hn => ?_, ?_⟩
    · have hn : n ∈ [19, 0] := hn
      rw [hl]
      simp only [List.mem_cons, List.not_mem_nil, or_false] at hn
      show n < 20; omega
    · show (1 * v_iv (n_v vs 19) + 0 ≤ 0) ∨ ((-1) * w_fi ws (n_v vs 0) 9 + 0 ≤ (-1))
      omega
  refine ⟨(fun _ h => (by cases h)), [], trivial, ?_, (fun _ h => (by cases h))⟩
  rw [List.append_nil]
  exact List.forall_mem_cons.mpr ⟨⟨show (20 : Nat) < 100 from by decide, nf0⟩, List.forall_mem_cons.mpr ⟨⟨show (20 : Nat) < 100 from by decide, nf1⟩, (fun _ h => (by cases h))⟩⟩
def o_Re_readValue_at_s5003_8 : or_T := (90, 17, [(0, (2, 0, 0, [8])), (2, (0, 9, 9, [])), (10, (0, -2147483648, 1000000, [])), (13, (0, 10, 1000000, [])), (14, (0, 1, 1, [])), (16, (0, 0, 0, []))], [(20, [0, 0, 10], [31, 1, 3, 1, 1, 7, 0, 1, 1, 9, -1, 0, 0]), (20, [0, 0, 10], [31, 1, 3, 1, 1, 7, 0, -1, 1, 9, 1, 0, 0]), (20, [0, 0, 0, 0], [31, 1, -3, -1, 1, 7, 4008, 1, 1, 6, -1, 1, 8, 2000, 1, 7]), (20, [0, 0], [30, 0, 1, 1, 8, -1, 1, 6]), (102, [15], [0, 8002, 8003]), (7, [13, 2], [4]), (7, [13, 14], [3])], [], [], [(20, [16, 0, 2], [31, 1, 0, 1, 0, 0, 0, 1, 1, 9, -1, 0, 0]), (20, [16, 0], [31, 1, 0, 1, 0, 0, -1, -1, 1, 9])], [], [])
theorem oo_Re_readValue_at_s5003_8 {kA : Nat → ClassId} : or_ok kA GG o_Re_readValue_at_s5003_8 := by
  intro A ta ws vs hD hth hl hk hds hf
  have hl : vs.length = 17 := hl
  have hk : ∀ q ∈ ([(0, (2, 0, 0, [8])), (2, (0, 9, 9, [])), (10, (0, -2147483648, 1000000, [])), (13, (0, 10, 1000000, [])), (14, (0, 1, 1, [])), (16, (0, 0, 0, []))] : List (Nat × tv_T)), tv_ok ta q.2 (n_v vs q.1) := hk
  obtain ⟨t0, hk⟩ := List.forall_mem_cons.mp hk
  have t0 : tv_ok ta (2, 0, 0, [8]) (n_v vs 0) := t0
  have r0 : ta (v_ad (n_v vs 0)) = some 8 := tv_rg t0
  obtain ⟨t2, hk⟩ := List.forall_mem_cons.mp hk
  have t2 : tv_ok ta (0, 9, 9, []) (n_v vs 2) := t2
  have k2 : 9 ≤ v_iv (n_v vs 2) ∧ v_iv (n_v vs 2) ≤ 9 := tv_rng t2
  obtain ⟨t10, hk⟩ := List.forall_mem_cons.mp hk
  have t10 : tv_ok ta (0, -2147483648, 1000000, []) (n_v vs 10) := t10
  have k10 : (-2147483648) ≤ v_iv (n_v vs 10) ∧ v_iv (n_v vs 10) ≤ 1000000 := tv_rng t10
  obtain ⟨t13, hk⟩ := List.forall_mem_cons.mp hk
  have t13 : tv_ok ta (0, 10, 1000000, []) (n_v vs 13) := t13
  have k13 : 10 ≤ v_iv (n_v vs 13) ∧ v_iv (n_v vs 13) ≤ 1000000 := tv_rng t13
  obtain ⟨t14, hk⟩ := List.forall_mem_cons.mp hk
  have t14 : tv_ok ta (0, 1, 1, []) (n_v vs 14) := t14
  have k14 : 1 ≤ v_iv (n_v vs 14) ∧ v_iv (n_v vs 14) ≤ 1 := tv_rng t14
  obtain ⟨t16, hk⟩ := List.forall_mem_cons.mp hk
  have t16 : tv_ok ta (0, 0, 0, []) (n_v vs 16) := t16
  have k16 : 0 ≤ v_iv (n_v vs 16) ∧ v_iv (n_v vs 16) ≤ 0 := tv_rng t16
  have hf : fc_ok [(20, [0, 0, 10], [31, 1, 3, 1, 1, 7, 0, 1, 1, 9, -1, 0, 0]), (20, [0, 0, 10], [31, 1, 3, 1, 1, 7, 0, -1, 1, 9, 1, 0, 0]), (20, [0, 0, 0, 0], [31, 1, -3, -1, 1, 7, 4008, 1, 1, 6, -1, 1, 8, 2000, 1, 7]), (20, [0, 0], [30, 0, 1, 1, 8, -1, 1, 6]), (102, [15], [0, 8002, 8003]), (7, [13, 2], [4]), (7, [13, 14], [3])] ta ws vs := hf
  obtain ⟨f0, hf⟩ := fc_un (show (20 : Nat) < 100 from by decide) hf
  have f0 : (1 * w_fi ws (n_v vs 0) 7 + 0 ≤ 3) ∨ (1 * w_fi ws (n_v vs 0) 9 + ((-1) * v_iv (n_v vs 10) + 0) ≤ 0) := f0
  obtain ⟨f1, hf⟩ := fc_un (show (20 : Nat) < 100 from by decide) hf
  have f1 : (1 * w_fi ws (n_v vs 0) 7 + 0 ≤ 3) ∨ ((-1) * w_fi ws (n_v vs 0) 9 + (1 * v_iv (n_v vs 10) + 0) ≤ 0) := f1
  obtain ⟨f2, hf⟩ := fc_un (show (20 : Nat) < 100 from by decide) hf
  have f2 : ((-1) * w_fi ws (n_v vs 0) 7 + 0 ≤ (-3)) ∨ (1 * w_fi ws (n_v vs 0) 6 + ((-1) * w_fi ws (n_v vs 0) 8 + (2000 * w_fi ws (n_v vs 0) 7 + 0)) ≤ 4008) := f2
  obtain ⟨f3, hf⟩ := fc_un (show (20 : Nat) < 100 from by decide) hf
  have f3 : 1 * w_fi ws (n_v vs 0) 8 + ((-1) * w_fi ws (n_v vs 0) 6 + 0) ≤ 0 := f3
  obtain ⟨ta1, w1, le1, ⟨_, s1⟩, hf⟩ := fc_us (show ¬ (102 : Nat) < 100 from by decide) hf
  obtain ⟨f5, hf⟩ := fc_un (show (7 : Nat) < 100 from by decide) hf
  have f5 : v_iv (n_v vs 2) < v_iv (n_v vs 13) := f5
  obtain ⟨f6, hf⟩ := fc_un (show (7 : Nat) < 100 from by decide) hf
  have f6 : v_iv (n_v vs 14) ≤ v_iv (n_v vs 13) := f6
  have kz_0_6 : 0 ≤ w_fi ws (n_v vs 0) 6 ∧ w_fi ws (n_v vs 0) 6 ≤ 2000 := tv_rng (th_fd hD hth r0 (g := GG_8) rfl (k := 6) (t := (0, 0, 2000, [])) rfl rfl)
  have kz_0_7 : (-128) ≤ w_fi ws (n_v vs 0) 7 ∧ w_fi ws (n_v vs 0) 7 ≤ 127 := tv_rng (th_fd hD hth r0 (g := GG_8) rfl (k := 7) (t := (0, -128, 127, [])) rfl rfl)
  have kz_0_8 : 0 ≤ w_fi ws (n_v vs 0) 8 ∧ w_fi ws (n_v vs 0) 8 ≤ 2000 := tv_rng (th_fd hD hth r0 (g := GG_8) rfl (k := 8) (t := (0, 0, 2000, [])) rfl rfl)
  have kz_0_9 : (-2147483648) ≤ w_fi ws (n_v vs 0) 9 ∧ w_fi ws (n_v vs 0) 9 ≤ 1000000 := tv_rng (th_fd hD hth r0 (g := GG_8) rfl (k := 9) (t := (0, -2147483648, 1000000, [])) rfl rfl)
  have nf0 : fc_1 (20, [16, 0, 2], [31, 1, 0, 1, 0, 0, 0, 1, 1, 9, -1, 0, 0]) ws (vs) := by
    refine ⟨fun n hn => ?_, ?_⟩
    · have hn : n ∈ [16, 0, 2] := hn
      rw [hl]
      simp only [List.mem_cons, List.not_mem_nil, or_false] at hn
      show n < 17; omega
    · show (1 * v_iv (n_v vs 16) + 0 ≤ 0) ∨ (1 * w_fi ws (n_v vs 0) 9 + ((-1) * v_iv (n_v vs 2) + 0) ≤ 0)
      omega
  have nf1 : fc_1 (20, [16, 0], [31, 1, 0, 1, 0, 0, -1, -1, 1, 9]) ws (vs) := by
    refine ⟨fun n hn => ?_, ?_⟩
    · have hn : n ∈ [16, 0] := hn
      rw [hl]
      simp only [List.mem_cons, List.not_mem_nil, or_false] at hn
      show n < 17; omega
    · show (1 * v_iv (n_v vs 16) + 0 ≤ 0) ∨ ((-1) * w_fi ws (n_v vs 0) 9 + 0 ≤ (-1))
      omega
  refine ⟨(fun _ h => (by cases h)), [], trivial, ?_, (fun _ h => (by cases h))⟩
  rw [List.append_nil]
  exact List.forall_mem_cons.mpr ⟨⟨show (20 : Nat) < 100 from by decide, nf0⟩, List.forall_mem_cons.mpr ⟨⟨show (20 : Nat) < 100 from by decide, nf1⟩, (fun _ h => (by cases h))⟩⟩
def o_Re_readValue_at_s5003_9 : or_T := (68, 15, [(0, (2, 0, 0, [8])), (2, (0, 9, 9, [])), (10, (0, -2147483648, 1000000, [])), (14, (0, 0, 0, []))], [(20, [0, 0, 10], [31, 1, 3, 1, 1, 7, 0, 1, 1, 9, -1, 0, 0]), (20, [0, 0, 10], [31, 1, 3, 1, 1, 7, 0, -1, 1, 9, 1, 0, 0]), (20, [0, 0, 0, 0], [31, 1, -3, -1, 1, 7, 4008, 1, 1, 6, -1, 1, 8, 2000, 1, 7]), (20, [0, 0], [30, 0, 1, 1, 8, -1, 1, 6])], [], [], [(20, [14, 0, 2], [31, 1, 0, 1, 0, 0, 0, 1, 1, 9, -1, 0, 0]), (20, [14, 0], [31, 1, 0, 1, 0, 0, -1, -1, 1, 9])], [], [])
theorem oo_Re_readValue_at_s5003_9 {kA : Nat → ClassId} : or_ok kA GG o_Re_readValue_at_s5003_9 := by
  intro A ta ws vs hD hth hl hk hds hf
  have hl : vs.length = 15 := hl
  have hk : ∀ q ∈ ([(0, (2, 0, 0, [8])), (2, (0, 9, 9, [])), (10, (0, -2147483648, 1000000, [])), (14, (0, 0, 0, []))] : List (Nat × tv_T)), tv_ok ta q.2 (n_v vs q.1) := hk
  obtain ⟨t0, hk⟩ := List.forall_mem_cons.mp hk
  have t0 : tv_ok ta (2, 0, 0, [8]) (n_v vs 0) := t0
  have r0 : ta (v_ad (n_v vs 0)) = some 8 := tv_rg t0
  obtain ⟨t2, hk⟩ := List.forall_mem_cons.mp hk
  have t2 : tv_ok ta (0, 9, 9, []) (n_v vs 2) := t2
  have k2 : 9 ≤ v_iv (n_v vs 2) ∧ v_iv (n_v vs 2) ≤ 9 := tv_rng t2
  obtain ⟨t10, hk⟩ := List.forall_mem_cons.mp hk
  have t10 : tv_ok ta (0, -2147483648, 1000000, []) (n_v vs 10) := t10
  have k10 : (-2147483648) ≤ v_iv (n_v vs 10) ∧ v_iv (n_v vs 10) ≤ 1000000 := tv_rng t10
  obtain ⟨t14, hk⟩ := List.forall_mem_cons.mp hk
  have t14 : tv_ok ta (0, 0, 0, []) (n_v vs 14) := t14
  have k14 : 0 ≤ v_iv (n_v vs 14) ∧ v_iv (n_v vs 14) ≤ 0 := tv_rng t14
  have hf : fc_ok [(20, [0, 0, 10], [31, 1, 3, 1, 1, 7, 0, 1, 1, 9, -1, 0, 0]), (20, [0, 0, 10], [31, 1, 3, 1, 1, 7, 0, -1, 1, 9, 1, 0, 0]), (20, [0, 0, 0, 0], [31, 1, -3, -1, 1, 7, 4008, 1, 1, 6, -1, 1, 8, 2000, 1, 7]), (20, [0, 0], [30, 0, 1, 1, 8, -1, 1, 6])] ta ws vs := hf
  obtain ⟨f0, hf⟩ := fc_un (show (20 : Nat) < 100 from by decide) hf
  have f0 : (1 * w_fi ws (n_v vs 0) 7 + 0 ≤ 3) ∨ (1 * w_fi ws (n_v vs 0) 9 + ((-1) * v_iv (n_v vs 10) + 0) ≤ 0) := f0
  obtain ⟨f1, hf⟩ := fc_un (show (20 : Nat) < 100 from by decide) hf
  have f1 : (1 * w_fi ws (n_v vs 0) 7 + 0 ≤ 3) ∨ ((-1) * w_fi ws (n_v vs 0) 9 + (1 * v_iv (n_v vs 10) + 0) ≤ 0) := f1
  obtain ⟨f2, hf⟩ := fc_un (show (20 : Nat) < 100 from by decide) hf
  have f2 : ((-1) * w_fi ws (n_v vs 0) 7 + 0 ≤ (-3)) ∨ (1 * w_fi ws (n_v vs 0) 6 + ((-1) * w_fi ws (n_v vs 0) 8 + (2000 * w_fi ws (n_v vs 0) 7 + 0)) ≤ 4008) := f2
  obtain ⟨f3, hf⟩ := fc_un (show (20 : Nat) < 100 from by decide) hf
  have f3 : 1 * w_fi ws (n_v vs 0) 8 + ((-1) * w_fi ws (n_v vs 0) 6 + 0) ≤ 0 := f3
  have kz_0_6 : 0 ≤ w_fi ws (n_v vs 0) 6 ∧ w_fi ws (n_v vs 0) 6 ≤ 2000 := tv_rng (th_fd hD hth r0 (g := GG_8) rfl (k := 6) (t := (0, 0, 2000, [])) rfl rfl)
  have kz_0_7 : (-128) ≤ w_fi ws (n_v vs 0) 7 ∧ w_fi ws (n_v vs 0) 7 ≤ 127 := tv_rng (th_fd hD hth r0 (g := GG_8) rfl (k := 7) (t := (0, -128, 127, [])) rfl rfl)
  have kz_0_8 : 0 ≤ w_fi ws (n_v vs 0) 8 ∧ w_fi ws (n_v vs 0) 8 ≤ 2000 := tv_rng (th_fd hD hth r0 (g := GG_8) rfl (k := 8) (t := (0, 0, 2000, [])) rfl rfl)
  have kz_0_9 : (-2147483648) ≤ w_fi ws (n_v vs 0) 9 ∧ w_fi ws (n_v vs 0) 9 ≤ 1000000 := tv_rng (th_fd hD hth r0 (g := GG_8) rfl (k := 9) (t := (0, -2147483648, 1000000, [])) rfl rfl)
  have nf0 : fc_1 (20, [14, 0, 2], [31, 1, 0, 1, 0, 0, 0, 1, 1, 9, -1, 0, 0]) ws (vs) := by
    refine ⟨fun n hn => ?_, ?_⟩
    · have hn : n ∈ [14, 0, 2] := hn
      rw [hl]
      simp only [List.mem_cons, List.not_mem_nil, or_false] at hn
      show n < 15; omega
    · show (1 * v_iv (n_v vs 14) + 0 ≤ 0) ∨ (1 * w_fi ws (n_v vs 0) 9 + ((-1) * v_iv (n_v vs 2) + 0) ≤ 0)
      omega
  have nf1 : fc_1 (20, [14, 0], [31, 1, 0, 1, 0, 0, -1, -1, 1, 9]) ws (vs) := by
    refine ⟨fun n hn => ?_, ?_⟩
    · have hn : n ∈ [14, 0] := hn
      rw [hl]
      simp only [List.mem_cons, List.not_mem_nil, or_false] at hn
      show n < 15; omega
    · show (1 * v_iv (n_v vs 14) + 0 ≤ 0) ∨ ((-1) * w_fi ws (n_v vs 0) 9 + 0 ≤ (-1))
      omega
  refine ⟨(fun _ h => (by cases h)), [], trivial, ?_, (fun _ h => (by cases h))⟩
  rw [List.append_nil]
  exact List.forall_mem_cons.mpr ⟨⟨show (20 : Nat) < 100 from by decide, nf0⟩, List.forall_mem_cons.mpr ⟨⟨show (20 : Nat) < 100 from by decide, nf1⟩, (fun _ h => (by cases h))⟩⟩
def o_Re_readValue_at_s5003_10 : or_T := (50, 12, [(0, (2, 0, 0, [8])), (2, (0, 9, 9, [])), (7, (0, -2147483648, 1000000, [])), (11, (0, 0, 0, []))], [(20, [0, 0, 7], [31, 1, 3, 1, 1, 7, 0, 1, 1, 9, -1, 0, 0]), (20, [0, 0, 7], [31, 1, 3, 1, 1, 7, 0, -1, 1, 9, 1, 0, 0]), (20, [0, 0, 0, 0], [31, 1, -3, -1, 1, 7, 4008, 1, 1, 6, -1, 1, 8, 2000, 1, 7]), (20, [0, 0], [30, 0, 1, 1, 8, -1, 1, 6])], [], [], [(20, [11, 0, 2], [31, 1, 0, 1, 0, 0, 0, 1, 1, 9, -1, 0, 0]), (20, [11, 0], [31, 1, 0, 1, 0, 0, -1, -1, 1, 9])], [], [])
theorem oo_Re_readValue_at_s5003_10 {kA : Nat → ClassId} : or_ok kA GG o_Re_readValue_at_s5003_10 := by
  intro A ta ws vs hD hth hl hk hds hf
  have hl : vs.length = 12 := hl
  have hk : ∀ q ∈ ([(0, (2, 0, 0, [8])), (2, (0, 9, 9, [])), (7, (0, -2147483648, 1000000, [])), (11, (0, 0, 0, []))] : List (Nat × tv_T)), tv_ok ta q.2 (n_v vs q.1) := hk
  obtain ⟨t0, hk⟩ := List.forall_mem_cons.mp hk
  have t0 : tv_ok ta (2, 0, 0, [8]) (n_v vs 0) := t0
  have r0 : ta (v_ad (n_v vs 0)) = some 8 := tv_rg t0
  obtain ⟨t2, hk⟩ := List.forall_mem_cons.mp hk
  have t2 : tv_ok ta (0, 9, 9, []) (n_v vs 2) := t2
  have k2 : 9 ≤ v_iv (n_v vs 2) ∧ v_iv (n_v vs 2) ≤ 9 := tv_rng t2
  obtain ⟨t7, hk⟩ := List.forall_mem_cons.mp hk
  have t7 : tv_ok ta (0, -2147483648, 1000000, []) (n_v vs 7) := t7
  have k7 : (-2147483648) ≤ v_iv (n_v vs 7) ∧ v_iv (n_v vs 7) ≤ 1000000 := tv_rng t7
  obtain ⟨t11, hk⟩ := List.forall_mem_cons.mp hk
  have t11 : tv_ok ta (0, 0, 0, []) (n_v vs 11) := t11
  have k11 : 0 ≤ v_iv (n_v vs 11) ∧ v_iv (n_v vs 11) ≤ 0 := tv_rng t11
  have hf : fc_ok [(20, [0, 0, 7], [31, 1, 3, 1, 1, 7, 0, 1, 1, 9, -1, 0, 0]), (20, [0, 0, 7], [31, 1, 3, 1, 1, 7, 0, -1, 1, 9, 1, 0, 0]), (20, [0, 0, 0, 0], [31, 1, -3, -1, 1, 7, 4008, 1, 1, 6, -1, 1, 8, 2000, 1, 7]), (20, [0, 0], [30, 0, 1, 1, 8, -1, 1, 6])] ta ws vs := hf
  obtain ⟨f0, hf⟩ := fc_un (show (20 : Nat) < 100 from by decide) hf
  have f0 : (1 * w_fi ws (n_v vs 0) 7 + 0 ≤ 3) ∨ (1 * w_fi ws (n_v vs 0) 9 + ((-1) * v_iv (n_v vs 7) + 0) ≤ 0) := f0
  obtain ⟨f1, hf⟩ := fc_un (show (20 : Nat) < 100 from by decide) hf
  have f1 : (1 * w_fi ws (n_v vs 0) 7 + 0 ≤ 3) ∨ ((-1) * w_fi ws (n_v vs 0) 9 + (1 * v_iv (n_v vs 7) + 0) ≤ 0) := f1
  obtain ⟨f2, hf⟩ := fc_un (show (20 : Nat) < 100 from by decide) hf
  have f2 : ((-1) * w_fi ws (n_v vs 0) 7 + 0 ≤ (-3)) ∨ (1 * w_fi ws (n_v vs 0) 6 + ((-1) * w_fi ws (n_v vs 0) 8 + (2000 * w_fi ws (n_v vs 0) 7 + 0)) ≤ 4008) := f2
  obtain ⟨f3, hf⟩ := fc_un (show (20 : Nat) < 100 from by decide) hf
  have f3 : 1 * w_fi ws (n_v vs 0) 8 + ((-1) * w_fi ws (n_v vs 0) 6 + 0) ≤ 0 := f3
  have kz_0_6 : 0 ≤ w_fi ws (n_v vs 0) 6 ∧ w_fi ws (n_v vs 0) 6 ≤ 2000 := tv_rng (th_fd hD hth r0 (g := GG_8) rfl (k := 6) (t := (0, 0, 2000, [])) rfl rfl)
  have kz_0_7 : (-128) ≤ w_fi ws (n_v vs 0) 7 ∧ w_fi ws (n_v vs 0) 7 ≤ 127 := tv_rng (th_fd hD hth r0 (g := GG_8) rfl (k := 7) (t := (0, -128, 127, [])) rfl rfl)
  have kz_0_8 : 0 ≤ w_fi ws (n_v vs 0) 8 ∧ w_fi ws (n_v vs 0) 8 ≤ 2000 := tv_rng (th_fd hD hth r0 (g := GG_8) rfl (k := 8) (t := (0, 0, 2000, [])) rfl rfl)
  have kz_0_9 : (-2147483648) ≤ w_fi ws (n_v vs 0) 9 ∧ w_fi ws (n_v vs 0) 9 ≤ 1000000 := tv_rng (th_fd hD hth r0 (g := GG_8) rfl (k := 9) (t := (0, -2147483648, 1000000, [])) rfl rfl)
  have nf0 : fc_1 (20, [11, 0, 2], [31, 1, 0, 1, 0, 0, 0, 1, 1, 9, -1, 0, 0]) ws (vs) := by
    refine ⟨fun n hn => ?_, ?_⟩
    · have hn : n ∈ [11, 0, 2] := hn
      rw [hl]
      simp only [List.mem_cons, List.not_mem_nil, or_false] at hn
      show n < 12; omega
    · show (1 * v_iv (n_v vs 11) + 0 ≤ 0) ∨ (1 * w_fi ws (n_v vs 0) 9 + ((-1) * v_iv (n_v vs 2) + 0) ≤ 0)
      omega
  have nf1 : fc_1 (20, [11, 0], [31, 1, 0, 1, 0, 0, -1, -1, 1, 9]) ws (vs) := by
    refine ⟨fun n hn => ?_, ?_⟩
    · have hn : n ∈ [11, 0] := hn
      rw [hl]
      simp only [List.mem_cons, List.not_mem_nil, or_false] at hn
      show n < 12; omega
    · show (1 * v_iv (n_v vs 11) + 0 ≤ 0) ∨ ((-1) * w_fi ws (n_v vs 0) 9 + 0 ≤ (-1))
      omega
  refine ⟨(fun _ h => (by cases h)), [], trivial, ?_, (fun _ h => (by cases h))⟩
  rw [List.append_nil]
  exact List.forall_mem_cons.mpr ⟨⟨show (20 : Nat) < 100 from by decide, nf0⟩, List.forall_mem_cons.mpr ⟨⟨show (20 : Nat) < 100 from by decide, nf1⟩, (fun _ h => (by cases h))⟩⟩
def o_Re_readValue_at_s5003_11 : or_T := (31, 9, [(0, (2, 0, 0, [8])), (2, (0, 9, 9, [])), (3, (0, -2147483648, 1000000, [])), (8, (0, 0, 0, []))], [(20, [0, 0, 3], [31, 1, 3, 1, 1, 7, 0, 1, 1, 9, -1, 0, 0]), (20, [0, 0, 3], [31, 1, 3, 1, 1, 7, 0, -1, 1, 9, 1, 0, 0]), (20, [0, 0, 0, 0], [31, 1, -3, -1, 1, 7, 4008, 1, 1, 6, -1, 1, 8, 2000, 1, 7]), (20, [0, 0], [30, 0, 1, 1, 8, -1, 1, 6])], [], [], [(20, [8, 0, 2], [31, 1, 0, 1, 0, 0, 0, 1, 1, 9, -1, 0, 0]), (20, [8, 0], [31, 1, 0, 1, 0, 0, -1, -1, 1, 9])], [], [])
theorem oo_Re_readValue_at_s5003_11 {kA : Nat → ClassId} : or_ok kA GG o_Re_readValue_at_s5003_11 := by
  intro A ta ws vs hD hth hl hk hds hf
  have hl : vs.length = 9 := hl
  have hk : ∀ q ∈ ([(0, (2, 0, 0, [8])), (2, (0, 9, 9, [])), (3, (0, -2147483648, 1000000, [])), (8, (0, 0, 0, []))] : List (Nat × tv_T)), tv_ok ta q.2 (n_v vs q.1) := hk
  obtain ⟨t0, hk⟩ := List.forall_mem_cons.mp hk
  have t0 : tv_ok ta (2, 0, 0, [8]) (n_v vs 0) := t0
  have r0 : ta (v_ad (n_v vs 0)) = some 8 := tv_rg t0
  obtain ⟨t2, hk⟩ := List.forall_mem_cons.mp hk
  have t2 : tv_ok ta (0, 9, 9, []) (n_v vs 2) := t2
  have k2 : 9 ≤ v_iv (n_v vs 2) ∧ v_iv (n_v vs 2) ≤ 9 := tv_rng t2
  obtain ⟨t3, hk⟩ := List.forall_mem_cons.mp hk
  have t3 : tv_ok ta (0, -2147483648, 1000000, []) (n_v vs 3) := t3
  have k3 : (-2147483648) ≤ v_iv (n_v vs 3) ∧ v_iv (n_v vs 3) ≤ 1000000 := tv_rng t3
  obtain ⟨t8, hk⟩ := List.forall_mem_cons.mp hk
  have t8 : tv_ok ta (0, 0, 0, []) (n_v vs 8) := t8
  have k8 : 0 ≤ v_iv (n_v vs 8) ∧ v_iv (n_v vs 8) ≤ 0 := tv_rng t8
  have hf : fc_ok [(20, [0, 0, 3], [31, 1, 3, 1, 1, 7, 0, 1, 1, 9, -1, 0, 0]), (20, [0, 0, 3], [31, 1, 3, 1, 1, 7, 0, -1, 1, 9, 1, 0, 0]), (20, [0, 0, 0, 0], [31, 1, -3, -1, 1, 7, 4008, 1, 1, 6, -1, 1, 8, 2000, 1, 7]), (20, [0, 0], [30, 0, 1, 1, 8, -1, 1, 6])] ta ws vs := hf
  obtain ⟨f0, hf⟩ := fc_un (show (20 : Nat) < 100 from by decide) hf
  have f0 : (1 * w_fi ws (n_v vs 0) 7 + 0 ≤ 3) ∨ (1 * w_fi ws (n_v vs 0) 9 + ((-1) * v_iv (n_v vs 3) + 0) ≤ 0) := f0
  obtain ⟨f1, hf⟩ := fc_un (show (20 : Nat) < 100 from by decide) hf
  have f1 : (1 * w_fi ws (n_v vs 0) 7 + 0 ≤ 3) ∨ ((-1) * w_fi ws (n_v vs 0) 9 + (1 * v_iv (n_v vs 3) + 0) ≤ 0) := f1
  obtain ⟨f2, hf⟩ := fc_un (show (20 : Nat) < 100 from by decide) hf
  have f2 : ((-1) * w_fi ws (n_v vs 0) 7 + 0 ≤ (-3)) ∨ (1 * w_fi ws (n_v vs 0) 6 + ((-1) * w_fi ws (n_v vs 0) 8 + (2000 * w_fi ws (n_v vs 0) 7 + 0)) ≤ 4008) := f2
  obtain ⟨f3, hf⟩ := fc_un (show (20 : Nat) < 100 from by decide) hf
  have f3 : 1 * w_fi ws (n_v vs 0) 8 + ((-1) * w_fi ws (n_v vs 0) 6 + 0) ≤ 0 := f3
  have kz_0_6 : 0 ≤ w_fi ws (n_v vs 0) 6 ∧ w_fi ws (n_v vs 0) 6 ≤ 2000 := tv_rng (th_fd hD hth r0 (g := GG_8) rfl (k := 6) (t := (0, 0, 2000, [])) rfl rfl)
  have kz_0_7 : (-128) ≤ w_fi ws (n_v vs 0) 7 ∧ w_fi ws (n_v vs 0) 7 ≤ 127 := tv_rng (th_fd hD hth r0 (g := GG_8) rfl (k := 7) (t := (0, -128, 127, [])) rfl rfl)
  have kz_0_8 : 0 ≤ w_fi ws (n_v vs 0) 8 ∧ w_fi ws (n_v vs 0) 8 ≤ 2000 := tv_rng (th_fd hD hth r0 (g := GG_8) rfl (k := 8) (t := (0, 0, 2000, [])) rfl rfl)
  have kz_0_9 : (-2147483648) ≤ w_fi ws (n_v vs 0) 9 ∧ w_fi ws (n_v vs 0) 9 ≤ 1000000 := tv_rng (th_fd hD hth r0 (g := GG_8) rfl (k := 9) (t := (0, -2147483648, 1000000, [])) rfl rfl)
  have nf0 : fc_1 (20, [8, 0, 2], [31, 1, 0, 1, 0, 0, 0, 1, 1, 9, -1, 0, 0]) ws (vs) := by
    refine ⟨fun n hn => ?_, ?_⟩
    · have hn : n ∈ [8, 0, 2] := hn
      rw [hl]
      simp only [List.mem_cons, List.not_mem_nil, or_false] at hn
      show n < 9; omega
    · show (1 * v_iv (n_v vs 8) + 0 ≤ 0) ∨ (1 * w_fi ws (n_v vs 0) 9 + ((-1) * v_iv (n_v vs 2) + 0) ≤ 0)
      omega
  have nf1 : fc_1 (20, [8, 0], [31, 1, 0, 1, 0, 0, -1, -1, 1, 9]) ws (vs) := by
    refine ⟨fun n hn => ?_, ?_⟩
    · have hn : n ∈ [8, 0] := hn
      rw [hl]
      simp only [List.mem_cons, List.not_mem_nil, or_false] at hn
      show n < 9; omega
    · show (1 * v_iv (n_v vs 8) + 0 ≤ 0) ∨ ((-1) * w_fi ws (n_v vs 0) 9 + 0 ≤ (-1))
      omega
  refine ⟨(fun _ h => (by cases h)), [], trivial, ?_, (fun _ h => (by cases h))⟩
  rw [List.append_nil]
  exact List.forall_mem_cons.mpr ⟨⟨show (20 : Nat) < 100 from by decide, nf0⟩, List.forall_mem_cons.mpr ⟨⟨show (20 : Nat) < 100 from by decide, nf1⟩, (fun _ h => (by cases h))⟩⟩
def o_Re_readValue_at_s5003_12 : or_T := (17, 8, [(0, (2, 0, 0, [8])), (2, (0, 9, 9, [])), (3, (0, -2147483648, 1000000, [])), (7, (0, 0, 0, []))], [(20, [0, 0, 3], [31, 1, 3, 1, 1, 7, 0, 1, 1, 9, -1, 0, 0]), (20, [0, 0, 3], [31, 1, 3, 1, 1, 7, 0, -1, 1, 9, 1, 0, 0]), (20, [0, 0, 0, 0], [31, 1, -3, -1, 1, 7, 4008, 1, 1, 6, -1, 1, 8, 2000, 1, 7]), (20, [0, 0], [30, 0, 1, 1, 8, -1, 1, 6])], [], [], [(20, [7, 0, 2], [31, 1, 0, 1, 0, 0, 0, 1, 1, 9, -1, 0, 0]), (20, [7, 0], [31, 1, 0, 1, 0, 0, -1, -1, 1, 9])], [], [])
theorem oo_Re_readValue_at_s5003_12 {kA : Nat → ClassId} : or_ok kA GG o_Re_readValue_at_s5003_12 := by
  intro A ta ws vs hD hth hl hk hds hf
  have hl : vs.length = 8 := hl
  have hk : ∀ q ∈ ([(0, (2, 0, 0, [8])), (2, (0, 9, 9, [])), (3, (0, -2147483648, 1000000, [])), (7, (0, 0, 0, []))] : List (Nat × tv_T)), tv_ok ta q.2 (n_v vs q.1) := hk
  obtain ⟨t0, hk⟩ := List.forall_mem_cons.mp hk
  have t0 : tv_ok ta (2, 0, 0, [8]) (n_v vs 0) := t0
  have r0 : ta (v_ad (n_v vs 0)) = some 8 := tv_rg t0
  obtain ⟨t2, hk⟩ := List.forall_mem_cons.mp hk
  have t2 : tv_ok ta (0, 9, 9, []) (n_v vs 2) := t2
  have k2 : 9 ≤ v_iv (n_v vs 2) ∧ v_iv (n_v vs 2) ≤ 9 := tv_rng t2
  obtain ⟨t3, hk⟩ := List.forall_mem_cons.mp hk
  have t3 : tv_ok ta (0, -2147483648, 1000000, []) (n_v vs 3) := t3
  have k3 : (-2147483648) ≤ v_iv (n_v vs 3) ∧ v_iv (n_v vs 3) ≤ 1000000 := tv_rng t3
  obtain ⟨t7, hk⟩ := List.forall_mem_cons.mp hk
  have t7 : tv_ok ta (0, 0, 0, []) (n_v vs 7) := t7
  have k7 : 0 ≤ v_iv (n_v vs 7) ∧ v_iv (n_v vs 7) ≤ 0 := tv_rng t7
  have hf : fc_ok [(20, [0, 0, 3], [31, 1, 3, 1, 1, 7, 0, 1, 1, 9, -1, 0, 0]), (20, [0, 0, 3], [31, 1, 3, 1, 1, 7, 0, -1, 1, 9, 1, 0, 0]), (20, [0, 0, 0, 0], [31, 1, -3, -1, 1, 7, 4008, 1, 1, 6, -1, 1, 8, 2000, 1, 7]), (20, [0, 0], [30, 0, 1, 1, 8, -1, 1, 6])] ta ws vs := hf
  obtain ⟨f0, hf⟩ := fc_un (show (20 : Nat) < 100 from by decide) hf
  have f0 : (1 * w_fi ws (n_v vs 0) 7 + 0 ≤ 3) ∨ (1 * w_fi ws (n_v vs 0) 9 + ((-1) * v_iv (n_v vs 3) + 0) ≤ 0) := f0
  obtain ⟨f1, hf⟩ := fc_un (show (20 : Nat) < 100 from by decide) hf
  have f1 : (1 * w_fi ws (n_v vs 0) 7 + 0 ≤ 3) ∨ ((-1) * w_fi ws (n_v vs 0) 9 + (1 * v_iv (n_v vs 3) + 0) ≤ 0) := f1
  obtain ⟨f2, hf⟩ := fc_un (show (20 : Nat) < 100 from by decide) hf
  have f2 : ((-1) * w_fi ws (n_v vs 0) 7 + 0 ≤ (-3)) ∨ (1 * w_fi ws (n_v vs 0) 6 + ((-1) * w_fi ws (n_v vs 0) 8 + (2000 * w_fi ws (n_v vs 0) 7 + 0)) ≤ 4008) := f2
  obtain ⟨f3, hf⟩ := fc_un (show (20 : Nat) < 100 from by decide) hf
  have f3 : 1 * w_fi ws (n_v vs 0) 8 + ((-1) * w_fi ws (n_v vs 0) 6 + 0) ≤ 0 := f3
  have kz_0_6 : 0 ≤ w_fi ws (n_v vs 0) 6 ∧ w_fi ws (n_v vs 0) 6 ≤ 2000 := tv_rng (th_fd hD hth r0 (g := GG_8) rfl (k := 6) (t := (0, 0, 2000, [])) rfl rfl)
  have kz_0_7 : (-128) ≤ w_fi ws (n_v vs 0) 7 ∧ w_fi ws (n_v vs 0) 7 ≤ 127 := tv_rng (th_fd hD hth r0 (g := GG_8) rfl (k := 7) (t := (0, -128, 127, [])) rfl rfl)
  have kz_0_8 : 0 ≤ w_fi ws (n_v vs 0) 8 ∧ w_fi ws (n_v vs 0) 8 ≤ 2000 := tv_rng (th_fd hD hth r0 (g := GG_8) rfl (k := 8) (t := (0, 0, 2000, [])) rfl rfl)
  have kz_0_9 : (-2147483648) ≤ w_fi ws (n_v vs 0) 9 ∧ w_fi ws (n_v vs 0) 9 ≤ 1000000 := tv_rng (th_fd hD hth r0 (g := GG_8) rfl (k := 9) (t := (0, -2147483648, 1000000, [])) rfl rfl)
  have nf0 : fc_1 (20, [7, 0, 2], [31, 1, 0, 1, 0, 0, 0, 1, 1, 9, -1, 0, 0]) ws (vs) := by
    refine ⟨fun n hn => ?_, ?_⟩
    · have hn : n ∈ [7, 0, 2] := hn
      rw [hl]
      simp only [List.mem_cons, List.not_mem_nil, or_false] at hn
      show n < 8; omega
    · show (1 * v_iv (n_v vs 7) + 0 ≤ 0) ∨ (1 * w_fi ws (n_v vs 0) 9 + ((-1) * v_iv (n_v vs 2) + 0) ≤ 0)
      omega
  have nf1 : fc_1 (20, [7, 0], [31, 1, 0, 1, 0, 0, -1, -1, 1, 9]) ws (vs) := by
    refine ⟨fun n hn => ?_, ?_⟩
    · have hn : n ∈ [7, 0] := hn
      rw [hl]
      simp only [List.mem_cons, List.not_mem_nil, or_false] at hn
      show n < 8; omega
    · show (1 * v_iv (n_v vs 7) + 0 ≤ 0) ∨ ((-1) * w_fi ws (n_v vs 0) 9 + 0 ≤ (-1))
      omega
  refine ⟨(fun _ h => (by cases h)), [], trivial, ?_, (fun _ h => (by cases h))⟩
  rw [List.append_nil]
  exact List.forall_mem_cons.mpr ⟨⟨show (20 : Nat) < 100 from by decide, nf0⟩, List.forall_mem_cons.mpr ⟨⟨show (20 : Nat) < 100 from by decide, nf1⟩, (fun _ h => (by cases h))⟩⟩
def n_Re_readValue_at_s5003_an : List an_T := []
def t_Re_readValue_at_s5003_ct : ct_L := [(1, 57, e_Re_advance), (1, 113, e_Re_fail), (64, 95, e_Re_isWord_at_s5003)]
set_option maxRecDepth 100000 in
theorem c_Re_readValue_at_s5003 {l : Launch} {D : va_G} {kA : Nat → ClassId} (h_Re_advance : ct_ok l D kA GG y_Re_advance z_Re_advance e_Re_advance) (h_Re_fail : ct_ok l D kA GG y_Re_fail z_Re_fail e_Re_fail) (h_Re_isWord_at_s5003 : ct_ok l D kA GG y_Re_isWord_at_s5003 z_Re_isWord_at_s5003 e_Re_isWord_at_s5003) : ct_ok l D kA GG y_Re_readValue_at_s5003 z_Re_readValue_at_s5003 e_Re_readValue_at_s5003 := chk_all_ok (FT := [(38, 8, 7), (44, 8, 9)]) (PT := []) (CT := t_Re_readValue_at_s5003_ct) (KT := []) (NT := []) (AN := n_Re_readValue_at_s5003_an) (OT := [o_Re_readValue_at_s5003_0, o_Re_readValue_at_s5003_1, o_Re_readValue_at_s5003_2, o_Re_readValue_at_s5003_3, o_Re_readValue_at_s5003_4, o_Re_readValue_at_s5003_5, o_Re_readValue_at_s5003_6, o_Re_readValue_at_s5003_7, o_Re_readValue_at_s5003_8, o_Re_readValue_at_s5003_9, o_Re_readValue_at_s5003_10, o_Re_readValue_at_s5003_11, o_Re_readValue_at_s5003_12]) 0 308 (List.forall_mem_cons.mpr ⟨oo_Re_readValue_at_s5003_0, List.forall_mem_cons.mpr ⟨oo_Re_readValue_at_s5003_1, List.forall_mem_cons.mpr ⟨oo_Re_readValue_at_s5003_2, List.forall_mem_cons.mpr ⟨oo_Re_readValue_at_s5003_3, List.forall_mem_cons.mpr ⟨oo_Re_readValue_at_s5003_4, List.forall_mem_cons.mpr ⟨oo_Re_readValue_at_s5003_5, List.forall_mem_cons.mpr ⟨oo_Re_readValue_at_s5003_6, List.forall_mem_cons.mpr ⟨oo_Re_readValue_at_s5003_7, List.forall_mem_cons.mpr ⟨oo_Re_readValue_at_s5003_8, List.forall_mem_cons.mpr ⟨oo_Re_readValue_at_s5003_9, List.forall_mem_cons.mpr ⟨oo_Re_readValue_at_s5003_10, List.forall_mem_cons.mpr ⟨oo_Re_readValue_at_s5003_11, List.forall_mem_cons.mpr ⟨oo_Re_readValue_at_s5003_12, List.forall_mem_nil _⟩⟩⟩⟩⟩⟩⟩⟩⟩⟩⟩⟩⟩) (by decide +kernel) ⟨List.forall_mem_cons.mpr ⟨gf_Re_38, List.forall_mem_cons.mpr ⟨gf_Re_44, List.forall_mem_nil _⟩⟩, List.forall_mem_nil _, List.forall_mem_cons.mpr ⟨cl_virtual (y := y_Re_advance) (ci := 8) rfl rfl ⟨_, _, rfl⟩ (by decide +kernel) h_Re_advance wm_645 wm_2 wm_642 wm_644 wv_1_0 ⟨by decide, by decide, by decide +kernel⟩ (by decide), List.forall_mem_cons.mpr ⟨cl_virtual (y := y_Re_fail) (ci := 8) rfl rfl ⟨_, _, rfl⟩ (by decide +kernel) h_Re_fail wm_731 wm_2 wm_728 wm_730 wv_1_5 ⟨by decide, by decide, by decide +kernel⟩ (by decide), List.forall_mem_cons.mpr ⟨cl_virtual (y := y_Re_isWord_at_s5003) (ci := 8) rfl rfl ⟨_, _, rfl⟩ (by decide +kernel) h_Re_isWord_at_s5003 wm_670 wm_2 wm_667 wm_669 wv_1_2 ⟨by decide, by decide, by decide +kernel⟩ (by decide), List.forall_mem_nil _⟩⟩⟩, List.forall_mem_nil _, List.forall_mem_nil _, GG_pl⟩ (by decide +kernel)
def o_Mo_label_0 : or_T := (52, 17, [(0, (2, 0, 0, [150])), (6, (0, 0, 48, [])), (15, (0, 0, 0, [])), (16, (0, 0, 0, []))], [(20, [6, 0], [30, 0, 1, 0, 0, -1, 3, 2005001]), (20, [6, 0], [30, 0, -1, 0, 0, 1, 3, 2005001]), (101, [0, 15], [150]), (20, [6, 0], [30, 0, 1, 0, 0, -1, 3, 2005001]), (20, [6, 0], [30, 0, -1, 0, 0, 1, 3, 2005001])], [], [], [(20, [0, 16], [30, 0, 1, 1, 150, -1, 0, 0])], [], [])
theorem oo_Mo_label_0 {kA : Nat → ClassId} : or_ok kA GG o_Mo_label_0 := by
  intro A ta ws vs hD hth hl hk hds hf
  have hl : vs.length = 17 := hl
  have hk : ∀ q ∈ ([(0, (2, 0, 0, [150])), (6, (0, 0, 48, [])), (15, (0, 0, 0, [])), (16, (0, 0, 0, []))] : List (Nat × tv_T)), tv_ok ta q.2 (n_v vs q.1) := hk
  obtain ⟨t0, hk⟩ := List.forall_mem_cons.mp hk
  have t0 : tv_ok ta (2, 0, 0, [150]) (n_v vs 0) := t0
  have r0 : ta (v_ad (n_v vs 0)) = some 150 := tv_rg t0
  obtain ⟨t6, hk⟩ := List.forall_mem_cons.mp hk
  have t6 : tv_ok ta (0, 0, 48, []) (n_v vs 6) := t6
  have k6 : 0 ≤ v_iv (n_v vs 6) ∧ v_iv (n_v vs 6) ≤ 48 := tv_rng t6
  obtain ⟨t15, hk⟩ := List.forall_mem_cons.mp hk
  have t15 : tv_ok ta (0, 0, 0, []) (n_v vs 15) := t15
  have k15 : 0 ≤ v_iv (n_v vs 15) ∧ v_iv (n_v vs 15) ≤ 0 := tv_rng t15
  obtain ⟨t16, hk⟩ := List.forall_mem_cons.mp hk
  have t16 : tv_ok ta (0, 0, 0, []) (n_v vs 16) := t16
  have k16 : 0 ≤ v_iv (n_v vs 16) ∧ v_iv (n_v vs 16) ≤ 0 := tv_rng t16
  have hf : fc_ok [(20, [6, 0], [30, 0, 1, 0, 0, -1, 3, 2005001]), (20, [6, 0], [30, 0, -1, 0, 0, 1, 3, 2005001]), (101, [0, 15], [150]), (20, [6, 0], [30, 0, 1, 0, 0, -1, 3, 2005001]), (20, [6, 0], [30, 0, -1, 0, 0, 1, 3, 2005001])] ta ws vs := hf
  obtain ⟨f0, hf⟩ := fc_un (show (20 : Nat) < 100 from by decide) hf
  have f0 : 1 * v_iv (n_v vs 6) + ((-1) * w_el ws (w_ar ws (n_v vs 0) 2) (w_fi ws (n_v vs 0) 5 + 1).toNat + 0) ≤ 0 := f0
  obtain ⟨f1, hf⟩ := fc_un (show (20 : Nat) < 100 from by decide) hf
  have f1 : (-1) * v_iv (n_v vs 6) + (1 * w_el ws (w_ar ws (n_v vs 0) 2) (w_fi ws (n_v vs 0) 5 + 1).toNat + 0) ≤ 0 := f1
  obtain ⟨ta1, w1, le1, ⟨_, s1⟩, hf⟩ := fc_us (show ¬ (101 : Nat) < 100 from by decide) hf
  have s1 : (∀ b j, w_el ws b j = w_el w1 b j) ∧ ∀ b j, w_fd ws b j = if b = v_ad (n_v vs 0) ∧ j = 150 then n_v vs 15 else w_fd w1 b j := s1
  obtain ⟨f3, hf⟩ := fc_un (show (20 : Nat) < 100 from by decide) hf
  have f3 : 1 * v_iv (n_v vs 6) + ((-1) * w_el w1 (w_ar w1 (n_v vs 0) 2) (w_fi w1 (n_v vs 0) 5 + 1).toNat + 0) ≤ 0 := f3
  obtain ⟨f4, hf⟩ := fc_un (show (20 : Nat) < 100 from by decide) hf
  have f4 : (-1) * v_iv (n_v vs 6) + (1 * w_el w1 (w_ar w1 (n_v vs 0) 2) (w_fi w1 (n_v vs 0) 5 + 1).toNat + 0) ≤ 0 := f4
  have ar_0_2_1 : w_ar w1 (n_v vs 0) 2 = w_ar ws (n_v vs 0) 2 := by show v_ad (w_fd w1 _ _) = v_ad (w_fd ws _ _); rw [s1.2, if_neg (fun e => absurd e.2 (by decide))]
  have cr_0_2 : ta (w_ar ws (n_v vs 0) 2) = some 152 := tv_rg (th_fd hD hth r0 (g := GG_150) rfl (k := 2) (t := (2, 0, 0, [152])) rfl rfl)
  have fi_0_5_1 : w_fi w1 (n_v vs 0) 5 = w_fi ws (n_v vs 0) 5 := by show v_iv (w_fd w1 _ _) = v_iv (w_fd ws _ _); rw [s1.2, if_neg (fun e => absurd e.2 (by decide))]
  rw [ar_0_2_1] at f3
  rw [fi_0_5_1] at f3
  rw [ar_0_2_1] at f4
  rw [fi_0_5_1] at f4
  have fe_0_5_1 : w_fi ws (n_v vs 0) 5 = w_fi w1 (n_v vs 0) 5 := by show v_iv (w_fd _ _ _) = v_iv (w_fd _ _ _); rw [s1.2, if_neg (fun e => absurd e.2 (by decide))]
  have fe_0_150_1 : w_fi ws (n_v vs 0) 150 = v_iv (n_v vs 15) := by show v_iv (w_fd _ _ _) = _; rw [s1.2, if_pos ⟨rfl, rfl⟩]
  have ee_0_2_F5_1_1 : w_el ws (w_ar ws (n_v vs 0) 2) (w_fi ws (n_v vs 0) 5 + 1).toNat = w_el w1 (w_ar ws (n_v vs 0) 2) (w_fi ws (n_v vs 0) 5 + 1).toNat := s1.1 _ _
  have kz_0_150 : 0 ≤ w_fi ws (n_v vs 0) 150 ∧ w_fi ws (n_v vs 0) 150 ≤ 48 := tv_rng (th_fd hD hth r0 (g := GG_150) rfl (k := 150) (t := (0, 0, 48, [])) rfl rfl)
  have nf0 : fc_1 (20, [0, 16], [30, 0, 1, 1, 150, -1, 0, 0]) ws (vs) := by
    refine ⟨fun n hn => ?_, ?_⟩
    · have hn : n ∈ [0, 16] := hn
      rw [hl]
      simp only [List.mem_cons, List.not_mem_nil, or_false] at hn
      show n < 17; omega
    · show 1 * w_fi ws (n_v vs 0) 150 + ((-1) * v_iv (n_v vs 16) + 0) ≤ 0
      omega
  refine ⟨(fun _ h => (by cases h)), [], trivial, ?_, (fun _ h => (by cases h))⟩
  rw [List.append_nil]
  exact List.forall_mem_cons.mpr ⟨⟨show (20 : Nat) < 100 from by decide, nf0⟩, (fun _ h => (by cases h))⟩
def o_Mo_label_1 : or_T := (95, 6, [(0, (2, 0, 0, [150])), (2, (0, 0, 47, [])), (4, (0, 0, 47, []))], [(7, [4, 2], [3]), (20, [0, 4], [30, 0, 1, 1, 150, -1, 0, 0])], [], [], [(20, [0], [30, 47, 1, 1, 150])], [], [(4, 2, 0, 4294967296), (2, 4, -4294967296, 47), (4, 2, -4294967296, 0)])
theorem oo_Mo_label_1 {kA : Nat → ClassId} : or_ok kA GG o_Mo_label_1 := by
  intro A ta ws vs hD hth hl hk hds hf
  have hl : vs.length = 6 := hl
  have hk : ∀ q ∈ ([(0, (2, 0, 0, [150])), (2, (0, 0, 47, [])), (4, (0, 0, 47, []))] : List (Nat × tv_T)), tv_ok ta q.2 (n_v vs q.1) := hk
  obtain ⟨t0, hk⟩ := List.forall_mem_cons.mp hk
  have t0 : tv_ok ta (2, 0, 0, [150]) (n_v vs 0) := t0
  have r0 : ta (v_ad (n_v vs 0)) = some 150 := tv_rg t0
  obtain ⟨t2, hk⟩ := List.forall_mem_cons.mp hk
  have t2 : tv_ok ta (0, 0, 47, []) (n_v vs 2) := t2
  have k2 : 0 ≤ v_iv (n_v vs 2) ∧ v_iv (n_v vs 2) ≤ 47 := tv_rng t2
  obtain ⟨t4, hk⟩ := List.forall_mem_cons.mp hk
  have t4 : tv_ok ta (0, 0, 47, []) (n_v vs 4) := t4
  have k4 : 0 ≤ v_iv (n_v vs 4) ∧ v_iv (n_v vs 4) ≤ 47 := tv_rng t4
  have hds : ∀ q ∈ ([(4, 2, 0, 4294967296), (2, 4, -4294967296, 47), (4, 2, -4294967296, 0)] : List of_T), n_iv vs q.2.1 + q.2.2.1 ≤ n_iv vs q.1 ∧ n_iv vs q.1 ≤ n_iv vs q.2.1 + q.2.2.2 := hds
  obtain ⟨d0, hds⟩ := List.forall_mem_cons.mp hds
  have d0 : v_iv (n_v vs 2) + 0 ≤ v_iv (n_v vs 4) ∧ v_iv (n_v vs 4) ≤ v_iv (n_v vs 2) + 4294967296 := d0
  obtain ⟨d1, hds⟩ := List.forall_mem_cons.mp hds
  have d1 : v_iv (n_v vs 4) + (-4294967296) ≤ v_iv (n_v vs 2) ∧ v_iv (n_v vs 2) ≤ v_iv (n_v vs 4) + 47 := d1
  obtain ⟨d2, hds⟩ := List.forall_mem_cons.mp hds
  have d2 : v_iv (n_v vs 2) + (-4294967296) ≤ v_iv (n_v vs 4) ∧ v_iv (n_v vs 4) ≤ v_iv (n_v vs 2) + 0 := d2
  have hf : fc_ok [(7, [4, 2], [3]), (20, [0, 4], [30, 0, 1, 1, 150, -1, 0, 0])] ta ws vs := hf
  obtain ⟨f0, hf⟩ := fc_un (show (7 : Nat) < 100 from by decide) hf
  have f0 : v_iv (n_v vs 2) ≤ v_iv (n_v vs 4) := f0
  obtain ⟨f1, hf⟩ := fc_un (show (20 : Nat) < 100 from by decide) hf
  have f1 : 1 * w_fi ws (n_v vs 0) 150 + ((-1) * v_iv (n_v vs 4) + 0) ≤ 0 := f1
  have kz_0_150 : 0 ≤ w_fi ws (n_v vs 0) 150 ∧ w_fi ws (n_v vs 0) 150 ≤ 48 := tv_rng (th_fd hD hth r0 (g := GG_150) rfl (k := 150) (t := (0, 0, 48, [])) rfl rfl)
  have nf0 : fc_1 (20, [0], [30, 47, 1, 1, 150]) ws (vs) := by
    refine ⟨fun n hn => ?_, ?_⟩
    · have hn : n ∈ [0] := hn
      rw [hl]
      simp only [List.mem_cons, List.not_mem_nil, or_false] at hn
      show n < 6; omega
    · show 1 * w_fi ws (n_v vs 0) 150 + 0 ≤ 47
      omega
  refine ⟨(fun _ h => (by cases h)), [], trivial, ?_, (fun _ h => (by cases h))⟩
  rw [List.append_nil]
  exact List.forall_mem_cons.mpr ⟨⟨show (20 : Nat) < 100 from by decide, nf0⟩, (fun _ h => (by cases h))⟩
def o_Mo_label_2 : or_T := (52, 9, [(0, (2, 0, 0, [150])), (2, (0, 1, 47, [])), (4, (0, 0, 46, [])), (8, (0, 1, 47, []))], [(6, [8, 4], [1]), (7, [4, 2], [2]), (20, [0, 4], [30, 0, 1, 1, 150, -1, 0, 0])], [], [], [(20, [0, 8], [30, 0, 1, 1, 150, -1, 0, 0])], [], [(8, 4, 1, 1), (8, 2, -4294967296, 0), (8, 2, -4294967296, 1), (4, 2, -4294967296, -1), (2, 4, -4294967296, 47), (4, 2, -4294967296, 0)])
theorem oo_Mo_label_2 {kA : Nat → ClassId} : or_ok kA GG o_Mo_label_2 := by
  intro A ta ws vs hD hth hl hk hds hf
  have hl : vs.length = 9 := hl
  have hk : ∀ q ∈ ([(0, (2, 0, 0, [150])), (2, (0, 1, 47, [])), (4, (0, 0, 46, [])), (8, (0, 1, 47, []))] : List (Nat × tv_T)), tv_ok ta q.2 (n_v vs q.1) := hk
  obtain ⟨t0, hk⟩ := List.forall_mem_cons.mp hk
  have t0 : tv_ok ta (2, 0, 0, [150]) (n_v vs 0) := t0
  have r0 : ta (v_ad (n_v vs 0)) = some 150 := tv_rg t0
  obtain ⟨t2, hk⟩ := List.forall_mem_cons.mp hk
  have t2 : tv_ok ta (0, 1, 47, []) (n_v vs 2) := t2
  have k2 : 1 ≤ v_iv (n_v vs 2) ∧ v_iv (n_v vs 2) ≤ 47 := tv_rng t2
  obtain ⟨t4, hk⟩ := List.forall_mem_cons.mp hk
  have t4 : tv_ok ta (0, 0, 46, []) (n_v vs 4) := t4
  have k4 : 0 ≤ v_iv (n_v vs 4) ∧ v_iv (n_v vs 4) ≤ 46 := tv_rng t4
  obtain ⟨t8, hk⟩ := List.forall_mem_cons.mp hk
  have t8 : tv_ok ta (0, 1, 47, []) (n_v vs 8) := t8
  have k8 : 1 ≤ v_iv (n_v vs 8) ∧ v_iv (n_v vs 8) ≤ 47 := tv_rng t8
  have hds : ∀ q ∈ ([(8, 4, 1, 1), (8, 2, -4294967296, 0), (8, 2, -4294967296, 1), (4, 2, -4294967296, -1), (2, 4, -4294967296, 47), (4, 2, -4294967296, 0)] : List of_T), n_iv vs q.2.1 + q.2.2.1 ≤ n_iv vs q.1 ∧ n_iv vs q.1 ≤ n_iv vs q.2.1 + q.2.2.2 := hds
  obtain ⟨d0, hds⟩ := List.forall_mem_cons.mp hds
  have d0 : v_iv (n_v vs 4) + 1 ≤ v_iv (n_v vs 8) ∧ v_iv (n_v vs 8) ≤ v_iv (n_v vs 4) + 1 := d0
  obtain ⟨d1, hds⟩ := List.forall_mem_cons.mp hds
  have d1 : v_iv (n_v vs 2) + (-4294967296) ≤ v_iv (n_v vs 8) ∧ v_iv (n_v vs 8) ≤ v_iv (n_v vs 2) + 0 := d1
  obtain ⟨d2, hds⟩ := List.forall_mem_cons.mp hds
  have d2 : v_iv (n_v vs 2) + (-4294967296) ≤ v_iv (n_v vs 8) ∧ v_iv (n_v vs 8) ≤ v_iv (n_v vs 2) + 1 := d2
  obtain ⟨d3, hds⟩ := List.forall_mem_cons.mp hds
  have d3 : v_iv (n_v vs 2) + (-4294967296) ≤ v_iv (n_v vs 4) ∧ v_iv (n_v vs 4) ≤ v_iv (n_v vs 2) + (-1) := d3
  obtain ⟨d4, hds⟩ := List.forall_mem_cons.mp hds
  have d4 : v_iv (n_v vs 4) + (-4294967296) ≤ v_iv (n_v vs 2) ∧ v_iv (n_v vs 2) ≤ v_iv (n_v vs 4) + 47 := d4
  obtain ⟨d5, hds⟩ := List.forall_mem_cons.mp hds
  have d5 : v_iv (n_v vs 2) + (-4294967296) ≤ v_iv (n_v vs 4) ∧ v_iv (n_v vs 4) ≤ v_iv (n_v vs 2) + 0 := d5
  have hf : fc_ok [(6, [8, 4], [1]), (7, [4, 2], [2]), (20, [0, 4], [30, 0, 1, 1, 150, -1, 0, 0])] ta ws vs := hf
  obtain ⟨f0, hf⟩ := fc_un (show (6 : Nat) < 100 from by decide) hf
  have f0 : v_iv (n_v vs 8) = v_iv (n_v vs 4) + 1 := f0
  obtain ⟨f1, hf⟩ := fc_un (show (7 : Nat) < 100 from by decide) hf
  have f1 : v_iv (n_v vs 4) < v_iv (n_v vs 2) := f1
  obtain ⟨f2, hf⟩ := fc_un (show (20 : Nat) < 100 from by decide) hf
  have f2 : 1 * w_fi ws (n_v vs 0) 150 + ((-1) * v_iv (n_v vs 4) + 0) ≤ 0 := f2
  have kz_0_150 : 0 ≤ w_fi ws (n_v vs 0) 150 ∧ w_fi ws (n_v vs 0) 150 ≤ 48 := tv_rng (th_fd hD hth r0 (g := GG_150) rfl (k := 150) (t := (0, 0, 48, [])) rfl rfl)
  have nf0 : fc_1 (20, [0, 8], [30, 0, 1, 1, 150, -1, 0, 0]) ws (vs) := by
    refine ⟨fun n hn => ?_, ?_⟩
    · have hn : n ∈ [0, 8] := hn
      rw [hl]
      simp only [List.mem_cons, List.not_mem_nil, or_false] at hn
      show n < 9; omega
    · show 1 * w_fi ws (n_v vs 0) 150 + ((-1) * v_iv (n_v vs 8) + 0) ≤ 0
      omega
  refine ⟨(fun _ h => (by cases h)), [], trivial, ?_, (fun _ h => (by cases h))⟩
  rw [List.append_nil]
  exact List.forall_mem_cons.mpr ⟨⟨show (20 : Nat) < 100 from by decide, nf0⟩, (fun _ h => (by cases h))⟩
def o_Mo_label_3 : or_T := (71, 8, [(0, (2, 0, 0, [150])), (2, (0, 1, 47, [])), (4, (0, 0, 46, []))], [(7, [4, 2], [2]), (20, [0, 4], [30, 0, 1, 1, 150, -1, 0, 0])], [], [], [(20, [0], [30, 47, 1, 1, 150])], [], [(4, 2, -4294967296, -1), (2, 4, -4294967296, 47), (4, 2, -4294967296, 0)])
theorem oo_Mo_label_3 {kA : Nat → ClassId} : or_ok kA GG o_Mo_label_3 := by
  intro A ta ws vs hD hth hl hk hds hf
  have hl : vs.length = 8 := hl
  have hk : ∀ q ∈ ([(0, (2, 0, 0, [150])), (2, (0, 1, 47, [])), (4, (0, 0, 46, []))] : List (Nat × tv_T)), tv_ok ta q.2 (n_v vs q.1) := hk
  obtain ⟨t0, hk⟩ := List.forall_mem_cons.mp hk
  have t0 : tv_ok ta (2, 0, 0, [150]) (n_v vs 0) := t0
  have r0 : ta (v_ad (n_v vs 0)) = some 150 := tv_rg t0
  obtain ⟨t2, hk⟩ := List.forall_mem_cons.mp hk
  have t2 : tv_ok ta (0, 1, 47, []) (n_v vs 2) := t2
  have k2 : 1 ≤ v_iv (n_v vs 2) ∧ v_iv (n_v vs 2) ≤ 47 := tv_rng t2
  obtain ⟨t4, hk⟩ := List.forall_mem_cons.mp hk
  have t4 : tv_ok ta (0, 0, 46, []) (n_v vs 4) := t4
  have k4 : 0 ≤ v_iv (n_v vs 4) ∧ v_iv (n_v vs 4) ≤ 46 := tv_rng t4
  have hds : ∀ q ∈ ([(4, 2, -4294967296, -1), (2, 4, -4294967296, 47), (4, 2, -4294967296, 0)] : List of_T), n_iv vs q.2.1 + q.2.2.1 ≤ n_iv vs q.1 ∧ n_iv vs q.1 ≤ n_iv vs q.2.1 + q.2.2.2 := hds
  obtain ⟨d0, hds⟩ := List.forall_mem_cons.mp hds
  have d0 : v_iv (n_v vs 2) + (-4294967296) ≤ v_iv (n_v vs 4) ∧ v_iv (n_v vs 4) ≤ v_iv (n_v vs 2) + (-1) := d0
  obtain ⟨d1, hds⟩ := List.forall_mem_cons.mp hds
  have d1 : v_iv (n_v vs 4) + (-4294967296) ≤ v_iv (n_v vs 2) ∧ v_iv (n_v vs 2) ≤ v_iv (n_v vs 4) + 47 := d1
  obtain ⟨d2, hds⟩ := List.forall_mem_cons.mp hds
  have d2 : v_iv (n_v vs 2) + (-4294967296) ≤ v_iv (n_v vs 4) ∧ v_iv (n_v vs 4) ≤ v_iv (n_v vs 2) + 0 := d2
  have hf : fc_ok [(7, [4, 2], [2]), (20, [0, 4], [30, 0, 1, 1, 150, -1, 0, 0])] ta ws vs := hf
  obtain ⟨f0, hf⟩ := fc_un (show (7 : Nat) < 100 from by decide) hf
  have f0 : v_iv (n_v vs 4) < v_iv (n_v vs 2) := f0
  obtain ⟨f1, hf⟩ := fc_un (show (20 : Nat) < 100 from by decide) hf
  have f1 : 1 * w_fi ws (n_v vs 0) 150 + ((-1) * v_iv (n_v vs 4) + 0) ≤ 0 := f1
  have kz_0_150 : 0 ≤ w_fi ws (n_v vs 0) 150 ∧ w_fi ws (n_v vs 0) 150 ≤ 48 := tv_rng (th_fd hD hth r0 (g := GG_150) rfl (k := 150) (t := (0, 0, 48, [])) rfl rfl)
  have nf0 : fc_1 (20, [0], [30, 47, 1, 1, 150]) ws (vs) := by
    refine ⟨fun n hn => ?_, ?_⟩
    · have hn : n ∈ [0] := hn
      rw [hl]
      simp only [List.mem_cons, List.not_mem_nil, or_false] at hn
      show n < 8; omega
    · show 1 * w_fi ws (n_v vs 0) 150 + 0 ≤ 47
      omega
  refine ⟨(fun _ h => (by cases h)), [], trivial, ?_, (fun _ h => (by cases h))⟩
  rw [List.append_nil]
  exact List.forall_mem_cons.mpr ⟨⟨show (20 : Nat) < 100 from by decide, nf0⟩, (fun _ h => (by cases h))⟩
def o_Mo_label_4 : or_T := (52, 10, [(0, (2, 0, 0, [150])), (2, (0, 1, 47, [])), (4, (0, 0, 46, [])), (9, (0, 1, 47, []))], [(6, [9, 4], [1]), (20, [0], [30, 47, 1, 1, 150]), (20, [0, 4], [30, 0, 1, 1, 150, -1, 0, 0]), (102, [7], [694752535423897172541425910052127447119619907993843384236745504047478777839616]), (7, [4, 2], [2])], [], [], [(20, [0, 9], [30, 0, 1, 1, 150, -1, 0, 0])], [], [(9, 4, 1, 1), (9, 2, -4294967296, 0), (9, 2, -4294967296, 1), (4, 2, -4294967296, -1), (2, 4, -4294967296, 47), (4, 2, -4294967296, 0)])
theorem oo_Mo_label_4 {kA : Nat → ClassId} : or_ok kA GG o_Mo_label_4 := by
  intro A ta ws vs hD hth hl hk hds hf
  have hl : vs.length = 10 := hl
  have hk : ∀ q ∈ ([(0, (2, 0, 0, [150])), (2, (0, 1, 47, [])), (4, (0, 0, 46, [])), (9, (0, 1, 47, []))] : List (Nat × tv_T)), tv_ok ta q.2 (n_v vs q.1) := hk
  obtain ⟨t0, hk⟩ := List.forall_mem_cons.mp hk
  have t0 : tv_ok ta (2, 0, 0, [150]) (n_v vs 0) := t0
  have r0 : ta (v_ad (n_v vs 0)) = some 150 := tv_rg t0
  obtain ⟨t2, hk⟩ := List.forall_mem_cons.mp hk
  have t2 : tv_ok ta (0, 1, 47, []) (n_v vs 2) := t2
  have k2 : 1 ≤ v_iv (n_v vs 2) ∧ v_iv (n_v vs 2) ≤ 47 := tv_rng t2
  obtain ⟨t4, hk⟩ := List.forall_mem_cons.mp hk
  have t4 : tv_ok ta (0, 0, 46, []) (n_v vs 4) := t4
  have k4 : 0 ≤ v_iv (n_v vs 4) ∧ v_iv (n_v vs 4) ≤ 46 := tv_rng t4
  obtain ⟨t9, hk⟩ := List.forall_mem_cons.mp hk
  have t9 : tv_ok ta (0, 1, 47, []) (n_v vs 9) := t9
  have k9 : 1 ≤ v_iv (n_v vs 9) ∧ v_iv (n_v vs 9) ≤ 47 := tv_rng t9
  have hds : ∀ q ∈ ([(9, 4, 1, 1), (9, 2, -4294967296, 0), (9, 2, -4294967296, 1), (4, 2, -4294967296, -1), (2, 4, -4294967296, 47), (4, 2, -4294967296, 0)] : List of_T), n_iv vs q.2.1 + q.2.2.1 ≤ n_iv vs q.1 ∧ n_iv vs q.1 ≤ n_iv vs q.2.1 + q.2.2.2 := hds
  obtain ⟨d0, hds⟩ := List.forall_mem_cons.mp hds
  have d0 : v_iv (n_v vs 4) + 1 ≤ v_iv (n_v vs 9) ∧ v_iv (n_v vs 9) ≤ v_iv (n_v vs 4) + 1 := d0
  obtain ⟨d1, hds⟩ := List.forall_mem_cons.mp hds
  have d1 : v_iv (n_v vs 2) + (-4294967296) ≤ v_iv (n_v vs 9) ∧ v_iv (n_v vs 9) ≤ v_iv (n_v vs 2) + 0 := d1
  obtain ⟨d2, hds⟩ := List.forall_mem_cons.mp hds
  have d2 : v_iv (n_v vs 2) + (-4294967296) ≤ v_iv (n_v vs 9) ∧ v_iv (n_v vs 9) ≤ v_iv (n_v vs 2) + 1 := d2
  obtain ⟨d3, hds⟩ := List.forall_mem_cons.mp hds
  have d3 : v_iv (n_v vs 2) + (-4294967296) ≤ v_iv (n_v vs 4) ∧ v_iv (n_v vs 4) ≤ v_iv (n_v vs 2) + (-1) := d3
  obtain ⟨d4, hds⟩ := List.forall_mem_cons.mp hds
  have d4 : v_iv (n_v vs 4) + (-4294967296) ≤ v_iv (n_v vs 2) ∧ v_iv (n_v vs 2) ≤ v_iv (n_v vs 4) + 47 := d4
  obtain ⟨d5, hds⟩ := List.forall_mem_cons.mp hds
  have d5 : v_iv (n_v vs 2) + (-4294967296) ≤ v_iv (n_v vs 4) ∧ v_iv (n_v vs 4) ≤ v_iv (n_v vs 2) + 0 := d5
  have hf : fc_ok [(6, [9, 4], [1]), (20, [0], [30, 47, 1, 1, 150]), (20, [0, 4], [30, 0, 1, 1, 150, -1, 0, 0]), (102, [7], [694752535423897172541425910052127447119619907993843384236745504047478777839616]), (7, [4, 2], [2])] ta ws vs := hf
  obtain ⟨f0, hf⟩ := fc_un (show (6 : Nat) < 100 from by decide) hf
  have f0 : v_iv (n_v vs 9) = v_iv (n_v vs 4) + 1 := f0
  obtain ⟨f1, hf⟩ := fc_un (show (20 : Nat) < 100 from by decide) hf
  have f1 : 1 * w_fi ws (n_v vs 0) 150 + 0 ≤ 47 := f1
  obtain ⟨f2, hf⟩ := fc_un (show (20 : Nat) < 100 from by decide) hf
  have f2 : 1 * w_fi ws (n_v vs 0) 150 + ((-1) * v_iv (n_v vs 4) + 0) ≤ 0 := f2
  obtain ⟨ta1, w1, le1, ⟨_, s1⟩, hf⟩ := fc_us (show ¬ (102 : Nat) < 100 from by decide) hf
  obtain ⟨f4, hf⟩ := fc_un (show (7 : Nat) < 100 from by decide) hf
  have f4 : v_iv (n_v vs 4) < v_iv (n_v vs 2) := f4
  have kz_0_150 : 0 ≤ w_fi ws (n_v vs 0) 150 ∧ w_fi ws (n_v vs 0) 150 ≤ 48 := tv_rng (th_fd hD hth r0 (g := GG_150) rfl (k := 150) (t := (0, 0, 48, [])) rfl rfl)
  have nf0 : fc_1 (20, [0, 9], [30, 0, 1, 1, 150, -1, 0, 0]) ws (vs) := by
    refine ⟨fun n hn => ?_, ?_⟩
    · have hn : n ∈ [0, 9] := hn
      rw [hl]
      simp only [List.mem_cons, List.not_mem_nil, or_false] at hn
      show n < 10; omega
    · show 1 * w_fi ws (n_v vs 0) 150 + ((-1) * v_iv (n_v vs 9) + 0) ≤ 0
      omega
  refine ⟨(fun _ h => (by cases h)), [], trivial, ?_, (fun _ h => (by cases h))⟩
  rw [List.append_nil]
  exact List.forall_mem_cons.mpr ⟨⟨show (20 : Nat) < 100 from by decide, nf0⟩, (fun _ h => (by cases h))⟩
def o_Mo_label_5 : or_T := (52, 12, [(0, (2, 0, 0, [150])), (2, (0, 1, 47, [])), (4, (0, 0, 46, [])), (5, (0, 0, 46, [])), (9, (0, 1, 1, [])), (10, (0, 1, 47, [])), (11, (0, 1, 47, []))], [(6, [11, 4], [1]), (101, [0, 10], [150]), (1, [10, 5, 9], []), (9, [5, 0], [150]), (20, [0], [30, 47, 1, 1, 150]), (20, [0, 4], [30, 0, 1, 1, 150, -1, 0, 0]), (102, [7], [694752535423897172541425910052127447119619907993843384236745504047478777839616]), (7, [4, 2], [2])], [], [], [(20, [0, 11], [30, 0, 1, 1, 150, -1, 0, 0])], [], [(11, 4, 1, 1), (11, 2, -4294967296, 0), (11, 2, -4294967296, 1), (10, 5, 1, 1), (10, 2, -4294967296, 1), (10, 4, -4294967296, 1), (4, 2, -4294967296, -1), (2, 4, -4294967296, 47), (2, 5, -4294967296, 47), (4, 2, -4294967296, 0), (5, 2, -4294967296, 0), (5, 4, -4294967296, 0)])
theorem oo_Mo_label_5 {kA : Nat → ClassId} : or_ok kA GG o_Mo_label_5 := by
  intro A ta ws vs hD hth hl hk hds hf
  have hl : vs.length = 12 := hl
  have hk : ∀ q ∈ ([(0, (2, 0, 0, [150])), (2, (0, 1, 47, [])), (4, (0, 0, 46, [])), (5, (0, 0, 46, [])), (9, (0, 1, 1, [])), (10, (0, 1, 47, [])), (11, (0, 1, 47, []))] : List (Nat × tv_T)), tv_ok ta q.2 (n_v vs q.1) := hk
  obtain ⟨t0, hk⟩ := List.forall_mem_cons.mp hk
  have t0 : tv_ok ta (2, 0, 0, [150]) (n_v vs 0) := t0
  have r0 : ta (v_ad (n_v vs 0)) = some 150 := tv_rg t0
  obtain ⟨t2, hk⟩ := List.forall_mem_cons.mp hk
  have t2 : tv_ok ta (0, 1, 47, []) (n_v vs 2) := t2
  have k2 : 1 ≤ v_iv (n_v vs 2) ∧ v_iv (n_v vs 2) ≤ 47 := tv_rng t2
  obtain ⟨t4, hk⟩ := List.forall_mem_cons.mp hk
  have t4 : tv_ok ta (0, 0, 46, []) (n_v vs 4) := t4
  have k4 : 0 ≤ v_iv (n_v vs 4) ∧ v_iv (n_v vs 4) ≤ 46 := tv_rng t4
  obtain ⟨t5, hk⟩ := List.forall_mem_cons.mp hk
  have t5 : tv_ok ta (0, 0, 46, []) (n_v vs 5) := t5
  have k5 : 0 ≤ v_iv (n_v vs 5) ∧ v_iv (n_v vs 5) ≤ 46 := tv_rng t5
  obtain ⟨t9, hk⟩ := List.forall_mem_cons.mp hk
  have t9 : tv_ok ta (0, 1, 1, []) (n_v vs 9) := t9
  have k9 : 1 ≤ v_iv (n_v vs 9) ∧ v_iv (n_v vs 9) ≤ 1 := tv_rng t9
  obtain ⟨t10, hk⟩ := List.forall_mem_cons.mp hk
  have t10 : tv_ok ta (0, 1, 47, []) (n_v vs 10) := t10
  have k10 : 1 ≤ v_iv (n_v vs 10) ∧ v_iv (n_v vs 10) ≤ 47 := tv_rng t10
  obtain ⟨t11, hk⟩ := List.forall_mem_cons.mp hk
  have t11 : tv_ok ta (0, 1, 47, []) (n_v vs 11) := t11
  have k11 : 1 ≤ v_iv (n_v vs 11) ∧ v_iv (n_v vs 11) ≤ 47 := tv_rng t11
  have hds : ∀ q ∈ ([(11, 4, 1, 1), (11, 2, -4294967296, 0), (11, 2, -4294967296, 1), (10, 5, 1, 1), (10, 2, -4294967296, 1), (10, 4, -4294967296, 1), (4, 2, -4294967296, -1), (2, 4, -4294967296, 47), (2, 5, -4294967296, 47), (4, 2, -4294967296, 0), (5, 2, -4294967296, 0), (5, 4, -4294967296, 0)] : List of_T), n_iv vs q.2.1 + q.2.2.1 ≤ n_iv vs q.1 ∧ n_iv vs q.1 ≤ n_iv vs q.2.1 + q.2.2.2 := hds
  obtain ⟨d0, hds⟩ := List.forall_mem_cons.mp hds
  have d0 : v_iv (n_v vs 4) + 1 ≤ v_iv (n_v vs 11) ∧ v_iv (n_v vs 11) ≤ v_iv (n_v vs 4) + 1 := d0
  obtain ⟨d1, hds⟩ := List.forall_mem_cons.mp hds
  have d1 : v_iv (n_v vs 2) + (-4294967296) ≤ v_iv (n_v vs 11) ∧ v_iv (n_v vs 11) ≤ v_iv (n_v vs 2) + 0 := d1
  obtain ⟨d2, hds⟩ := List.forall_mem_cons.mp hds
  have d2 : v_iv (n_v vs 2) + (-4294967296) ≤ v_iv (n_v vs 11) ∧ v_iv (n_v vs 11) ≤ v_iv (n_v vs 2) + 1 := d2
  obtain ⟨d3, hds⟩ := List.forall_mem_cons.mp hds
  have d3 : v_iv (n_v vs 5) + 1 ≤ v_iv (n_v vs 10) ∧ v_iv (n_v vs 10) ≤ v_iv (n_v vs 5) + 1 := d3
  obtain ⟨d4, hds⟩ := List.forall_mem_cons.mp hds
  have d4 : v_iv (n_v vs 2) + (-4294967296) ≤ v_iv (n_v vs 10) ∧ v_iv (n_v vs 10) ≤ v_iv (n_v vs 2) + 1 := d4
  obtain ⟨d5, hds⟩ := List.forall_mem_cons.mp hds
  have d5 : v_iv (n_v vs 4) + (-4294967296) ≤ v_iv (n_v vs 10) ∧ v_iv (n_v vs 10) ≤ v_iv (n_v vs 4) + 1 := d5
  obtain ⟨d6, hds⟩ := List.forall_mem_cons.mp hds
  have d6 : v_iv (n_v vs 2) + (-4294967296) ≤ v_iv (n_v vs 4) ∧ v_iv (n_v vs 4) ≤ v_iv (n_v vs 2) + (-1) := d6
  obtain ⟨d7, hds⟩ := List.forall_mem_cons.mp hds
  have d7 : v_iv (n_v vs 4) + (-4294967296) ≤ v_iv (n_v vs 2) ∧ v_iv (n_v vs 2) ≤ v_iv (n_v vs 4) + 47 := d7
  obtain ⟨d8, hds⟩ := List.forall_mem_cons.mp hds
  have d8 : v_iv (n_v vs 5) + (-4294967296) ≤ v_iv (n_v vs 2) ∧ v_iv (n_v vs 2) ≤ v_iv (n_v vs 5) + 47 := d8
  obtain ⟨d9, hds⟩ := List.forall_mem_cons.mp hds
  have d9 : v_iv (n_v vs 2) + (-4294967296) ≤ v_iv (n_v vs 4) ∧ v_iv (n_v vs 4) ≤ v_iv (n_v vs 2) + 0 := d9
  obtain ⟨d10, hds⟩ := List.forall_mem_cons.mp hds
  have d10 : v_iv (n_v vs 2) + (-4294967296) ≤ v_iv (n_v vs 5) ∧ v_iv (n_v vs 5) ≤ v_iv (n_v vs 2) + 0 := d10
  obtain ⟨d11, hds⟩ := List.forall_mem_cons.mp hds
  have d11 : v_iv (n_v vs 4) + (-4294967296) ≤ v_iv (n_v vs 5) ∧ v_iv (n_v vs 5) ≤ v_iv (n_v vs 4) + 0 := d11
  have hf : fc_ok [(6, [11, 4], [1]), (101, [0, 10], [150]), (1, [10, 5, 9], []), (9, [5, 0], [150]), (20, [0], [30, 47, 1, 1, 150]), (20, [0, 4], [30, 0, 1, 1, 150, -1, 0, 0]), (102, [7], [694752535423897172541425910052127447119619907993843384236745504047478777839616]), (7, [4, 2], [2])] ta ws vs := hf
  obtain ⟨f0, hf⟩ := fc_un (show (6 : Nat) < 100 from by decide) hf
  have f0 : v_iv (n_v vs 11) = v_iv (n_v vs 4) + 1 := f0
  obtain ⟨ta1, w1, le1, ⟨_, s1⟩, hf⟩ := fc_us (show ¬ (101 : Nat) < 100 from by decide) hf
  have s1 : (∀ b j, w_el ws b j = w_el w1 b j) ∧ ∀ b j, w_fd ws b j = if b = v_ad (n_v vs 0) ∧ j = 150 then n_v vs 10 else w_fd w1 b j := s1
  obtain ⟨f2, hf⟩ := fc_un (show (1 : Nat) < 100 from by decide) hf
  have f2 : v_iv (n_v vs 10) = v_iv (n_v vs 5) + v_iv (n_v vs 9) := f2
  obtain ⟨f3, hf⟩ := fc_un (show (9 : Nat) < 100 from by decide) hf
  have f3 : n_v vs 5 = w_fd w1 (v_ad (n_v vs 0)) 150 := f3
  obtain ⟨f4, hf⟩ := fc_un (show (20 : Nat) < 100 from by decide) hf
  have f4 : 1 * w_fi w1 (n_v vs 0) 150 + 0 ≤ 47 := f4
  obtain ⟨f5, hf⟩ := fc_un (show (20 : Nat) < 100 from by decide) hf
  have f5 : 1 * w_fi w1 (n_v vs 0) 150 + ((-1) * v_iv (n_v vs 4) + 0) ≤ 0 := f5
  obtain ⟨ta2, w2, le2, ⟨_, s2⟩, hf⟩ := fc_us (show ¬ (102 : Nat) < 100 from by decide) hf
  obtain ⟨f7, hf⟩ := fc_un (show (7 : Nat) < 100 from by decide) hf
  have f7 : v_iv (n_v vs 4) < v_iv (n_v vs 2) := f7
  have g3 : v_iv (n_v vs 5) = w_fi w1 (n_v vs 0) 150 := congrArg v_iv f3
  have fe_0_150_1 : w_fi ws (n_v vs 0) 150 = v_iv (n_v vs 10) := by show v_iv (w_fd _ _ _) = _; rw [s1.2, if_pos ⟨rfl, rfl⟩]
  have kz_0_150 : 0 ≤ w_fi ws (n_v vs 0) 150 ∧ w_fi ws (n_v vs 0) 150 ≤ 48 := tv_rng (th_fd hD hth r0 (g := GG_150) rfl (k := 150) (t := (0, 0, 48, [])) rfl rfl)
  have nf0 : fc_1 (20, [0, 11], [30, 0, 1, 1, 150, -1, 0, 0]) ws (vs) := by
    refine ⟨fun n hn => ?_, ?_⟩
    · have hn : n ∈ [0, 11] := hn
      rw [hl]
      simp only [List.mem_cons, List.not_mem_nil, or_false] at hn
      show n < 12; omega
    · show 1 * w_fi ws (n_v vs 0) 150 + ((-1) * v_iv (n_v vs 11) + 0) ≤ 0
      omega
  refine ⟨(fun _ h => (by cases h)), [], trivial, ?_, (fun _ h => (by cases h))⟩
  rw [List.append_nil]
  exact List.forall_mem_cons.mpr ⟨⟨show (20 : Nat) < 100 from by decide, nf0⟩, (fun _ h => (by cases h))⟩
def n_Mo_label_an : List an_T := [(52, [(0, (2, 0, 0, [150])), (1, (0, -2147483648, 2147483647, [])), (2, (0, 0, 47, [])), (3, (0, 0, 1, [])), (4, (0, 0, 47, []))], [], (0, 0), [(0, 0, 99948), (1, 4, 47), (0, 0, 100000)], [(2, 3, -1000000000000, 47), (2, 4, -1000000000000, 47), (2, 5, -1000000000000, 47), (3, 2, -1000000000000, 1), (3, 4, -1000000000000, 1), (3, 5, -1000000000000, 1), (4, 2, -1000000000000, 0), (5, 2, -1000000000000, 0), (5, 4, -1000000000000, 0)], [((0, 150), (0, 0, 47, []))], [], 0, [], [(20, [0, 4], [30, 0, 1, 1, 150, -1, 0, 0])])]
def t_Mo_label_ct : ct_L := [(0, 387, e_Mo_in), (1, 401, e_Mo_edges), (1, 737, e_Mo_weight), (1, 1032, e_Mo_isDrawn), (1, 1082, e_Mo_finds)]
set_option maxRecDepth 100000 in
theorem c_Mo_label {l : Launch} {D : va_G} {kA : Nat → ClassId} (h_Mo_edges : ct_ok l D kA GG y_Mo_edges z_Mo_edges e_Mo_edges) (h_Mo_finds : ct_ok l D kA GG y_Mo_finds z_Mo_finds e_Mo_finds) (h_Mo_in : ct_ok l D kA GG y_Mo_in z_Mo_in e_Mo_in) (h_Mo_isDrawn : ct_ok l D kA GG y_Mo_isDrawn z_Mo_isDrawn e_Mo_isDrawn) (h_Mo_weight : ct_ok l D kA GG y_Mo_weight z_Mo_weight e_Mo_weight) : ct_ok l D kA GG y_Mo_label z_Mo_label e_Mo_label := chk_all_ok (FT := [(336, 13, 151), (339, 13, 152), (1079, 13, 150)]) (PT := [(1079, 13, 150, .int)]) (CT := t_Mo_label_ct) (KT := [(1, 775, .int (Int32.ofInt (-2147483648)), (0, -2147483648, -2147483648, []))]) (NT := []) (AN := n_Mo_label_an) (OT := [o_Mo_label_0, o_Mo_label_1, o_Mo_label_2, o_Mo_label_3, o_Mo_label_4, o_Mo_label_5]) 3 356 (List.forall_mem_cons.mpr ⟨oo_Mo_label_0, List.forall_mem_cons.mpr ⟨oo_Mo_label_1, List.forall_mem_cons.mpr ⟨oo_Mo_label_2, List.forall_mem_cons.mpr ⟨oo_Mo_label_3, List.forall_mem_cons.mpr ⟨oo_Mo_label_4, List.forall_mem_cons.mpr ⟨oo_Mo_label_5, List.forall_mem_nil _⟩⟩⟩⟩⟩⟩) (by decide +kernel) ⟨List.forall_mem_cons.mpr ⟨gf_Mo_336, List.forall_mem_cons.mpr ⟨gf_Mo_339, List.forall_mem_cons.mpr ⟨gf_Mo_1079, List.forall_mem_nil _⟩⟩⟩, List.forall_mem_cons.mpr ⟨pf_Mo_1079, List.forall_mem_nil _⟩, List.forall_mem_cons.mpr ⟨cl_static (y := y_Mo_in) h_Mo_in wm_2971 wm_9 wm_2969 wm_2970 ⟨by decide, by decide, by decide +kernel⟩ (by decide), List.forall_mem_cons.mpr ⟨cl_virtual (y := y_Mo_edges) (ci := 13) rfl rfl ⟨_, _, rfl⟩ (by decide +kernel) h_Mo_edges wm_3037 wm_9 wm_3034 wm_3036 wv_13_6 ⟨by decide, by decide, by decide +kernel⟩ (by decide), List.forall_mem_cons.mpr ⟨cl_virtual (y := y_Mo_weight) (ci := 13) rfl rfl ⟨_, _, rfl⟩ (by decide +kernel) h_Mo_weight wm_3339 wm_9 wm_3336 wm_3338 wv_17_7 ⟨by decide, by decide, by decide +kernel⟩ (by decide), List.forall_mem_cons.mpr ⟨cl_virtual (y := y_Mo_isDrawn) (ci := 13) rfl rfl ⟨_, _, rfl⟩ (by decide +kernel) h_Mo_isDrawn wm_3669 wm_9 wm_3666 wm_3668 wv_21_13 ⟨by decide, by decide, by decide +kernel⟩ (by decide), List.forall_mem_cons.mpr ⟨cl_virtual (y := y_Mo_finds) (ci := 13) rfl rfl ⟨_, _, rfl⟩ (by decide +kernel) h_Mo_finds wm_3722 wm_9 wm_3719 wm_3721 wv_22_7 ⟨by decide, by decide, by decide +kernel⟩ (by decide), List.forall_mem_nil _⟩⟩⟩⟩⟩, List.forall_mem_cons.mpr ⟨kx_Mo_1_775, List.forall_mem_nil _⟩, List.forall_mem_nil _, GG_pl⟩ (by decide +kernel)
def o_Re_readGroup_0 : or_T := (27, 6, [(0, (2, 0, 0, [8]))], [], [], [(0, -2147483648, 1000000, [])], [(20, [0, 6], [30, 0, 1, 1, 9, -1, 0, 0]), (20, [0, 6], [30, 0, -1, 1, 9, 1, 0, 0])], [], [])
theorem oo_Re_readGroup_0 {kA : Nat → ClassId} : or_ok kA GG o_Re_readGroup_0 := by
  intro A ta ws vs hD hth hl hk hds hf
  have hl : vs.length = 6 := hl
  have hk : ∀ q ∈ ([(0, (2, 0, 0, [8]))] : List (Nat × tv_T)), tv_ok ta q.2 (n_v vs q.1) := hk
  obtain ⟨t0, hk⟩ := List.forall_mem_cons.mp hk
  have t0 : tv_ok ta (2, 0, 0, [8]) (n_v vs 0) := t0
  have r0 : ta (v_ad (n_v vs 0)) = some 8 := tv_rg t0
  have kz_0_9 : (-2147483648) ≤ w_fi ws (n_v vs 0) 9 ∧ w_fi ws (n_v vs 0) 9 ≤ 1000000 := tv_rng (th_fd hD hth r0 (g := GG_8) rfl (k := 9) (t := (0, -2147483648, 1000000, [])) rfl rfl)
  have kv0 : (-2147483648) ≤ w_fi ws (n_v vs 0) 9 ∧ w_fi ws (n_v vs 0) 9 ≤ 1000000 := tv_rng (th_fd hD hth r0 (g := GG_8) rfl (k := 9) (t := (0, -2147483648, 1000000, [])) rfl rfl)
  obtain ⟨x, ex, hx⟩ := iv_ex (ta := ta) (lo := (-2147483648)) (hi := 1000000) (z := w_fi ws (n_v vs 0) 9) (by omega) (by omega) (by omega) (by omega)
  have ex2 : v_iv (Value.int x) = w_fi ws (n_v vs 0) 9 := ex
  have ex3 : (-2147483648) ≤ v_iv (Value.int x) ∧ v_iv (Value.int x) ≤ 1000000 := tv_rng hx
  have e_0 : n_v (vs ++ [Value.int x]) 0 = n_v vs 0 := n_v_old (by rw [hl]; decide)
  have e_6 : n_v (vs ++ [Value.int x]) 6 = Value.int x := n_v_new hl
  have nf0 : fc_1 (20, [0, 6], [30, 0, 1, 1, 9, -1, 0, 0]) ws (vs ++ [Value.int x]) := by
    refine ⟨fun n hn => ?_, ?_⟩
    · have hn : n ∈ [0, 6] := hn
      rw [List.length_append, hl]
      simp only [List.mem_cons, List.not_mem_nil, or_false] at hn
      show n < 6 + 1; omega
    · show 1 * w_fi ws (n_v (vs ++ [Value.int x]) 0) 9 + ((-1) * v_iv (n_v (vs ++ [Value.int x]) 6) + 0) ≤ 0
      rw [e_0]
      rw [e_6]
      omega
  have nf1 : fc_1 (20, [0, 6], [30, 0, -1, 1, 9, 1, 0, 0]) ws (vs ++ [Value.int x]) := by
    refine ⟨fun n hn => ?_, ?_⟩
    · have hn : n ∈ [0, 6] := hn
      rw [List.length_append, hl]
      simp only [List.mem_cons, List.not_mem_nil, or_false] at hn
      show n < 6 + 1; omega
    · show (-1) * w_fi ws (n_v (vs ++ [Value.int x]) 0) 9 + (1 * v_iv (n_v (vs ++ [Value.int x]) 6) + 0) ≤ 0
      rw [e_0]
      rw [e_6]
      omega
  exact ⟨(fun _ h => (by cases h)), [Value.int x], ag_one hx, List.forall_mem_cons.mpr ⟨⟨show (20 : Nat) < 100 from by decide, nf0⟩, List.forall_mem_cons.mpr ⟨⟨show (20 : Nat) < 100 from by decide, nf1⟩, (fun _ h => (by cases h))⟩⟩, (fun _ h => (by cases h))⟩
def o_Re_readGroup_1 : or_T := (86, 15, [(0, (2, 0, 0, [8])), (1, (2, 0, 0, [3])), (6, (0, -2147483648, 1000000, [])), (7, (0, 1, 1, [])), (8, (2, 0, 0, [56])), (12, (0, 0, 2000, [])), (13, (0, 0, 2000, [])), (14, (0, -2000, 2000, []))], [(2, [14, 12, 13], []), (9, [13, 0], [8]), (9, [12, 0], [6]), (20, [0, 0, 6], [31, 1, 3, 1, 1, 7, 0, 1, 1, 9, -1, 0, 0]), (20, [0, 0, 6], [31, 1, 3, 1, 1, 7, 0, -1, 1, 9, 1, 0, 0]), (20, [0, 0, 0, 0], [31, 1, -3, -1, 1, 7, 4008, 1, 1, 6, -1, 1, 8, 2000, 1, 7]), (20, [0, 0], [30, 0, 1, 1, 8, -1, 1, 6]), (20, [0, 0, 7], [30, 2008, 1, 1, 6, -1, 1, 8, 2000, 0, 0]), (100, [8, 2, 10], []), (9, [8, 1], [11]), (8, [7], [1]), (20, [0, 0, 6], [31, 1, 3, 1, 1, 7, 0, 1, 1, 9, -1, 0, 0]), (20, [0, 0, 6], [31, 1, 3, 1, 1, 7, 0, -1, 1, 9, 1, 0, 0]), (20, [0, 0, 0, 0], [31, 1, -3, -1, 1, 7, 4008, 1, 1, 6, -1, 1, 8, 2000, 1, 7]), (20, [0, 0], [30, 0, 1, 1, 8, -1, 1, 6]), (20, [0, 0, 7], [30, 2008, 1, 1, 6, -1, 1, 8, 2000, 0, 0])], [(14, (0, 0, 8, []))], [], [], [], [(14, 12, -2000, 0)])
theorem oo_Re_readGroup_1 {kA : Nat → ClassId} : or_ok kA GG o_Re_readGroup_1 := by
  intro A ta ws vs hD hth hl hk hds hf
  have hl : vs.length = 15 := hl
  have hk : ∀ q ∈ ([(0, (2, 0, 0, [8])), (1, (2, 0, 0, [3])), (6, (0, -2147483648, 1000000, [])), (7, (0, 1, 1, [])), (8, (2, 0, 0, [56])), (12, (0, 0, 2000, [])), (13, (0, 0, 2000, [])), (14, (0, -2000, 2000, []))] : List (Nat × tv_T)), tv_ok ta q.2 (n_v vs q.1) := hk
  obtain ⟨t0, hk⟩ := List.forall_mem_cons.mp hk
  have t0 : tv_ok ta (2, 0, 0, [8]) (n_v vs 0) := t0
  have r0 : ta (v_ad (n_v vs 0)) = some 8 := tv_rg t0
  obtain ⟨t1, hk⟩ := List.forall_mem_cons.mp hk
  have t1 : tv_ok ta (2, 0, 0, [3]) (n_v vs 1) := t1
  have r1 : ta (v_ad (n_v vs 1)) = some 3 := tv_rg t1
  obtain ⟨t6, hk⟩ := List.forall_mem_cons.mp hk
  have t6 : tv_ok ta (0, -2147483648, 1000000, []) (n_v vs 6) := t6
  have k6 : (-2147483648) ≤ v_iv (n_v vs 6) ∧ v_iv (n_v vs 6) ≤ 1000000 := tv_rng t6
  obtain ⟨t7, hk⟩ := List.forall_mem_cons.mp hk
  have t7 : tv_ok ta (0, 1, 1, []) (n_v vs 7) := t7
  have k7 : 1 ≤ v_iv (n_v vs 7) ∧ v_iv (n_v vs 7) ≤ 1 := tv_rng t7
  obtain ⟨t8, hk⟩ := List.forall_mem_cons.mp hk
  have t8 : tv_ok ta (2, 0, 0, [56]) (n_v vs 8) := t8
  have r8 : ta (v_ad (n_v vs 8)) = some 56 := tv_rg t8
  obtain ⟨t12, hk⟩ := List.forall_mem_cons.mp hk
  have t12 : tv_ok ta (0, 0, 2000, []) (n_v vs 12) := t12
  have k12 : 0 ≤ v_iv (n_v vs 12) ∧ v_iv (n_v vs 12) ≤ 2000 := tv_rng t12
  obtain ⟨t13, hk⟩ := List.forall_mem_cons.mp hk
  have t13 : tv_ok ta (0, 0, 2000, []) (n_v vs 13) := t13
  have k13 : 0 ≤ v_iv (n_v vs 13) ∧ v_iv (n_v vs 13) ≤ 2000 := tv_rng t13
  obtain ⟨t14, hk⟩ := List.forall_mem_cons.mp hk
  have t14 : tv_ok ta (0, -2000, 2000, []) (n_v vs 14) := t14
  have k14 : (-2000) ≤ v_iv (n_v vs 14) ∧ v_iv (n_v vs 14) ≤ 2000 := tv_rng t14
  have hds : ∀ q ∈ ([(14, 12, -2000, 0)] : List of_T), n_iv vs q.2.1 + q.2.2.1 ≤ n_iv vs q.1 ∧ n_iv vs q.1 ≤ n_iv vs q.2.1 + q.2.2.2 := hds
  obtain ⟨d0, hds⟩ := List.forall_mem_cons.mp hds
  have d0 : v_iv (n_v vs 12) + (-2000) ≤ v_iv (n_v vs 14) ∧ v_iv (n_v vs 14) ≤ v_iv (n_v vs 12) + 0 := d0
  have hf : fc_ok [(2, [14, 12, 13], []), (9, [13, 0], [8]), (9, [12, 0], [6]), (20, [0, 0, 6], [31, 1, 3, 1, 1, 7, 0, 1, 1, 9, -1, 0, 0]), (20, [0, 0, 6], [31, 1, 3, 1, 1, 7, 0, -1, 1, 9, 1, 0, 0]), (20, [0, 0, 0, 0], [31, 1, -3, -1, 1, 7, 4008, 1, 1, 6, -1, 1, 8, 2000, 1, 7]), (20, [0, 0], [30, 0, 1, 1, 8, -1, 1, 6]), (20, [0, 0, 7], [30, 2008, 1, 1, 6, -1, 1, 8, 2000, 0, 0]), (100, [8, 2, 10], []), (9, [8, 1], [11]), (8, [7], [1]), (20, [0, 0, 6], [31, 1, 3, 1, 1, 7, 0, 1, 1, 9, -1, 0, 0]), (20, [0, 0, 6], [31, 1, 3, 1, 1, 7, 0, -1, 1, 9, 1, 0, 0]), (20, [0, 0, 0, 0], [31, 1, -3, -1, 1, 7, 4008, 1, 1, 6, -1, 1, 8, 2000, 1, 7]), (20, [0, 0], [30, 0, 1, 1, 8, -1, 1, 6]), (20, [0, 0, 7], [30, 2008, 1, 1, 6, -1, 1, 8, 2000, 0, 0])] ta ws vs := hf
  obtain ⟨f0, hf⟩ := fc_un (show (2 : Nat) < 100 from by decide) hf
  have f0 : v_iv (n_v vs 14) = v_iv (n_v vs 12) - v_iv (n_v vs 13) := f0
  obtain ⟨f1, hf⟩ := fc_un (show (9 : Nat) < 100 from by decide) hf
  have f1 : n_v vs 13 = w_fd ws (v_ad (n_v vs 0)) 8 := f1
  obtain ⟨f2, hf⟩ := fc_un (show (9 : Nat) < 100 from by decide) hf
  have f2 : n_v vs 12 = w_fd ws (v_ad (n_v vs 0)) 6 := f2
  obtain ⟨f3, hf⟩ := fc_un (show (20 : Nat) < 100 from by decide) hf
  have f3 : (1 * w_fi ws (n_v vs 0) 7 + 0 ≤ 3) ∨ (1 * w_fi ws (n_v vs 0) 9 + ((-1) * v_iv (n_v vs 6) + 0) ≤ 0) := f3
  obtain ⟨f4, hf⟩ := fc_un (show (20 : Nat) < 100 from by decide) hf
  have f4 : (1 * w_fi ws (n_v vs 0) 7 + 0 ≤ 3) ∨ ((-1) * w_fi ws (n_v vs 0) 9 + (1 * v_iv (n_v vs 6) + 0) ≤ 0) := f4
  obtain ⟨f5, hf⟩ := fc_un (show (20 : Nat) < 100 from by decide) hf
  have f5 : ((-1) * w_fi ws (n_v vs 0) 7 + 0 ≤ (-3)) ∨ (1 * w_fi ws (n_v vs 0) 6 + ((-1) * w_fi ws (n_v vs 0) 8 + (2000 * w_fi ws (n_v vs 0) 7 + 0)) ≤ 4008) := f5
  obtain ⟨f6, hf⟩ := fc_un (show (20 : Nat) < 100 from by decide) hf
  have f6 : 1 * w_fi ws (n_v vs 0) 8 + ((-1) * w_fi ws (n_v vs 0) 6 + 0) ≤ 0 := f6
  obtain ⟨f7, hf⟩ := fc_un (show (20 : Nat) < 100 from by decide) hf
  have f7 : 1 * w_fi ws (n_v vs 0) 6 + ((-1) * w_fi ws (n_v vs 0) 8 + (2000 * v_iv (n_v vs 7) + 0)) ≤ 2008 := f7
  obtain ⟨ta1, w1, le1, ⟨_, s1⟩, hf⟩ := fc_us (show ¬ (100 : Nat) < 100 from by decide) hf
  have s1 : (∀ b j, w_el ws b j = if b = v_ad (n_v vs 8) ∧ j = (v_iv (n_v vs 2)).toNat then v_iv (n_v vs 10) else w_el w1 b j) ∧ ∀ b k, w_fd ws b k = w_fd w1 b k := s1
  obtain ⟨f9, hf⟩ := fc_un (show (9 : Nat) < 100 from by decide) hf
  have f9 : n_v vs 8 = w_fd w1 (v_ad (n_v vs 1)) 11 := f9
  obtain ⟨f10, hf⟩ := fc_un (show (8 : Nat) < 100 from by decide) hf
  have f10 : v_iv (n_v vs 7) ≠ 0 := f10
  obtain ⟨f11, hf⟩ := fc_un (show (20 : Nat) < 100 from by decide) hf
  have f11 : (1 * w_fi w1 (n_v vs 0) 7 + 0 ≤ 3) ∨ (1 * w_fi w1 (n_v vs 0) 9 + ((-1) * v_iv (n_v vs 6) + 0) ≤ 0) := f11
  obtain ⟨f12, hf⟩ := fc_un (show (20 : Nat) < 100 from by decide) hf
  have f12 : (1 * w_fi w1 (n_v vs 0) 7 + 0 ≤ 3) ∨ ((-1) * w_fi w1 (n_v vs 0) 9 + (1 * v_iv (n_v vs 6) + 0) ≤ 0) := f12
  obtain ⟨f13, hf⟩ := fc_un (show (20 : Nat) < 100 from by decide) hf
  have f13 : ((-1) * w_fi w1 (n_v vs 0) 7 + 0 ≤ (-3)) ∨ (1 * w_fi w1 (n_v vs 0) 6 + ((-1) * w_fi w1 (n_v vs 0) 8 + (2000 * w_fi w1 (n_v vs 0) 7 + 0)) ≤ 4008) := f13
  obtain ⟨f14, hf⟩ := fc_un (show (20 : Nat) < 100 from by decide) hf
  have f14 : 1 * w_fi w1 (n_v vs 0) 8 + ((-1) * w_fi w1 (n_v vs 0) 6 + 0) ≤ 0 := f14
  obtain ⟨f15, hf⟩ := fc_un (show (20 : Nat) < 100 from by decide) hf
  have f15 : 1 * w_fi w1 (n_v vs 0) 6 + ((-1) * w_fi w1 (n_v vs 0) 8 + (2000 * v_iv (n_v vs 7) + 0)) ≤ 2008 := f15
  have ar_1_11_1 : w_ar w1 (n_v vs 1) 11 = w_ar ws (n_v vs 1) 11 := by show v_ad (w_fd w1 _ _) = v_ad (w_fd ws _ _); rw [s1.2]
  have cr_1_11 : ta (w_ar ws (n_v vs 1) 11) = some 56 := tv_rg (th_fd hD hth r1 (g := GG_3) rfl (k := 11) (t := (2, 0, 0, [56])) rfl rfl)
  have ad_8 : v_ad (n_v vs 8) = w_ar ws (n_v vs 1) 11 := (congrArg v_ad f9).trans ar_1_11_1
  have g1 : v_iv (n_v vs 13) = w_fi ws (n_v vs 0) 8 := congrArg v_iv f1
  have g2 : v_iv (n_v vs 12) = w_fi ws (n_v vs 0) 6 := congrArg v_iv f2
  have fe_0_6_1 : w_fi ws (n_v vs 0) 6 = w_fi w1 (n_v vs 0) 6 := congrArg v_iv (s1.2 _ _)
  have fe_0_7_1 : w_fi ws (n_v vs 0) 7 = w_fi w1 (n_v vs 0) 7 := congrArg v_iv (s1.2 _ _)
  have fe_0_8_1 : w_fi ws (n_v vs 0) 8 = w_fi w1 (n_v vs 0) 8 := congrArg v_iv (s1.2 _ _)
  have fe_0_9_1 : w_fi ws (n_v vs 0) 9 = w_fi w1 (n_v vs 0) 9 := congrArg v_iv (s1.2 _ _)
  have kz_0_6 : 0 ≤ w_fi ws (n_v vs 0) 6 ∧ w_fi ws (n_v vs 0) 6 ≤ 2000 := tv_rng (th_fd hD hth r0 (g := GG_8) rfl (k := 6) (t := (0, 0, 2000, [])) rfl rfl)
  have kz_0_7 : (-128) ≤ w_fi ws (n_v vs 0) 7 ∧ w_fi ws (n_v vs 0) 7 ≤ 127 := tv_rng (th_fd hD hth r0 (g := GG_8) rfl (k := 7) (t := (0, -128, 127, [])) rfl rfl)
  have kz_0_8 : 0 ≤ w_fi ws (n_v vs 0) 8 ∧ w_fi ws (n_v vs 0) 8 ≤ 2000 := tv_rng (th_fd hD hth r0 (g := GG_8) rfl (k := 8) (t := (0, 0, 2000, [])) rfl rfl)
  have kz_0_9 : (-2147483648) ≤ w_fi ws (n_v vs 0) 9 ∧ w_fi ws (n_v vs 0) 9 ≤ 1000000 := tv_rng (th_fd hD hth r0 (g := GG_8) rfl (k := 9) (t := (0, -2147483648, 1000000, [])) rfl rfl)
  have rf14 : tv_ok ta (0, 0, 8, []) (n_v vs 14) := tv_in t14 (by omega) (by omega)
  refine ⟨List.forall_mem_cons.mpr ⟨rf14, (fun _ h => (by cases h))⟩, [], trivial, ?_, (fun _ h => (by cases h))⟩
  rw [List.append_nil]
  exact (fun _ h => (by cases h))
def o_Re_readGroup_2 : or_T := (115, 20, [(0, (2, 0, 0, [8])), (1, (2, 0, 0, [3])), (2, (0, 0, 7, [])), (3, (0, 8, 8, [])), (6, (0, -2147483648, 1000000, [])), (7, (0, 1, 1, [])), (8, (2, 0, 0, [56])), (11, (2, 0, 0, [58])), (12, (0, 0, 2000, [])), (13, (0, 0, 2000, [])), (14, (0, 0, 8, [])), (17, (0, 8, 8, [])), (18, (0, 0, 56, [])), (19, (0, -2000, 2000, []))], [(2, [19, 12, 13], []), (9, [13, 0], [8]), (9, [12, 0], [6]), (3, [18, 2, 17], []), (20, [0, 0, 6], [31, 1, 3, 1, 1, 7, 0, 1, 1, 9, -1, 0, 0]), (20, [0, 0, 6], [31, 1, 3, 1, 1, 7, 0, -1, 1, 9, 1, 0, 0]), (20, [0, 0, 0, 0], [31, 1, -3, -1, 1, 7, 4008, 1, 1, 6, -1, 1, 8, 2000, 1, 7]), (20, [0, 0], [30, 0, 1, 1, 8, -1, 1, 6]), (20, [0, 0, 7], [30, 2008, 1, 1, 6, -1, 1, 8, 2000, 0, 0]), (100, [11, 2, 14], []), (2, [14, 12, 13], []), (9, [11, 1], [13]), (20, [0, 0, 6], [31, 1, 3, 1, 1, 7, 0, 1, 1, 9, -1, 0, 0]), (20, [0, 0, 6], [31, 1, 3, 1, 1, 7, 0, -1, 1, 9, 1, 0, 0]), (20, [0, 0, 0, 0], [31, 1, -3, -1, 1, 7, 4008, 1, 1, 6, -1, 1, 8, 2000, 1, 7]), (20, [0, 0], [30, 0, 1, 1, 8, -1, 1, 6]), (20, [0, 0, 7], [30, 2008, 1, 1, 6, -1, 1, 8, 2000, 0, 0]), (100, [8, 2, 10], []), (9, [8, 1], [11]), (9, [2, 1], [2]), (8, [7], [1]), (20, [0, 0, 6], [31, 1, 3, 1, 1, 7, 0, 1, 1, 9, -1, 0, 0]), (20, [0, 0, 6], [31, 1, 3, 1, 1, 7, 0, -1, 1, 9, 1, 0, 0]), (20, [0, 0, 0, 0], [31, 1, -3, -1, 1, 7, 4008, 1, 1, 6, -1, 1, 8, 2000, 1, 7]), (20, [0, 0], [30, 0, 1, 1, 8, -1, 1, 6]), (20, [0, 0, 7], [30, 2008, 1, 1, 6, -1, 1, 8, 2000, 0, 0]), (102, [6], [0]), (102, [6], [0, 8006, 8007, 8008, 8009]), (7, [2, 3], [2])], [(19, (0, 0, 64, []))], [], [(21, [13, 19], [2000]), (21, [18, 19], [64])], [], [(19, 12, -2000, 0), (14, 12, -2000, 0)])
theorem oo_Re_readGroup_2 {kA : Nat → ClassId} : or_ok kA GG o_Re_readGroup_2 := by
  intro A ta ws vs hD hth hl hk hds hf
  have hl : vs.length = 20 := hl
  have hk : ∀ q ∈ ([(0, (2, 0, 0, [8])), (1, (2, 0, 0, [3])), (2, (0, 0, 7, [])), (3, (0, 8, 8, [])), (6, (0, -2147483648, 1000000, [])), (7, (0, 1, 1, [])), (8, (2, 0, 0, [56])), (11, (2, 0, 0, [58])), (12, (0, 0, 2000, [])), (13, (0, 0, 2000, [])), (14, (0, 0, 8, [])), (17, (0, 8, 8, [])), (18, (0, 0, 56, [])), (19, (0, -2000, 2000, []))] : List (Nat × tv_T)), tv_ok ta q.2 (n_v vs q.1) := hk
  obtain ⟨t0, hk⟩ := List.forall_mem_cons.mp hk
  have t0 : tv_ok ta (2, 0, 0, [8]) (n_v vs 0) := t0
  have r0 : ta (v_ad (n_v vs 0)) = some 8 := tv_rg t0
  obtain ⟨t1, hk⟩ := List.forall_mem_cons.mp hk
  have t1 : tv_ok ta (2, 0, 0, [3]) (n_v vs 1) := t1
  have r1 : ta (v_ad (n_v vs 1)) = some 3 := tv_rg t1
  obtain ⟨t2, hk⟩ := List.forall_mem_cons.mp hk
  have t2 : tv_ok ta (0, 0, 7, []) (n_v vs 2) := t2
  have k2 : 0 ≤ v_iv (n_v vs 2) ∧ v_iv (n_v vs 2) ≤ 7 := tv_rng t2
  obtain ⟨t3, hk⟩ := List.forall_mem_cons.mp hk
  have t3 : tv_ok ta (0, 8, 8, []) (n_v vs 3) := t3
  have k3 : 8 ≤ v_iv (n_v vs 3) ∧ v_iv (n_v vs 3) ≤ 8 := tv_rng t3
  obtain ⟨t6, hk⟩ := List.forall_mem_cons.mp hk
  have t6 : tv_ok ta (0, -2147483648, 1000000, []) (n_v vs 6) := t6
  have k6 : (-2147483648) ≤ v_iv (n_v vs 6) ∧ v_iv (n_v vs 6) ≤ 1000000 := tv_rng t6
  obtain ⟨t7, hk⟩ := List.forall_mem_cons.mp hk
  have t7 : tv_ok ta (0, 1, 1, []) (n_v vs 7) := t7
  have k7 : 1 ≤ v_iv (n_v vs 7) ∧ v_iv (n_v vs 7) ≤ 1 := tv_rng t7
  obtain ⟨t8, hk⟩ := List.forall_mem_cons.mp hk
  have t8 : tv_ok ta (2, 0, 0, [56]) (n_v vs 8) := t8
  have r8 : ta (v_ad (n_v vs 8)) = some 56 := tv_rg t8
  obtain ⟨t11, hk⟩ := List.forall_mem_cons.mp hk
  have t11 : tv_ok ta (2, 0, 0, [58]) (n_v vs 11) := t11
  have r11 : ta (v_ad (n_v vs 11)) = some 58 := tv_rg t11
  obtain ⟨t12, hk⟩ := List.forall_mem_cons.mp hk
  have t12 : tv_ok ta (0, 0, 2000, []) (n_v vs 12) := t12
  have k12 : 0 ≤ v_iv (n_v vs 12) ∧ v_iv (n_v vs 12) ≤ 2000 := tv_rng t12
  obtain ⟨t13, hk⟩ := List.forall_mem_cons.mp hk
  have t13 : tv_ok ta (0, 0, 2000, []) (n_v vs 13) := t13
  have k13 : 0 ≤ v_iv (n_v vs 13) ∧ v_iv (n_v vs 13) ≤ 2000 := tv_rng t13
  obtain ⟨t14, hk⟩ := List.forall_mem_cons.mp hk
  have t14 : tv_ok ta (0, 0, 8, []) (n_v vs 14) := t14
  have k14 : 0 ≤ v_iv (n_v vs 14) ∧ v_iv (n_v vs 14) ≤ 8 := tv_rng t14
  obtain ⟨t17, hk⟩ := List.forall_mem_cons.mp hk
  have t17 : tv_ok ta (0, 8, 8, []) (n_v vs 17) := t17
  have k17 : 8 ≤ v_iv (n_v vs 17) ∧ v_iv (n_v vs 17) ≤ 8 := tv_rng t17
  obtain ⟨t18, hk⟩ := List.forall_mem_cons.mp hk
  have t18 : tv_ok ta (0, 0, 56, []) (n_v vs 18) := t18
  have k18 : 0 ≤ v_iv (n_v vs 18) ∧ v_iv (n_v vs 18) ≤ 56 := tv_rng t18
  obtain ⟨t19, hk⟩ := List.forall_mem_cons.mp hk
  have t19 : tv_ok ta (0, -2000, 2000, []) (n_v vs 19) := t19
  have k19 : (-2000) ≤ v_iv (n_v vs 19) ∧ v_iv (n_v vs 19) ≤ 2000 := tv_rng t19
  have hds : ∀ q ∈ ([(19, 12, -2000, 0), (14, 12, -2000, 0)] : List of_T), n_iv vs q.2.1 + q.2.2.1 ≤ n_iv vs q.1 ∧ n_iv vs q.1 ≤ n_iv vs q.2.1 + q.2.2.2 := hds
  obtain ⟨d0, hds⟩ := List.forall_mem_cons.mp hds
  have d0 : v_iv (n_v vs 12) + (-2000) ≤ v_iv (n_v vs 19) ∧ v_iv (n_v vs 19) ≤ v_iv (n_v vs 12) + 0 := d0
  obtain ⟨d1, hds⟩ := List.forall_mem_cons.mp hds
  have d1 : v_iv (n_v vs 12) + (-2000) ≤ v_iv (n_v vs 14) ∧ v_iv (n_v vs 14) ≤ v_iv (n_v vs 12) + 0 := d1
  have hf : fc_ok [(2, [19, 12, 13], []), (9, [13, 0], [8]), (9, [12, 0], [6]), (3, [18, 2, 17], []), (20, [0, 0, 6], [31, 1, 3, 1, 1, 7, 0, 1, 1, 9, -1, 0, 0]), (20, [0, 0, 6], [31, 1, 3, 1, 1, 7, 0, -1, 1, 9, 1, 0, 0]), (20, [0, 0, 0, 0], [31, 1, -3, -1, 1, 7, 4008, 1, 1, 6, -1, 1, 8, 2000, 1, 7]), (20, [0, 0], [30, 0, 1, 1, 8, -1, 1, 6]), (20, [0, 0, 7], [30, 2008, 1, 1, 6, -1, 1, 8, 2000, 0, 0]), (100, [11, 2, 14], []), (2, [14, 12, 13], []), (9, [11, 1], [13]), (20, [0, 0, 6], [31, 1, 3, 1, 1, 7, 0, 1, 1, 9, -1, 0, 0]), (20, [0, 0, 6], [31, 1, 3, 1, 1, 7, 0, -1, 1, 9, 1, 0, 0]), (20, [0, 0, 0, 0], [31, 1, -3, -1, 1, 7, 4008, 1, 1, 6, -1, 1, 8, 2000, 1, 7]), (20, [0, 0], [30, 0, 1, 1, 8, -1, 1, 6]), (20, [0, 0, 7], [30, 2008, 1, 1, 6, -1, 1, 8, 2000, 0, 0]), (100, [8, 2, 10], []), (9, [8, 1], [11]), (9, [2, 1], [2]), (8, [7], [1]), (20, [0, 0, 6], [31, 1, 3, 1, 1, 7, 0, 1, 1, 9, -1, 0, 0]), (20, [0, 0, 6], [31, 1, 3, 1, 1, 7, 0, -1, 1, 9, 1, 0, 0]), (20, [0, 0, 0, 0], [31, 1, -3, -1, 1, 7, 4008, 1, 1, 6, -1, 1, 8, 2000, 1, 7]), (20, [0, 0], [30, 0, 1, 1, 8, -1, 1, 6]), (20, [0, 0, 7], [30, 2008, 1, 1, 6, -1, 1, 8, 2000, 0, 0]), (102, [6], [0]), (102, [6], [0, 8006, 8007, 8008, 8009]), (7, [2, 3], [2])] ta ws vs := hf
  obtain ⟨f0, hf⟩ := fc_un (show (2 : Nat) < 100 from by decide) hf
  have f0 : v_iv (n_v vs 19) = v_iv (n_v vs 12) - v_iv (n_v vs 13) := f0
  obtain ⟨f1, hf⟩ := fc_un (show (9 : Nat) < 100 from by decide) hf
  have f1 : n_v vs 13 = w_fd ws (v_ad (n_v vs 0)) 8 := f1
  obtain ⟨f2, hf⟩ := fc_un (show (9 : Nat) < 100 from by decide) hf
  have f2 : n_v vs 12 = w_fd ws (v_ad (n_v vs 0)) 6 := f2
  obtain ⟨f3, hf⟩ := fc_un (show (3 : Nat) < 100 from by decide) hf
  have f3 : v_iv (n_v vs 18) = v_iv (n_v vs 2) * v_iv (n_v vs 17) := f3
  rw [show v_iv (n_v vs 17) = 8 from by omega] at f3
  obtain ⟨f4, hf⟩ := fc_un (show (20 : Nat) < 100 from by decide) hf
  have f4 : (1 * w_fi ws (n_v vs 0) 7 + 0 ≤ 3) ∨ (1 * w_fi ws (n_v vs 0) 9 + ((-1) * v_iv (n_v vs 6) + 0) ≤ 0) := f4
  obtain ⟨f5, hf⟩ := fc_un (show (20 : Nat) < 100 from by decide) hf
  have f5 : (1 * w_fi ws (n_v vs 0) 7 + 0 ≤ 3) ∨ ((-1) * w_fi ws (n_v vs 0) 9 + (1 * v_iv (n_v vs 6) + 0) ≤ 0) := f5
  obtain ⟨f6, hf⟩ := fc_un (show (20 : Nat) < 100 from by decide) hf
  have f6 : ((-1) * w_fi ws (n_v vs 0) 7 + 0 ≤ (-3)) ∨ (1 * w_fi ws (n_v vs 0) 6 + ((-1) * w_fi ws (n_v vs 0) 8 + (2000 * w_fi ws (n_v vs 0) 7 + 0)) ≤ 4008) := f6
  obtain ⟨f7, hf⟩ := fc_un (show (20 : Nat) < 100 from by decide) hf
  have f7 : 1 * w_fi ws (n_v vs 0) 8 + ((-1) * w_fi ws (n_v vs 0) 6 + 0) ≤ 0 := f7
  obtain ⟨f8, hf⟩ := fc_un (show (20 : Nat) < 100 from by decide) hf
  have f8 : 1 * w_fi ws (n_v vs 0) 6 + ((-1) * w_fi ws (n_v vs 0) 8 + (2000 * v_iv (n_v vs 7) + 0)) ≤ 2008 := f8
  obtain ⟨ta1, w1, le1, ⟨_, s1⟩, hf⟩ := fc_us (show ¬ (100 : Nat) < 100 from by decide) hf
  have s1 : (∀ b j, w_el ws b j = if b = v_ad (n_v vs 11) ∧ j = (v_iv (n_v vs 2)).toNat then v_iv (n_v vs 14) else w_el w1 b j) ∧ ∀ b k, w_fd ws b k = w_fd w1 b k := s1
  obtain ⟨f10, hf⟩ := fc_un (show (2 : Nat) < 100 from by decide) hf
  have f10 : v_iv (n_v vs 14) = v_iv (n_v vs 12) - v_iv (n_v vs 13) := f10
  obtain ⟨f11, hf⟩ := fc_un (show (9 : Nat) < 100 from by decide) hf
  have f11 : n_v vs 11 = w_fd w1 (v_ad (n_v vs 1)) 13 := f11
  obtain ⟨f12, hf⟩ := fc_un (show (20 : Nat) < 100 from by decide) hf
  have f12 : (1 * w_fi w1 (n_v vs 0) 7 + 0 ≤ 3) ∨ (1 * w_fi w1 (n_v vs 0) 9 + ((-1) * v_iv (n_v vs 6) + 0) ≤ 0) := f12
  obtain ⟨f13, hf⟩ := fc_un (show (20 : Nat) < 100 from by decide) hf
  have f13 : (1 * w_fi w1 (n_v vs 0) 7 + 0 ≤ 3) ∨ ((-1) * w_fi w1 (n_v vs 0) 9 + (1 * v_iv (n_v vs 6) + 0) ≤ 0) := f13
  obtain ⟨f14, hf⟩ := fc_un (show (20 : Nat) < 100 from by decide) hf
  have f14 : ((-1) * w_fi w1 (n_v vs 0) 7 + 0 ≤ (-3)) ∨ (1 * w_fi w1 (n_v vs 0) 6 + ((-1) * w_fi w1 (n_v vs 0) 8 + (2000 * w_fi w1 (n_v vs 0) 7 + 0)) ≤ 4008) := f14
  obtain ⟨f15, hf⟩ := fc_un (show (20 : Nat) < 100 from by decide) hf
  have f15 : 1 * w_fi w1 (n_v vs 0) 8 + ((-1) * w_fi w1 (n_v vs 0) 6 + 0) ≤ 0 := f15
  obtain ⟨f16, hf⟩ := fc_un (show (20 : Nat) < 100 from by decide) hf
  have f16 : 1 * w_fi w1 (n_v vs 0) 6 + ((-1) * w_fi w1 (n_v vs 0) 8 + (2000 * v_iv (n_v vs 7) + 0)) ≤ 2008 := f16
  obtain ⟨ta2, w2, le2, ⟨_, s2⟩, hf⟩ := fc_us (show ¬ (100 : Nat) < 100 from by decide) hf
  have s2 : (∀ b j, w_el w1 b j = if b = v_ad (n_v vs 8) ∧ j = (v_iv (n_v vs 2)).toNat then v_iv (n_v vs 10) else w_el w2 b j) ∧ ∀ b k, w_fd w1 b k = w_fd w2 b k := s2
  obtain ⟨f18, hf⟩ := fc_un (show (9 : Nat) < 100 from by decide) hf
  have f18 : n_v vs 8 = w_fd w2 (v_ad (n_v vs 1)) 11 := f18
  obtain ⟨f19, hf⟩ := fc_un (show (9 : Nat) < 100 from by decide) hf
  have f19 : n_v vs 2 = w_fd w2 (v_ad (n_v vs 1)) 2 := f19
  obtain ⟨f20, hf⟩ := fc_un (show (8 : Nat) < 100 from by decide) hf
  have f20 : v_iv (n_v vs 7) ≠ 0 := f20
  obtain ⟨f21, hf⟩ := fc_un (show (20 : Nat) < 100 from by decide) hf
  have f21 : (1 * w_fi w2 (n_v vs 0) 7 + 0 ≤ 3) ∨ (1 * w_fi w2 (n_v vs 0) 9 + ((-1) * v_iv (n_v vs 6) + 0) ≤ 0) := f21
  obtain ⟨f22, hf⟩ := fc_un (show (20 : Nat) < 100 from by decide) hf
  have f22 : (1 * w_fi w2 (n_v vs 0) 7 + 0 ≤ 3) ∨ ((-1) * w_fi w2 (n_v vs 0) 9 + (1 * v_iv (n_v vs 6) + 0) ≤ 0) := f22
  obtain ⟨f23, hf⟩ := fc_un (show (20 : Nat) < 100 from by decide) hf
  have f23 : ((-1) * w_fi w2 (n_v vs 0) 7 + 0 ≤ (-3)) ∨ (1 * w_fi w2 (n_v vs 0) 6 + ((-1) * w_fi w2 (n_v vs 0) 8 + (2000 * w_fi w2 (n_v vs 0) 7 + 0)) ≤ 4008) := f23
  obtain ⟨f24, hf⟩ := fc_un (show (20 : Nat) < 100 from by decide) hf
  have f24 : 1 * w_fi w2 (n_v vs 0) 8 + ((-1) * w_fi w2 (n_v vs 0) 6 + 0) ≤ 0 := f24
  obtain ⟨f25, hf⟩ := fc_un (show (20 : Nat) < 100 from by decide) hf
  have f25 : 1 * w_fi w2 (n_v vs 0) 6 + ((-1) * w_fi w2 (n_v vs 0) 8 + (2000 * v_iv (n_v vs 7) + 0)) ≤ 2008 := f25
  obtain ⟨ta3, w3, le3, ⟨_, s3⟩, hf⟩ := fc_us (show ¬ (102 : Nat) < 100 from by decide) hf
  obtain ⟨ta4, w4, le4, ⟨_, s4⟩, hf⟩ := fc_us (show ¬ (102 : Nat) < 100 from by decide) hf
  obtain ⟨f28, hf⟩ := fc_un (show (7 : Nat) < 100 from by decide) hf
  have f28 : v_iv (n_v vs 2) < v_iv (n_v vs 3) := f28
  have ar_1_11_1 : w_ar w1 (n_v vs 1) 11 = w_ar ws (n_v vs 1) 11 := by show v_ad (w_fd w1 _ _) = v_ad (w_fd ws _ _); rw [s1.2]
  have ar_1_11_2 : w_ar w2 (n_v vs 1) 11 = w_ar ws (n_v vs 1) 11 := by rw [← ar_1_11_1]; show v_ad (w_fd w2 _ _) = v_ad (w_fd w1 _ _); rw [s2.2]
  have cr_1_11 : ta (w_ar ws (n_v vs 1) 11) = some 56 := tv_rg (th_fd hD hth r1 (g := GG_3) rfl (k := 11) (t := (2, 0, 0, [56])) rfl rfl)
  have ar_1_13_1 : w_ar w1 (n_v vs 1) 13 = w_ar ws (n_v vs 1) 13 := by show v_ad (w_fd w1 _ _) = v_ad (w_fd ws _ _); rw [s1.2]
  have ar_1_13_2 : w_ar w2 (n_v vs 1) 13 = w_ar ws (n_v vs 1) 13 := by rw [← ar_1_13_1]; show v_ad (w_fd w2 _ _) = v_ad (w_fd w1 _ _); rw [s2.2]
  have cr_1_13 : ta (w_ar ws (n_v vs 1) 13) = some 58 := tv_rg (th_fd hD hth r1 (g := GG_3) rfl (k := 13) (t := (2, 0, 0, [58])) rfl rfl)
  have ad_11 : v_ad (n_v vs 11) = w_ar ws (n_v vs 1) 13 := (congrArg v_ad f11).trans ar_1_13_1
  have ad_8 : v_ad (n_v vs 8) = w_ar ws (n_v vs 1) 11 := (congrArg v_ad f18).trans ar_1_11_2
  have g1 : v_iv (n_v vs 13) = w_fi ws (n_v vs 0) 8 := congrArg v_iv f1
  have g2 : v_iv (n_v vs 12) = w_fi ws (n_v vs 0) 6 := congrArg v_iv f2
  have g19 : v_iv (n_v vs 2) = w_fi w2 (n_v vs 1) 2 := congrArg v_iv f19
  have fe_0_6_1 : w_fi ws (n_v vs 0) 6 = w_fi w1 (n_v vs 0) 6 := congrArg v_iv (s1.2 _ _)
  have fe_0_7_1 : w_fi ws (n_v vs 0) 7 = w_fi w1 (n_v vs 0) 7 := congrArg v_iv (s1.2 _ _)
  have fe_0_8_1 : w_fi ws (n_v vs 0) 8 = w_fi w1 (n_v vs 0) 8 := congrArg v_iv (s1.2 _ _)
  have fe_0_9_1 : w_fi ws (n_v vs 0) 9 = w_fi w1 (n_v vs 0) 9 := congrArg v_iv (s1.2 _ _)
  have fe_1_2_1 : w_fi ws (n_v vs 1) 2 = w_fi w1 (n_v vs 1) 2 := congrArg v_iv (s1.2 _ _)
  have fe_0_6_2 : w_fi w1 (n_v vs 0) 6 = w_fi w2 (n_v vs 0) 6 := congrArg v_iv (s2.2 _ _)
  have fe_0_7_2 : w_fi w1 (n_v vs 0) 7 = w_fi w2 (n_v vs 0) 7 := congrArg v_iv (s2.2 _ _)
  have fe_0_8_2 : w_fi w1 (n_v vs 0) 8 = w_fi w2 (n_v vs 0) 8 := congrArg v_iv (s2.2 _ _)
  have fe_0_9_2 : w_fi w1 (n_v vs 0) 9 = w_fi w2 (n_v vs 0) 9 := congrArg v_iv (s2.2 _ _)
  have fe_1_2_2 : w_fi w1 (n_v vs 1) 2 = w_fi w2 (n_v vs 1) 2 := congrArg v_iv (s2.2 _ _)
  have kz_0_6 : 0 ≤ w_fi ws (n_v vs 0) 6 ∧ w_fi ws (n_v vs 0) 6 ≤ 2000 := tv_rng (th_fd hD hth r0 (g := GG_8) rfl (k := 6) (t := (0, 0, 2000, [])) rfl rfl)
  have kz_0_7 : (-128) ≤ w_fi ws (n_v vs 0) 7 ∧ w_fi ws (n_v vs 0) 7 ≤ 127 := tv_rng (th_fd hD hth r0 (g := GG_8) rfl (k := 7) (t := (0, -128, 127, [])) rfl rfl)
  have kz_0_8 : 0 ≤ w_fi ws (n_v vs 0) 8 ∧ w_fi ws (n_v vs 0) 8 ≤ 2000 := tv_rng (th_fd hD hth r0 (g := GG_8) rfl (k := 8) (t := (0, 0, 2000, [])) rfl rfl)
  have kz_0_9 : (-2147483648) ≤ w_fi ws (n_v vs 0) 9 ∧ w_fi ws (n_v vs 0) 9 ≤ 1000000 := tv_rng (th_fd hD hth r0 (g := GG_8) rfl (k := 9) (t := (0, -2147483648, 1000000, [])) rfl rfl)
  have kz_1_2 : 0 ≤ w_fi ws (n_v vs 1) 2 ∧ w_fi ws (n_v vs 1) 2 ≤ 8 := tv_rng (th_fd hD hth r1 (g := GG_3) rfl (k := 2) (t := (0, 0, 8, [])) rfl rfl)
  have nf0 : fc_1 (21, [13, 19], [2000]) ws (vs) := by
    refine ⟨fun n hn => ?_, ?_⟩
    · have hn : n ∈ [13, 19] := hn
      rw [hl]
      simp only [List.mem_cons, List.not_mem_nil, or_false] at hn
      show n < 20; omega
    · show v_iv (n_v vs 13) + v_iv (n_v vs 19) ≤ 2000
      omega
  have nf1 : fc_1 (21, [18, 19], [64]) ws (vs) := by
    refine ⟨fun n hn => ?_, ?_⟩
    · have hn : n ∈ [18, 19] := hn
      rw [hl]
      simp only [List.mem_cons, List.not_mem_nil, or_false] at hn
      show n < 20; omega
    · show v_iv (n_v vs 18) + v_iv (n_v vs 19) ≤ 64
      omega
  have rf19 : tv_ok ta (0, 0, 64, []) (n_v vs 19) := tv_in t19 (by omega) (by omega)
  refine ⟨List.forall_mem_cons.mpr ⟨rf19, (fun _ h => (by cases h))⟩, [], trivial, ?_, (fun _ h => (by cases h))⟩
  rw [List.append_nil]
  exact List.forall_mem_cons.mpr ⟨⟨show (21 : Nat) < 100 from by decide, nf0⟩, List.forall_mem_cons.mpr ⟨⟨show (21 : Nat) < 100 from by decide, nf1⟩, (fun _ h => (by cases h))⟩⟩
def o_Re_readGroup_3 : or_T := (152, 24, [(0, (2, 0, 0, [8])), (6, (0, -2147483648, 1000000, [])), (7, (0, 1, 1, [])), (8, (2, 0, 0, [56])), (9, (2, 0, 0, [110])), (11, (2, 0, 0, [58]))], [(20, [0, 0, 6], [31, 1, 3, 1, 1, 7, 0, 1, 1, 9, -1, 0, 0]), (20, [0, 0, 6], [31, 1, 3, 1, 1, 7, 0, -1, 1, 9, 1, 0, 0]), (20, [0, 0, 0, 0], [31, 1, -3, -1, 1, 7, 4008, 1, 1, 6, -1, 1, 8, 2000, 1, 7]), (20, [0, 0], [30, 0, 1, 1, 8, -1, 1, 6]), (20, [0, 0, 7], [30, 2008, 1, 1, 6, -1, 1, 8, 2000, 0, 0]), (100, [9, 23, 2], []), (9, [9, 0], [10]), (20, [0, 0, 6], [31, 1, 3, 1, 1, 7, 0, 1, 1, 9, -1, 0, 0]), (20, [0, 0, 6], [31, 1, 3, 1, 1, 7, 0, -1, 1, 9, 1, 0, 0]), (20, [0, 0, 0, 0], [31, 1, -3, -1, 1, 7, 4008, 1, 1, 6, -1, 1, 8, 2000, 1, 7]), (20, [0, 0], [30, 0, 1, 1, 8, -1, 1, 6]), (20, [0, 0, 7], [30, 2008, 1, 1, 6, -1, 1, 8, 2000, 0, 0]), (101, [0, 23], [11]), (20, [0, 0, 6], [31, 1, 3, 1, 1, 7, 0, 1, 1, 9, -1, 0, 0]), (20, [0, 0, 6], [31, 1, 3, 1, 1, 7, 0, -1, 1, 9, 1, 0, 0]), (20, [0, 0, 0, 0], [31, 1, -3, -1, 1, 7, 4008, 1, 1, 6, -1, 1, 8, 2000, 1, 7]), (20, [0, 0], [30, 0, 1, 1, 8, -1, 1, 6]), (20, [0, 0, 7], [30, 2008, 1, 1, 6, -1, 1, 8, 2000, 0, 0]), (101, [1, 21], [2]), (20, [0, 0, 6], [31, 1, 3, 1, 1, 7, 0, 1, 1, 9, -1, 0, 0]), (20, [0, 0, 6], [31, 1, 3, 1, 1, 7, 0, -1, 1, 9, 1, 0, 0]), (20, [0, 0, 0, 0], [31, 1, -3, -1, 1, 7, 4008, 1, 1, 6, -1, 1, 8, 2000, 1, 7]), (20, [0, 0], [30, 0, 1, 1, 8, -1, 1, 6]), (20, [0, 0, 7], [30, 2008, 1, 1, 6, -1, 1, 8, 2000, 0, 0]), (102, [19], [144115188075855872]), (100, [11, 2, 14], []), (100, [8, 2, 10], []), (8, [7], [1])], [], [(0, -2147483648, 1000000, [])], [(20, [0, 24], [30, 0, 1, 1, 9, -1, 0, 0]), (20, [0, 24], [30, 0, -1, 1, 9, 1, 0, 0])], [], [])
theorem oo_Re_readGroup_3 {kA : Nat → ClassId} : or_ok kA GG o_Re_readGroup_3 := by
  intro A ta ws vs hD hth hl hk hds hf
  have hl : vs.length = 24 := hl
  have hk : ∀ q ∈ ([(0, (2, 0, 0, [8])), (6, (0, -2147483648, 1000000, [])), (7, (0, 1, 1, [])), (8, (2, 0, 0, [56])), (9, (2, 0, 0, [110])), (11, (2, 0, 0, [58]))] : List (Nat × tv_T)), tv_ok ta q.2 (n_v vs q.1) := hk
  obtain ⟨t0, hk⟩ := List.forall_mem_cons.mp hk
  have t0 : tv_ok ta (2, 0, 0, [8]) (n_v vs 0) := t0
  have r0 : ta (v_ad (n_v vs 0)) = some 8 := tv_rg t0
  obtain ⟨t6, hk⟩ := List.forall_mem_cons.mp hk
  have t6 : tv_ok ta (0, -2147483648, 1000000, []) (n_v vs 6) := t6
  have k6 : (-2147483648) ≤ v_iv (n_v vs 6) ∧ v_iv (n_v vs 6) ≤ 1000000 := tv_rng t6
  obtain ⟨t7, hk⟩ := List.forall_mem_cons.mp hk
  have t7 : tv_ok ta (0, 1, 1, []) (n_v vs 7) := t7
  have k7 : 1 ≤ v_iv (n_v vs 7) ∧ v_iv (n_v vs 7) ≤ 1 := tv_rng t7
  obtain ⟨t8, hk⟩ := List.forall_mem_cons.mp hk
  have t8 : tv_ok ta (2, 0, 0, [56]) (n_v vs 8) := t8
  have r8 : ta (v_ad (n_v vs 8)) = some 56 := tv_rg t8
  obtain ⟨t9, hk⟩ := List.forall_mem_cons.mp hk
  have t9 : tv_ok ta (2, 0, 0, [110]) (n_v vs 9) := t9
  have r9 : ta (v_ad (n_v vs 9)) = some 110 := tv_rg t9
  obtain ⟨t11, hk⟩ := List.forall_mem_cons.mp hk
  have t11 : tv_ok ta (2, 0, 0, [58]) (n_v vs 11) := t11
  have r11 : ta (v_ad (n_v vs 11)) = some 58 := tv_rg t11
  have hf : fc_ok [(20, [0, 0, 6], [31, 1, 3, 1, 1, 7, 0, 1, 1, 9, -1, 0, 0]), (20, [0, 0, 6], [31, 1, 3, 1, 1, 7, 0, -1, 1, 9, 1, 0, 0]), (20, [0, 0, 0, 0], [31, 1, -3, -1, 1, 7, 4008, 1, 1, 6, -1, 1, 8, 2000, 1, 7]), (20, [0, 0], [30, 0, 1, 1, 8, -1, 1, 6]), (20, [0, 0, 7], [30, 2008, 1, 1, 6, -1, 1, 8, 2000, 0, 0]), (100, [9, 23, 2], []), (9, [9, 0], [10]), (20, [0, 0, 6], [31, 1, 3, 1, 1, 7, 0, 1, 1, 9, -1, 0, 0]), (20, [0, 0, 6], [31, 1, 3, 1, 1, 7, 0, -1, 1, 9, 1, 0, 0]), (20, [0, 0, 0, 0], [31, 1, -3, -1, 1, 7, 4008, 1, 1, 6, -1, 1, 8, 2000, 1, 7]), (20, [0, 0], [30, 0, 1, 1, 8, -1, 1, 6]), (20, [0, 0, 7], [30, 2008, 1, 1, 6, -1, 1, 8, 2000, 0, 0]), (101, [0, 23], [11]), (20, [0, 0, 6], [31, 1, 3, 1, 1, 7, 0, 1, 1, 9, -1, 0, 0]), (20, [0, 0, 6], [31, 1, 3, 1, 1, 7, 0, -1, 1, 9, 1, 0, 0]), (20, [0, 0, 0, 0], [31, 1, -3, -1, 1, 7, 4008, 1, 1, 6, -1, 1, 8, 2000, 1, 7]), (20, [0, 0], [30, 0, 1, 1, 8, -1, 1, 6]), (20, [0, 0, 7], [30, 2008, 1, 1, 6, -1, 1, 8, 2000, 0, 0]), (101, [1, 21], [2]), (20, [0, 0, 6], [31, 1, 3, 1, 1, 7, 0, 1, 1, 9, -1, 0, 0]), (20, [0, 0, 6], [31, 1, 3, 1, 1, 7, 0, -1, 1, 9, 1, 0, 0]), (20, [0, 0, 0, 0], [31, 1, -3, -1, 1, 7, 4008, 1, 1, 6, -1, 1, 8, 2000, 1, 7]), (20, [0, 0], [30, 0, 1, 1, 8, -1, 1, 6]), (20, [0, 0, 7], [30, 2008, 1, 1, 6, -1, 1, 8, 2000, 0, 0]), (102, [19], [144115188075855872]), (100, [11, 2, 14], []), (100, [8, 2, 10], []), (8, [7], [1])] ta ws vs := hf
  obtain ⟨f0, hf⟩ := fc_un (show (20 : Nat) < 100 from by decide) hf
  have f0 : (1 * w_fi ws (n_v vs 0) 7 + 0 ≤ 3) ∨ (1 * w_fi ws (n_v vs 0) 9 + ((-1) * v_iv (n_v vs 6) + 0) ≤ 0) := f0
  obtain ⟨f1, hf⟩ := fc_un (show (20 : Nat) < 100 from by decide) hf
  have f1 : (1 * w_fi ws (n_v vs 0) 7 + 0 ≤ 3) ∨ ((-1) * w_fi ws (n_v vs 0) 9 + (1 * v_iv (n_v vs 6) + 0) ≤ 0) := f1
  obtain ⟨f2, hf⟩ := fc_un (show (20 : Nat) < 100 from by decide) hf
  have f2 : ((-1) * w_fi ws (n_v vs 0) 7 + 0 ≤ (-3)) ∨ (1 * w_fi ws (n_v vs 0) 6 + ((-1) * w_fi ws (n_v vs 0) 8 + (2000 * w_fi ws (n_v vs 0) 7 + 0)) ≤ 4008) := f2
  obtain ⟨f3, hf⟩ := fc_un (show (20 : Nat) < 100 from by decide) hf
  have f3 : 1 * w_fi ws (n_v vs 0) 8 + ((-1) * w_fi ws (n_v vs 0) 6 + 0) ≤ 0 := f3
  obtain ⟨f4, hf⟩ := fc_un (show (20 : Nat) < 100 from by decide) hf
  have f4 : 1 * w_fi ws (n_v vs 0) 6 + ((-1) * w_fi ws (n_v vs 0) 8 + (2000 * v_iv (n_v vs 7) + 0)) ≤ 2008 := f4
  obtain ⟨ta1, w1, le1, ⟨_, s1⟩, hf⟩ := fc_us (show ¬ (100 : Nat) < 100 from by decide) hf
  have s1 : (∀ b j, w_el ws b j = if b = v_ad (n_v vs 9) ∧ j = (v_iv (n_v vs 23)).toNat then v_iv (n_v vs 2) else w_el w1 b j) ∧ ∀ b k, w_fd ws b k = w_fd w1 b k := s1
  obtain ⟨f6, hf⟩ := fc_un (show (9 : Nat) < 100 from by decide) hf
  have f6 : n_v vs 9 = w_fd w1 (v_ad (n_v vs 0)) 10 := f6
  obtain ⟨f7, hf⟩ := fc_un (show (20 : Nat) < 100 from by decide) hf
  have f7 : (1 * w_fi w1 (n_v vs 0) 7 + 0 ≤ 3) ∨ (1 * w_fi w1 (n_v vs 0) 9 + ((-1) * v_iv (n_v vs 6) + 0) ≤ 0) := f7
  obtain ⟨f8, hf⟩ := fc_un (show (20 : Nat) < 100 from by decide) hf
  have f8 : (1 * w_fi w1 (n_v vs 0) 7 + 0 ≤ 3) ∨ ((-1) * w_fi w1 (n_v vs 0) 9 + (1 * v_iv (n_v vs 6) + 0) ≤ 0) := f8
  obtain ⟨f9, hf⟩ := fc_un (show (20 : Nat) < 100 from by decide) hf
  have f9 : ((-1) * w_fi w1 (n_v vs 0) 7 + 0 ≤ (-3)) ∨ (1 * w_fi w1 (n_v vs 0) 6 + ((-1) * w_fi w1 (n_v vs 0) 8 + (2000 * w_fi w1 (n_v vs 0) 7 + 0)) ≤ 4008) := f9
  obtain ⟨f10, hf⟩ := fc_un (show (20 : Nat) < 100 from by decide) hf
  have f10 : 1 * w_fi w1 (n_v vs 0) 8 + ((-1) * w_fi w1 (n_v vs 0) 6 + 0) ≤ 0 := f10
  obtain ⟨f11, hf⟩ := fc_un (show (20 : Nat) < 100 from by decide) hf
  have f11 : 1 * w_fi w1 (n_v vs 0) 6 + ((-1) * w_fi w1 (n_v vs 0) 8 + (2000 * v_iv (n_v vs 7) + 0)) ≤ 2008 := f11
  obtain ⟨ta2, w2, le2, ⟨_, s2⟩, hf⟩ := fc_us (show ¬ (101 : Nat) < 100 from by decide) hf
  have s2 : (∀ b j, w_el w1 b j = w_el w2 b j) ∧ ∀ b j, w_fd w1 b j = if b = v_ad (n_v vs 0) ∧ j = 11 then n_v vs 23 else w_fd w2 b j := s2
  obtain ⟨f13, hf⟩ := fc_un (show (20 : Nat) < 100 from by decide) hf
  have f13 : (1 * w_fi w2 (n_v vs 0) 7 + 0 ≤ 3) ∨ (1 * w_fi w2 (n_v vs 0) 9 + ((-1) * v_iv (n_v vs 6) + 0) ≤ 0) := f13
  obtain ⟨f14, hf⟩ := fc_un (show (20 : Nat) < 100 from by decide) hf
  have f14 : (1 * w_fi w2 (n_v vs 0) 7 + 0 ≤ 3) ∨ ((-1) * w_fi w2 (n_v vs 0) 9 + (1 * v_iv (n_v vs 6) + 0) ≤ 0) := f14
  obtain ⟨f15, hf⟩ := fc_un (show (20 : Nat) < 100 from by decide) hf
  have f15 : ((-1) * w_fi w2 (n_v vs 0) 7 + 0 ≤ (-3)) ∨ (1 * w_fi w2 (n_v vs 0) 6 + ((-1) * w_fi w2 (n_v vs 0) 8 + (2000 * w_fi w2 (n_v vs 0) 7 + 0)) ≤ 4008) := f15
  obtain ⟨f16, hf⟩ := fc_un (show (20 : Nat) < 100 from by decide) hf
  have f16 : 1 * w_fi w2 (n_v vs 0) 8 + ((-1) * w_fi w2 (n_v vs 0) 6 + 0) ≤ 0 := f16
  obtain ⟨f17, hf⟩ := fc_un (show (20 : Nat) < 100 from by decide) hf
  have f17 : 1 * w_fi w2 (n_v vs 0) 6 + ((-1) * w_fi w2 (n_v vs 0) 8 + (2000 * v_iv (n_v vs 7) + 0)) ≤ 2008 := f17
  obtain ⟨ta3, w3, le3, ⟨_, s3⟩, hf⟩ := fc_us (show ¬ (101 : Nat) < 100 from by decide) hf
  have s3 : (∀ b j, w_el w2 b j = w_el w3 b j) ∧ ∀ b j, w_fd w2 b j = if b = v_ad (n_v vs 1) ∧ j = 2 then n_v vs 21 else w_fd w3 b j := s3
  obtain ⟨f19, hf⟩ := fc_un (show (20 : Nat) < 100 from by decide) hf
  have f19 : (1 * w_fi w3 (n_v vs 0) 7 + 0 ≤ 3) ∨ (1 * w_fi w3 (n_v vs 0) 9 + ((-1) * v_iv (n_v vs 6) + 0) ≤ 0) := f19
  obtain ⟨f20, hf⟩ := fc_un (show (20 : Nat) < 100 from by decide) hf
  have f20 : (1 * w_fi w3 (n_v vs 0) 7 + 0 ≤ 3) ∨ ((-1) * w_fi w3 (n_v vs 0) 9 + (1 * v_iv (n_v vs 6) + 0) ≤ 0) := f20
  obtain ⟨f21, hf⟩ := fc_un (show (20 : Nat) < 100 from by decide) hf
  have f21 : ((-1) * w_fi w3 (n_v vs 0) 7 + 0 ≤ (-3)) ∨ (1 * w_fi w3 (n_v vs 0) 6 + ((-1) * w_fi w3 (n_v vs 0) 8 + (2000 * w_fi w3 (n_v vs 0) 7 + 0)) ≤ 4008) := f21
  obtain ⟨f22, hf⟩ := fc_un (show (20 : Nat) < 100 from by decide) hf
  have f22 : 1 * w_fi w3 (n_v vs 0) 8 + ((-1) * w_fi w3 (n_v vs 0) 6 + 0) ≤ 0 := f22
  obtain ⟨f23, hf⟩ := fc_un (show (20 : Nat) < 100 from by decide) hf
  have f23 : 1 * w_fi w3 (n_v vs 0) 6 + ((-1) * w_fi w3 (n_v vs 0) 8 + (2000 * v_iv (n_v vs 7) + 0)) ≤ 2008 := f23
  obtain ⟨ta4, w4, le4, ⟨_, s4⟩, hf⟩ := fc_us (show ¬ (102 : Nat) < 100 from by decide) hf
  obtain ⟨ta5, w5, le5, ⟨_, s5⟩, hf⟩ := fc_us (show ¬ (100 : Nat) < 100 from by decide) hf
  have s5 : (∀ b j, w_el w4 b j = if b = v_ad (n_v vs 11) ∧ j = (v_iv (n_v vs 2)).toNat then v_iv (n_v vs 14) else w_el w5 b j) ∧ ∀ b k, w_fd w4 b k = w_fd w5 b k := s5
  obtain ⟨ta6, w6, le6, ⟨_, s6⟩, hf⟩ := fc_us (show ¬ (100 : Nat) < 100 from by decide) hf
  have s6 : (∀ b j, w_el w5 b j = if b = v_ad (n_v vs 8) ∧ j = (v_iv (n_v vs 2)).toNat then v_iv (n_v vs 10) else w_el w6 b j) ∧ ∀ b k, w_fd w5 b k = w_fd w6 b k := s6
  obtain ⟨f27, hf⟩ := fc_un (show (8 : Nat) < 100 from by decide) hf
  have f27 : v_iv (n_v vs 7) ≠ 0 := f27
  have ar_0_10_1 : w_ar w1 (n_v vs 0) 10 = w_ar ws (n_v vs 0) 10 := by show v_ad (w_fd w1 _ _) = v_ad (w_fd ws _ _); rw [s1.2]
  have ar_0_10_2 : w_ar w2 (n_v vs 0) 10 = w_ar ws (n_v vs 0) 10 := by rw [← ar_0_10_1]; show v_ad (w_fd w2 _ _) = v_ad (w_fd w1 _ _); rw [s2.2, if_neg (fun e => absurd e.2 (by decide))]
  have ar_0_10_3 : w_ar w3 (n_v vs 0) 10 = w_ar ws (n_v vs 0) 10 := by rw [← ar_0_10_2]; show v_ad (w_fd w3 _ _) = v_ad (w_fd w2 _ _); rw [s3.2, if_neg (fun e => absurd e.2 (by decide))]
  have cr_0_10 : ta (w_ar ws (n_v vs 0) 10) = some 110 := tv_rg (th_fd hD hth r0 (g := GG_8) rfl (k := 10) (t := (2, 0, 0, [110])) rfl rfl)
  have ad_9 : v_ad (n_v vs 9) = w_ar ws (n_v vs 0) 10 := (congrArg v_ad f6).trans ar_0_10_1
  have fe_0_6_1 : w_fi ws (n_v vs 0) 6 = w_fi w1 (n_v vs 0) 6 := congrArg v_iv (s1.2 _ _)
  have fe_0_7_1 : w_fi ws (n_v vs 0) 7 = w_fi w1 (n_v vs 0) 7 := congrArg v_iv (s1.2 _ _)
  have fe_0_8_1 : w_fi ws (n_v vs 0) 8 = w_fi w1 (n_v vs 0) 8 := congrArg v_iv (s1.2 _ _)
  have fe_0_9_1 : w_fi ws (n_v vs 0) 9 = w_fi w1 (n_v vs 0) 9 := congrArg v_iv (s1.2 _ _)
  have fe_0_6_2 : w_fi w1 (n_v vs 0) 6 = w_fi w2 (n_v vs 0) 6 := by show v_iv (w_fd _ _ _) = v_iv (w_fd _ _ _); rw [s2.2, if_neg (fun e => absurd e.2 (by decide))]
  have fe_0_7_2 : w_fi w1 (n_v vs 0) 7 = w_fi w2 (n_v vs 0) 7 := by show v_iv (w_fd _ _ _) = v_iv (w_fd _ _ _); rw [s2.2, if_neg (fun e => absurd e.2 (by decide))]
  have fe_0_8_2 : w_fi w1 (n_v vs 0) 8 = w_fi w2 (n_v vs 0) 8 := by show v_iv (w_fd _ _ _) = v_iv (w_fd _ _ _); rw [s2.2, if_neg (fun e => absurd e.2 (by decide))]
  have fe_0_9_2 : w_fi w1 (n_v vs 0) 9 = w_fi w2 (n_v vs 0) 9 := by show v_iv (w_fd _ _ _) = v_iv (w_fd _ _ _); rw [s2.2, if_neg (fun e => absurd e.2 (by decide))]
  have fe_0_6_3 : w_fi w2 (n_v vs 0) 6 = w_fi w3 (n_v vs 0) 6 := by show v_iv (w_fd _ _ _) = v_iv (w_fd _ _ _); rw [s3.2, if_neg (fun e => absurd e.2 (by decide))]
  have fe_0_7_3 : w_fi w2 (n_v vs 0) 7 = w_fi w3 (n_v vs 0) 7 := by show v_iv (w_fd _ _ _) = v_iv (w_fd _ _ _); rw [s3.2, if_neg (fun e => absurd e.2 (by decide))]
  have fe_0_8_3 : w_fi w2 (n_v vs 0) 8 = w_fi w3 (n_v vs 0) 8 := by show v_iv (w_fd _ _ _) = v_iv (w_fd _ _ _); rw [s3.2, if_neg (fun e => absurd e.2 (by decide))]
  have fe_0_9_3 : w_fi w2 (n_v vs 0) 9 = w_fi w3 (n_v vs 0) 9 := by show v_iv (w_fd _ _ _) = v_iv (w_fd _ _ _); rw [s3.2, if_neg (fun e => absurd e.2 (by decide))]
  have kz_0_6 : 0 ≤ w_fi ws (n_v vs 0) 6 ∧ w_fi ws (n_v vs 0) 6 ≤ 2000 := tv_rng (th_fd hD hth r0 (g := GG_8) rfl (k := 6) (t := (0, 0, 2000, [])) rfl rfl)
  have kz_0_7 : (-128) ≤ w_fi ws (n_v vs 0) 7 ∧ w_fi ws (n_v vs 0) 7 ≤ 127 := tv_rng (th_fd hD hth r0 (g := GG_8) rfl (k := 7) (t := (0, -128, 127, [])) rfl rfl)
  have kz_0_8 : 0 ≤ w_fi ws (n_v vs 0) 8 ∧ w_fi ws (n_v vs 0) 8 ≤ 2000 := tv_rng (th_fd hD hth r0 (g := GG_8) rfl (k := 8) (t := (0, 0, 2000, [])) rfl rfl)
  have kz_0_9 : (-2147483648) ≤ w_fi ws (n_v vs 0) 9 ∧ w_fi ws (n_v vs 0) 9 ≤ 1000000 := tv_rng (th_fd hD hth r0 (g := GG_8) rfl (k := 9) (t := (0, -2147483648, 1000000, [])) rfl rfl)
  have kv0 : (-2147483648) ≤ w_fi ws (n_v vs 0) 9 ∧ w_fi ws (n_v vs 0) 9 ≤ 1000000 := tv_rng (th_fd hD hth r0 (g := GG_8) rfl (k := 9) (t := (0, -2147483648, 1000000, [])) rfl rfl)
  obtain ⟨x, ex, hx⟩ := iv_ex (ta := ta) (lo := (-2147483648)) (hi := 1000000) (z := w_fi ws (n_v vs 0) 9) (by omega) (by omega) (by omega) (by omega)
  have ex2 : v_iv (Value.int x) = w_fi ws (n_v vs 0) 9 := ex
  have ex3 : (-2147483648) ≤ v_iv (Value.int x) ∧ v_iv (Value.int x) ≤ 1000000 := tv_rng hx
  have e_0 : n_v (vs ++ [Value.int x]) 0 = n_v vs 0 := n_v_old (by rw [hl]; decide)
  have e_24 : n_v (vs ++ [Value.int x]) 24 = Value.int x := n_v_new hl
  have nf0 : fc_1 (20, [0, 24], [30, 0, 1, 1, 9, -1, 0, 0]) ws (vs ++ [Value.int x]) := by
    refine ⟨fun n hn => ?_, ?_⟩
    · have hn : n ∈ [0, 24] := hn
      rw [List.length_append, hl]
      simp only [List.mem_cons, List.not_mem_nil, or_false] at hn
      show n < 24 + 1; omega
    · show 1 * w_fi ws (n_v (vs ++ [Value.int x]) 0) 9 + ((-1) * v_iv (n_v (vs ++ [Value.int x]) 24) + 0) ≤ 0
      rw [e_0]
      rw [e_24]
      omega
  have nf1 : fc_1 (20, [0, 24], [30, 0, -1, 1, 9, 1, 0, 0]) ws (vs ++ [Value.int x]) := by
    refine ⟨fun n hn => ?_, ?_⟩
    · have hn : n ∈ [0, 24] := hn
      rw [List.length_append, hl]
      simp only [List.mem_cons, List.not_mem_nil, or_false] at hn
      show n < 24 + 1; omega
    · show (-1) * w_fi ws (n_v (vs ++ [Value.int x]) 0) 9 + (1 * v_iv (n_v (vs ++ [Value.int x]) 24) + 0) ≤ 0
      rw [e_0]
      rw [e_24]
      omega
  exact ⟨(fun _ h => (by cases h)), [Value.int x], ag_one hx, List.forall_mem_cons.mpr ⟨⟨show (20 : Nat) < 100 from by decide, nf0⟩, List.forall_mem_cons.mpr ⟨⟨show (20 : Nat) < 100 from by decide, nf1⟩, (fun _ h => (by cases h))⟩⟩, (fun _ h => (by cases h))⟩
def n_Re_readGroup_an : List an_T := []
def t_Re_readGroup_ct : ct_L := [(1, 57, e_Re_advance), (1, 107, e_Re_isName), (1, 113, e_Re_fail), (348, 150, e_acp_89)]
set_option maxRecDepth 100000 in
theorem c_Re_readGroup {l : Launch} {D : va_G} {kA : Nat → ClassId} (h_Re_advance : ct_ok l D kA GG y_Re_advance z_Re_advance e_Re_advance) (h_Re_fail : ct_ok l D kA GG y_Re_fail z_Re_fail e_Re_fail) (h_Re_isName : ct_ok l D kA GG y_Re_isName z_Re_isName e_Re_isName) : ct_ok l D kA GG y_Re_readGroup z_Re_readGroup e_Re_readGroup := chk_all_ok (FT := [(9, 8, 0), (28, 8, 4), (35, 8, 6), (38, 8, 7), (41, 8, 8), (47, 8, 10), (51, 8, 11), (138, 3, 2), (141, 3, 11), (144, 3, 13), (147, 3, 12)]) (PT := [(51, 8, 11, .int), (138, 3, 2, .int)]) (CT := t_Re_readGroup_ct) (KT := []) (NT := []) (AN := n_Re_readGroup_an) (OT := [o_Re_readGroup_0, o_Re_readGroup_1, o_Re_readGroup_2, o_Re_readGroup_3]) 0 400 (List.forall_mem_cons.mpr ⟨oo_Re_readGroup_0, List.forall_mem_cons.mpr ⟨oo_Re_readGroup_1, List.forall_mem_cons.mpr ⟨oo_Re_readGroup_2, List.forall_mem_cons.mpr ⟨oo_Re_readGroup_3, List.forall_mem_nil _⟩⟩⟩⟩) (by decide +kernel) ⟨List.forall_mem_cons.mpr ⟨gf_Re_9, List.forall_mem_cons.mpr ⟨gf_Re_28, List.forall_mem_cons.mpr ⟨gf_Re_35, List.forall_mem_cons.mpr ⟨gf_Re_38, List.forall_mem_cons.mpr ⟨gf_Re_41, List.forall_mem_cons.mpr ⟨gf_Re_47, List.forall_mem_cons.mpr ⟨gf_Re_51, List.forall_mem_cons.mpr ⟨gf_Re_138, List.forall_mem_cons.mpr ⟨gf_Re_141, List.forall_mem_cons.mpr ⟨gf_Re_144, List.forall_mem_cons.mpr ⟨gf_Re_147, List.forall_mem_nil _⟩⟩⟩⟩⟩⟩⟩⟩⟩⟩⟩, List.forall_mem_cons.mpr ⟨pf_Re_51, List.forall_mem_cons.mpr ⟨pf_Re_138, List.forall_mem_nil _⟩⟩, List.forall_mem_cons.mpr ⟨cl_virtual (y := y_Re_advance) (ci := 8) rfl rfl ⟨_, _, rfl⟩ (by decide +kernel) h_Re_advance wm_645 wm_2 wm_642 wm_644 wv_1_0 ⟨by decide, by decide, by decide +kernel⟩ (by decide), List.forall_mem_cons.mpr ⟨cl_virtual (y := y_Re_isName) (ci := 8) rfl rfl ⟨_, _, rfl⟩ (by decide +kernel) h_Re_isName wm_726 wm_2 wm_723 wm_725 wv_1_4 ⟨by decide, by decide, by decide +kernel⟩ (by decide), List.forall_mem_cons.mpr ⟨cl_virtual (y := y_Re_fail) (ci := 8) rfl rfl ⟨_, _, rfl⟩ (by decide +kernel) h_Re_fail wm_731 wm_2 wm_728 wm_730 wv_1_5 ⟨by decide, by decide, by decide +kernel⟩ (by decide), List.forall_mem_cons.mpr ⟨cl_copy rfl rfl (by decide) (by decide) (by decide) wm_760 wm_750 wm_749 wm_15, List.forall_mem_nil _⟩⟩⟩⟩, List.forall_mem_nil _, List.forall_mem_nil _, GG_pl⟩ (by decide +kernel)
def n_Mo_count_an : List an_T := []
def t_Mo_count_ct : ct_L := [(0, 521, e_Mo_isPlace), (1, 401, e_Mo_edges), (1, 475, e_Mo_nodes), (1, 509, e_Mo_groups), (1, 527, e_Mo_take), (1, 668, e_Mo_blocks), (1, 689, e_Mo_plane), (1, 716, e_Mo_parts), (1, 719, e_Mo_strong)]
set_option maxRecDepth 100000 in
theorem c_Mo_count {l : Launch} {D : va_G} {kA : Nat → ClassId} (h_Mo_blocks : ct_ok l D kA GG y_Mo_blocks z_Mo_blocks e_Mo_blocks) (h_Mo_edges : ct_ok l D kA GG y_Mo_edges z_Mo_edges e_Mo_edges) (h_Mo_groups : ct_ok l D kA GG y_Mo_groups z_Mo_groups e_Mo_groups) (h_Mo_isPlace : ct_ok l D kA GG y_Mo_isPlace z_Mo_isPlace e_Mo_isPlace) (h_Mo_nodes : ct_ok l D kA GG y_Mo_nodes z_Mo_nodes e_Mo_nodes) (h_Mo_parts : ct_ok l D kA GG y_Mo_parts z_Mo_parts e_Mo_parts) (h_Mo_plane : ct_ok l D kA GG y_Mo_plane z_Mo_plane e_Mo_plane) (h_Mo_strong : ct_ok l D kA GG y_Mo_strong z_Mo_strong e_Mo_strong) (h_Mo_take : ct_ok l D kA GG y_Mo_take z_Mo_take e_Mo_take) : ct_ok l D kA GG y_Mo_count z_Mo_count e_Mo_count := chk_all_ok (FT := [(20, 13, 3), (23, 13, 4)]) (PT := []) (CT := t_Mo_count_ct) (KT := []) (NT := []) (AN := n_Mo_count_an) (OT := []) 0 208 (List.forall_mem_nil _) (by decide +kernel) ⟨List.forall_mem_cons.mpr ⟨gf_Mo_20, List.forall_mem_cons.mpr ⟨gf_Mo_23, List.forall_mem_nil _⟩⟩, List.forall_mem_nil _, List.forall_mem_cons.mpr ⟨cl_static (y := y_Mo_isPlace) h_Mo_isPlace wm_2978 wm_9 wm_2976 wm_2977 ⟨by decide, by decide, by decide +kernel⟩ (by decide), List.forall_mem_cons.mpr ⟨cl_virtual (y := y_Mo_edges) (ci := 13) rfl rfl ⟨_, _, rfl⟩ (by decide +kernel) h_Mo_edges wm_3037 wm_9 wm_3034 wm_3036 wv_13_6 ⟨by decide, by decide, by decide +kernel⟩ (by decide), List.forall_mem_cons.mpr ⟨cl_virtual (y := y_Mo_nodes) (ci := 13) rfl rfl ⟨_, _, rfl⟩ (by decide +kernel) h_Mo_nodes wm_3025 wm_9 wm_3022 wm_3024 wv_13_3 ⟨by decide, by decide, by decide +kernel⟩ (by decide), List.forall_mem_cons.mpr ⟨cl_virtual (y := y_Mo_groups) (ci := 13) rfl rfl ⟨_, _, rfl⟩ (by decide +kernel) h_Mo_groups wm_3070 wm_9 wm_3067 wm_3069 wv_13_14 ⟨by decide, by decide, by decide +kernel⟩ (by decide), List.forall_mem_cons.mpr ⟨cl_virtual (y := y_Mo_take) (ci := 13) rfl rfl ⟨_, _, rfl⟩ (by decide +kernel) h_Mo_take wm_3091 wm_9 wm_3088 wm_3090 wv_14_2 ⟨by decide, by decide, by decide +kernel⟩ (by decide), List.forall_mem_cons.mpr ⟨cl_virtual (y := y_Mo_blocks) (ci := 13) rfl rfl ⟨_, _, rfl⟩ (by decide +kernel) h_Mo_blocks wm_3155 wm_9 wm_3152 wm_3154 wv_14_14 ⟨by decide, by decide, by decide +kernel⟩ (by decide), List.forall_mem_cons.mpr ⟨cl_virtual (y := y_Mo_plane) (ci := 13) rfl rfl ⟨_, _, rfl⟩ (by decide +kernel) h_Mo_plane wm_3147 wm_9 wm_3144 wm_3146 wv_14_12 ⟨by decide, by decide, by decide +kernel⟩ (by decide), List.forall_mem_cons.mpr ⟨cl_virtual (y := y_Mo_parts) (ci := 13) rfl rfl ⟨_, _, rfl⟩ (by decide +kernel) h_Mo_parts wm_3283 wm_9 wm_3280 wm_3282 wv_16_11 ⟨by decide, by decide, by decide +kernel⟩ (by decide), List.forall_mem_cons.mpr ⟨cl_virtual (y := y_Mo_strong) (ci := 13) rfl rfl ⟨_, _, rfl⟩ (by decide +kernel) h_Mo_strong wm_3291 wm_9 wm_3288 wm_3290 wv_16_13 ⟨by decide, by decide, by decide +kernel⟩ (by decide), List.forall_mem_nil _⟩⟩⟩⟩⟩⟩⟩⟩⟩, List.forall_mem_nil _, List.forall_mem_nil _, GG_pl⟩ (by decide +kernel)
