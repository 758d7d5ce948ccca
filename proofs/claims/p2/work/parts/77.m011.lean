def o_Ho_writeEdges_0 : or_T := (2, 4, [(0, (2, 0, 0, [12])), (2, (0, 0, 99998128, [])), (3, (0, 0, 0, []))], [(20, [0, 2], [30, 0, 1, 1, 12, -1, 0, 0])], [], [], [(20, [0, 2, 3], [30, 0, 1, 1, 12, -1, 0, 0, -39, 0, 0]), (24, [0, 0], [])], [], [])
theorem oo_Ho_writeEdges_0 {kA : Nat → ClassId} : or_ok kA GG o_Ho_writeEdges_0 := by
  intro A ta ws vs hD hth hl hk hds hf
  have hl : vs.length = 4 := hl
  have hk : ∀ q ∈ ([(0, (2, 0, 0, [12])), (2, (0, 0, 99998128, [])), (3, (0, 0, 0, []))] : List (Nat × tv_T)), tv_ok ta q.2 (n_v vs q.1) := hk
  obtain ⟨t0, hk⟩ := List.forall_mem_cons.mp hk
  have t0 : tv_ok ta (2, 0, 0, [12]) (n_v vs 0) := t0
  have r0 : ta (v_ad (n_v vs 0)) = some 12 := tv_rg t0
  obtain ⟨t2, hk⟩ := List.forall_mem_cons.mp hk
  have t2 : tv_ok ta (0, 0, 99998128, []) (n_v vs 2) := t2
  have k2 : 0 ≤ v_iv (n_v vs 2) ∧ v_iv (n_v vs 2) ≤ 99998128 := tv_rng t2
  obtain ⟨t3, hk⟩ := List.forall_mem_cons.mp hk
  have t3 : tv_ok ta (0, 0, 0, []) (n_v vs 3) := t3
  have k3 : 0 ≤ v_iv (n_v vs 3) ∧ v_iv (n_v vs 3) ≤ 0 := tv_rng t3
  have hf : fc_ok [(20, [0, 2], [30, 0, 1, 1, 12, -1, 0, 0])] ta ws vs := hf
  obtain ⟨f0, hf⟩ := fc_un (show (20 : Nat) < 100 from by decide) hf
  have f0 : 1 * w_fi ws (n_v vs 0) 12 + ((-1) * v_iv (n_v vs 2) + 0) ≤ 0 := f0
  have kz_0_12 : 0 ≤ w_fi ws (n_v vs 0) 12 ∧ w_fi ws (n_v vs 0) 12 ≤ 100000000 := tv_rng (th_fd hD hth r0 (g := GG_12) rfl (k := 12) (t := (0, 0, 100000000, [])) rfl rfl)
  have nf0 : fc_1 (20, [0, 2, 3], [30, 0, 1, 1, 12, -1, 0, 0, -39, 0, 0]) ws (vs) := by
    refine ⟨fun n hn => ?_, ?_⟩
    · have hn : n ∈ [0, 2, 3] := hn
      rw [hl]
      simp only [List.mem_cons, List.not_mem_nil, or_false] at hn
      show n < 4; omega
    · show 1 * w_fi ws (n_v vs 0) 12 + ((-1) * v_iv (n_v vs 2) + ((-39) * v_iv (n_v vs 3) + 0)) ≤ 0
      omega
  have nf1 : fc_1 (24, [0, 0], []) ws (vs) := by
    refine ⟨fun n hn => ?_, ?_⟩
    · have hn : n ∈ [0, 0] := hn
      rw [hl]
      simp only [List.mem_cons, List.not_mem_nil, or_false] at hn
      show n < 4; omega
    · show n_v vs 0 = n_v vs 0
      first | rfl | simp only [true_and]
  refine ⟨(fun _ h => (by cases h)), [], trivial, ?_, (fun _ h => (by cases h))⟩
  rw [List.append_nil]
  exact List.forall_mem_cons.mpr ⟨⟨show (20 : Nat) < 100 from by decide, nf0⟩, List.forall_mem_cons.mpr ⟨⟨show (24 : Nat) < 100 from by decide, nf1⟩, (fun _ h => (by cases h))⟩⟩
def o_Ho_writeEdges_1 : or_T := (129, 7, [(0, (2, 0, 0, [12])), (2, (0, 0, 99998128, [])), (3, (2, 0, 0, [12])), (4, (2, 0, 0, [3])), (5, (0, 0, 48, [])), (6, (0, 0, 48, []))], [(7, [5, 6], [3]), (9, [6, 4], [1]), (20, [3, 2, 5], [30, 0, 1, 1, 12, -1, 0, 0, -39, 0, 0]), (24, [0, 3], [])], [], [], [(20, [0, 2], [30, 1872, 1, 1, 12, -1, 0, 0])], [], [(5, 6, 0, 4294967296)])
theorem oo_Ho_writeEdges_1 {kA : Nat → ClassId} : or_ok kA GG o_Ho_writeEdges_1 := by
  intro A ta ws vs hD hth hl hk hds hf
  have hl : vs.length = 7 := hl
  have hk : ∀ q ∈ ([(0, (2, 0, 0, [12])), (2, (0, 0, 99998128, [])), (3, (2, 0, 0, [12])), (4, (2, 0, 0, [3])), (5, (0, 0, 48, [])), (6, (0, 0, 48, []))] : List (Nat × tv_T)), tv_ok ta q.2 (n_v vs q.1) := hk
  obtain ⟨t0, hk⟩ := List.forall_mem_cons.mp hk
  have t0 : tv_ok ta (2, 0, 0, [12]) (n_v vs 0) := t0
  have r0 : ta (v_ad (n_v vs 0)) = some 12 := tv_rg t0
  obtain ⟨t2, hk⟩ := List.forall_mem_cons.mp hk
  have t2 : tv_ok ta (0, 0, 99998128, []) (n_v vs 2) := t2
  have k2 : 0 ≤ v_iv (n_v vs 2) ∧ v_iv (n_v vs 2) ≤ 99998128 := tv_rng t2
  obtain ⟨t3, hk⟩ := List.forall_mem_cons.mp hk
  have t3 : tv_ok ta (2, 0, 0, [12]) (n_v vs 3) := t3
  have r3 : ta (v_ad (n_v vs 3)) = some 12 := tv_rg t3
  obtain ⟨t4, hk⟩ := List.forall_mem_cons.mp hk
  have t4 : tv_ok ta (2, 0, 0, [3]) (n_v vs 4) := t4
  have r4 : ta (v_ad (n_v vs 4)) = some 3 := tv_rg t4
  obtain ⟨t5, hk⟩ := List.forall_mem_cons.mp hk
  have t5 : tv_ok ta (0, 0, 48, []) (n_v vs 5) := t5
  have k5 : 0 ≤ v_iv (n_v vs 5) ∧ v_iv (n_v vs 5) ≤ 48 := tv_rng t5
  obtain ⟨t6, hk⟩ := List.forall_mem_cons.mp hk
  have t6 : tv_ok ta (0, 0, 48, []) (n_v vs 6) := t6
  have k6 : 0 ≤ v_iv (n_v vs 6) ∧ v_iv (n_v vs 6) ≤ 48 := tv_rng t6
  have hds : ∀ q ∈ ([(5, 6, 0, 4294967296)] : List of_T), n_iv vs q.2.1 + q.2.2.1 ≤ n_iv vs q.1 ∧ n_iv vs q.1 ≤ n_iv vs q.2.1 + q.2.2.2 := hds
  obtain ⟨d0, hds⟩ := List.forall_mem_cons.mp hds
  have d0 : v_iv (n_v vs 6) + 0 ≤ v_iv (n_v vs 5) ∧ v_iv (n_v vs 5) ≤ v_iv (n_v vs 6) + 4294967296 := d0
  have hf : fc_ok [(7, [5, 6], [3]), (9, [6, 4], [1]), (20, [3, 2, 5], [30, 0, 1, 1, 12, -1, 0, 0, -39, 0, 0]), (24, [0, 3], [])] ta ws vs := hf
  obtain ⟨f0, hf⟩ := fc_un (show (7 : Nat) < 100 from by decide) hf
  have f0 : v_iv (n_v vs 6) ≤ v_iv (n_v vs 5) := f0
  obtain ⟨f1, hf⟩ := fc_un (show (9 : Nat) < 100 from by decide) hf
  have f1 : n_v vs 6 = w_fd ws (v_ad (n_v vs 4)) 1 := f1
  obtain ⟨f2, hf⟩ := fc_un (show (20 : Nat) < 100 from by decide) hf
  have f2 : 1 * w_fi ws (n_v vs 3) 12 + ((-1) * v_iv (n_v vs 2) + ((-39) * v_iv (n_v vs 5) + 0)) ≤ 0 := f2
  obtain ⟨f3, hf⟩ := fc_un (show (24 : Nat) < 100 from by decide) hf
  have f3 : n_v vs 0 = n_v vs 3 := f3
  have q3 : n_v vs 3 = n_v vs 0 := f3.symm
  rw [q3] at f2
  have g1 : v_iv (n_v vs 6) = w_fi ws (n_v vs 4) 1 := congrArg v_iv f1
  have kz_0_12 : 0 ≤ w_fi ws (n_v vs 0) 12 ∧ w_fi ws (n_v vs 0) 12 ≤ 100000000 := tv_rng (th_fd hD hth r0 (g := GG_12) rfl (k := 12) (t := (0, 0, 100000000, [])) rfl rfl)
  have kz_4_1 : 0 ≤ w_fi ws (n_v vs 4) 1 ∧ w_fi ws (n_v vs 4) 1 ≤ 48 := tv_rng (th_fd hD hth r4 (g := GG_3) rfl (k := 1) (t := (0, 0, 48, [])) rfl rfl)
  have nf0 : fc_1 (20, [0, 2], [30, 1872, 1, 1, 12, -1, 0, 0]) ws (vs) := by
    refine ⟨fun n hn => ?_, ?_⟩
    · have hn : n ∈ [0, 2] := hn
      rw [hl]
      simp only [List.mem_cons, List.not_mem_nil, or_false] at hn
      show n < 7; omega
    · show 1 * w_fi ws (n_v vs 0) 12 + ((-1) * v_iv (n_v vs 2) + 0) ≤ 1872
      omega
  refine ⟨(fun _ h => (by cases h)), [], trivial, ?_, (fun _ h => (by cases h))⟩
  rw [List.append_nil]
  exact List.forall_mem_cons.mpr ⟨⟨show (20 : Nat) < 100 from by decide, nf0⟩, (fun _ h => (by cases h))⟩
def o_Ho_writeEdges_2 : or_T := (32, 13, [(0, (2, 0, 0, [12])), (2, (0, 0, 99998128, [])), (3, (2, 0, 0, [12])), (4, (2, 0, 0, [3])), (5, (0, 0, 47, [])), (6, (0, 1, 48, []))], [(7, [5, 6], [2]), (9, [6, 4], [1]), (20, [3, 2, 5], [30, 0, 1, 1, 12, -1, 0, 0, -39, 0, 0]), (24, [0, 3], [])], [], [(0, 0, 99999992, [])], [(20, [3, 13], [30, 0, 1, 1, 12, -1, 0, 0]), (23, [13, 2, 5], [0, 1, -1, -39])], [], [(5, 6, -4294967296, -1)])
theorem oo_Ho_writeEdges_2 {kA : Nat → ClassId} : or_ok kA GG o_Ho_writeEdges_2 := by
  intro A ta ws vs hD hth hl hk hds hf
  have hl : vs.length = 13 := hl
  have hk : ∀ q ∈ ([(0, (2, 0, 0, [12])), (2, (0, 0, 99998128, [])), (3, (2, 0, 0, [12])), (4, (2, 0, 0, [3])), (5, (0, 0, 47, [])), (6, (0, 1, 48, []))] : List (Nat × tv_T)), tv_ok ta q.2 (n_v vs q.1) := hk
  obtain ⟨t0, hk⟩ := List.forall_mem_cons.mp hk
  have t0 : tv_ok ta (2, 0, 0, [12]) (n_v vs 0) := t0
  have r0 : ta (v_ad (n_v vs 0)) = some 12 := tv_rg t0
  obtain ⟨t2, hk⟩ := List.forall_mem_cons.mp hk
  have t2 : tv_ok ta (0, 0, 99998128, []) (n_v vs 2) := t2
  have k2 : 0 ≤ v_iv (n_v vs 2) ∧ v_iv (n_v vs 2) ≤ 99998128 := tv_rng t2
  obtain ⟨t3, hk⟩ := List.forall_mem_cons.mp hk
  have t3 : tv_ok ta (2, 0, 0, [12]) (n_v vs 3) := t3
  have r3 : ta (v_ad (n_v vs 3)) = some 12 := tv_rg t3
  obtain ⟨t4, hk⟩ := List.forall_mem_cons.mp hk
  have t4 : tv_ok ta (2, 0, 0, [3]) (n_v vs 4) := t4
  have r4 : ta (v_ad (n_v vs 4)) = some 3 := tv_rg t4
  obtain ⟨t5, hk⟩ := List.forall_mem_cons.mp hk
  have t5 : tv_ok ta (0, 0, 47, []) (n_v vs 5) := t5
  have k5 : 0 ≤ v_iv (n_v vs 5) ∧ v_iv (n_v vs 5) ≤ 47 := tv_rng t5
  obtain ⟨t6, hk⟩ := List.forall_mem_cons.mp hk
  have t6 : tv_ok ta (0, 1, 48, []) (n_v vs 6) := t6
  have k6 : 1 ≤ v_iv (n_v vs 6) ∧ v_iv (n_v vs 6) ≤ 48 := tv_rng t6
  have hds : ∀ q ∈ ([(5, 6, -4294967296, -1)] : List of_T), n_iv vs q.2.1 + q.2.2.1 ≤ n_iv vs q.1 ∧ n_iv vs q.1 ≤ n_iv vs q.2.1 + q.2.2.2 := hds
  obtain ⟨d0, hds⟩ := List.forall_mem_cons.mp hds
  have d0 : v_iv (n_v vs 6) + (-4294967296) ≤ v_iv (n_v vs 5) ∧ v_iv (n_v vs 5) ≤ v_iv (n_v vs 6) + (-1) := d0
  have hf : fc_ok [(7, [5, 6], [2]), (9, [6, 4], [1]), (20, [3, 2, 5], [30, 0, 1, 1, 12, -1, 0, 0, -39, 0, 0]), (24, [0, 3], [])] ta ws vs := hf
  obtain ⟨f0, hf⟩ := fc_un (show (7 : Nat) < 100 from by decide) hf
  have f0 : v_iv (n_v vs 5) < v_iv (n_v vs 6) := f0
  obtain ⟨f1, hf⟩ := fc_un (show (9 : Nat) < 100 from by decide) hf
  have f1 : n_v vs 6 = w_fd ws (v_ad (n_v vs 4)) 1 := f1
  obtain ⟨f2, hf⟩ := fc_un (show (20 : Nat) < 100 from by decide) hf
  have f2 : 1 * w_fi ws (n_v vs 3) 12 + ((-1) * v_iv (n_v vs 2) + ((-39) * v_iv (n_v vs 5) + 0)) ≤ 0 := f2
  obtain ⟨f3, hf⟩ := fc_un (show (24 : Nat) < 100 from by decide) hf
  have f3 : n_v vs 0 = n_v vs 3 := f3
  have q3 : n_v vs 3 = n_v vs 0 := f3.symm
  rw [q3] at f2
  have g1 : v_iv (n_v vs 6) = w_fi ws (n_v vs 4) 1 := congrArg v_iv f1
  have kz_0_12 : 0 ≤ w_fi ws (n_v vs 0) 12 ∧ w_fi ws (n_v vs 0) 12 ≤ 100000000 := tv_rng (th_fd hD hth r0 (g := GG_12) rfl (k := 12) (t := (0, 0, 100000000, [])) rfl rfl)
  have kz_4_1 : 0 ≤ w_fi ws (n_v vs 4) 1 ∧ w_fi ws (n_v vs 4) 1 ≤ 48 := tv_rng (th_fd hD hth r4 (g := GG_3) rfl (k := 1) (t := (0, 0, 48, [])) rfl rfl)
  have kv0 : 0 ≤ w_fi ws (n_v vs 0) 12 ∧ w_fi ws (n_v vs 0) 12 ≤ 100000000 := tv_rng (th_fd hD hth r0 (g := GG_12) rfl (k := 12) (t := (0, 0, 100000000, [])) rfl rfl)
  obtain ⟨x, ex, hx⟩ := iv_ex (ta := ta) (lo := 0) (hi := 99999992) (z := w_fi ws (n_v vs 0) 12) (by omega) (by omega) (by omega) (by omega)
  have ex2 : v_iv (Value.int x) = w_fi ws (n_v vs 0) 12 := ex
  have ex3 : 0 ≤ v_iv (Value.int x) ∧ v_iv (Value.int x) ≤ 99999992 := tv_rng hx
  have e_2 : n_v (vs ++ [Value.int x]) 2 = n_v vs 2 := n_v_old (by rw [hl]; decide)
  have e_3 : n_v (vs ++ [Value.int x]) 3 = n_v vs 3 := n_v_old (by rw [hl]; decide)
  have e_5 : n_v (vs ++ [Value.int x]) 5 = n_v vs 5 := n_v_old (by rw [hl]; decide)
  have e_13 : n_v (vs ++ [Value.int x]) 13 = Value.int x := n_v_new hl
  have nf0 : fc_1 (20, [3, 13], [30, 0, 1, 1, 12, -1, 0, 0]) ws (vs ++ [Value.int x]) := by
    refine ⟨fun n hn => ?_, ?_⟩
    · have hn : n ∈ [3, 13] := hn
      rw [List.length_append, hl]
      simp only [List.mem_cons, List.not_mem_nil, or_false] at hn
      show n < 13 + 1; omega
    · show 1 * w_fi ws (n_v (vs ++ [Value.int x]) 3) 12 + ((-1) * v_iv (n_v (vs ++ [Value.int x]) 13) + 0) ≤ 0
      rw [e_3]
      rw [e_13]
      rw [q3]
      omega
  have nf1 : fc_1 (23, [13, 2, 5], [0, 1, -1, -39]) ws (vs ++ [Value.int x]) := by
    refine ⟨fun n hn => ?_, ?_⟩
    · have hn : n ∈ [13, 2, 5] := hn
      rw [List.length_append, hl]
      simp only [List.mem_cons, List.not_mem_nil, or_false] at hn
      show n < 13 + 1; omega
    · show 1 * v_iv (n_v (vs ++ [Value.int x]) 13) + ((-1) * v_iv (n_v (vs ++ [Value.int x]) 2) + ((-39) * v_iv (n_v (vs ++ [Value.int x]) 5) + 0)) ≤ 0
      rw [e_2]
      rw [e_5]
      rw [e_13]
      omega
  exact ⟨(fun _ h => (by cases h)), [Value.int x], ag_one hx, List.forall_mem_cons.mpr ⟨⟨show (20 : Nat) < 100 from by decide, nf0⟩, List.forall_mem_cons.mpr ⟨⟨show (23 : Nat) < 100 from by decide, nf1⟩, (fun _ h => (by cases h))⟩⟩, (fun _ h => (by cases h))⟩
def o_Ho_writeEdges_3 : or_T := (55, 18, [(0, (2, 0, 0, [12])), (2, (0, 0, 99998128, [])), (3, (2, 0, 0, [12])), (5, (0, 0, 47, [])), (6, (0, 1, 48, [])), (13, (0, 0, 99999992, []))], [(23, [13, 2, 5], [0, 1, -1, -39]), (24, [0, 3], []), (20, [3, 13], [30, 8, 1, 1, 12, -1, 0, 0]), (102, [13], [261336857795280739939871698507597986398208, 12012]), (23, [13, 2, 5], [0, 1, -1, -39]), (7, [5, 6], [2])], [], [(0, 0, 99999997, [])], [(20, [3, 18], [30, 0, 1, 1, 12, -1, 0, 0]), (23, [18, 2, 5], [8, 1, -1, -39])], [], [(5, 6, -4294967296, -1)])
theorem oo_Ho_writeEdges_3 {kA : Nat → ClassId} : or_ok kA GG o_Ho_writeEdges_3 := by
  intro A ta ws vs hD hth hl hk hds hf
  have hl : vs.length = 18 := hl
  have hk : ∀ q ∈ ([(0, (2, 0, 0, [12])), (2, (0, 0, 99998128, [])), (3, (2, 0, 0, [12])), (5, (0, 0, 47, [])), (6, (0, 1, 48, [])), (13, (0, 0, 99999992, []))] : List (Nat × tv_T)), tv_ok ta q.2 (n_v vs q.1) := hk
  obtain ⟨t0, hk⟩ := List.forall_mem_cons.mp hk
  have t0 : tv_ok ta (2, 0, 0, [12]) (n_v vs 0) := t0
  have r0 : ta (v_ad (n_v vs 0)) = some 12 := tv_rg t0
  obtain ⟨t2, hk⟩ := List.forall_mem_cons.mp hk
  have t2 : tv_ok ta (0, 0, 99998128, []) (n_v vs 2) := t2
  have k2 : 0 ≤ v_iv (n_v vs 2) ∧ v_iv (n_v vs 2) ≤ 99998128 := tv_rng t2
  obtain ⟨t3, hk⟩ := List.forall_mem_cons.mp hk
  have t3 : tv_ok ta (2, 0, 0, [12]) (n_v vs 3) := t3
  have r3 : ta (v_ad (n_v vs 3)) = some 12 := tv_rg t3
  obtain ⟨t5, hk⟩ := List.forall_mem_cons.mp hk
  have t5 : tv_ok ta (0, 0, 47, []) (n_v vs 5) := t5
  have k5 : 0 ≤ v_iv (n_v vs 5) ∧ v_iv (n_v vs 5) ≤ 47 := tv_rng t5
  obtain ⟨t6, hk⟩ := List.forall_mem_cons.mp hk
  have t6 : tv_ok ta (0, 1, 48, []) (n_v vs 6) := t6
  have k6 : 1 ≤ v_iv (n_v vs 6) ∧ v_iv (n_v vs 6) ≤ 48 := tv_rng t6
  obtain ⟨t13, hk⟩ := List.forall_mem_cons.mp hk
  have t13 : tv_ok ta (0, 0, 99999992, []) (n_v vs 13) := t13
  have k13 : 0 ≤ v_iv (n_v vs 13) ∧ v_iv (n_v vs 13) ≤ 99999992 := tv_rng t13
  have hds : ∀ q ∈ ([(5, 6, -4294967296, -1)] : List of_T), n_iv vs q.2.1 + q.2.2.1 ≤ n_iv vs q.1 ∧ n_iv vs q.1 ≤ n_iv vs q.2.1 + q.2.2.2 := hds
  obtain ⟨d0, hds⟩ := List.forall_mem_cons.mp hds
  have d0 : v_iv (n_v vs 6) + (-4294967296) ≤ v_iv (n_v vs 5) ∧ v_iv (n_v vs 5) ≤ v_iv (n_v vs 6) + (-1) := d0
  have hf : fc_ok [(23, [13, 2, 5], [0, 1, -1, -39]), (24, [0, 3], []), (20, [3, 13], [30, 8, 1, 1, 12, -1, 0, 0]), (102, [13], [261336857795280739939871698507597986398208, 12012]), (23, [13, 2, 5], [0, 1, -1, -39]), (7, [5, 6], [2])] ta ws vs := hf
  obtain ⟨f0, hf⟩ := fc_un (show (23 : Nat) < 100 from by decide) hf
  have f0 : 1 * v_iv (n_v vs 13) + ((-1) * v_iv (n_v vs 2) + ((-39) * v_iv (n_v vs 5) + 0)) ≤ 0 := f0
  obtain ⟨f1, hf⟩ := fc_un (show (24 : Nat) < 100 from by decide) hf
  have f1 : n_v vs 0 = n_v vs 3 := f1
  obtain ⟨f2, hf⟩ := fc_un (show (20 : Nat) < 100 from by decide) hf
  have f2 : 1 * w_fi ws (n_v vs 3) 12 + ((-1) * v_iv (n_v vs 13) + 0) ≤ 8 := f2
  obtain ⟨ta1, w1, le1, ⟨_, s1⟩, hf⟩ := fc_us (show ¬ (102 : Nat) < 100 from by decide) hf
  obtain ⟨f4, hf⟩ := fc_un (show (23 : Nat) < 100 from by decide) hf
  have f4 : 1 * v_iv (n_v vs 13) + ((-1) * v_iv (n_v vs 2) + ((-39) * v_iv (n_v vs 5) + 0)) ≤ 0 := f4
  obtain ⟨f5, hf⟩ := fc_un (show (7 : Nat) < 100 from by decide) hf
  have f5 : v_iv (n_v vs 5) < v_iv (n_v vs 6) := f5
  have q3 : n_v vs 3 = n_v vs 0 := f1.symm
  rw [q3] at f2
  have kz_0_12 : 0 ≤ w_fi ws (n_v vs 0) 12 ∧ w_fi ws (n_v vs 0) 12 ≤ 100000000 := tv_rng (th_fd hD hth r0 (g := GG_12) rfl (k := 12) (t := (0, 0, 100000000, [])) rfl rfl)
  have kv0 : 0 ≤ w_fi ws (n_v vs 0) 12 ∧ w_fi ws (n_v vs 0) 12 ≤ 100000000 := tv_rng (th_fd hD hth r0 (g := GG_12) rfl (k := 12) (t := (0, 0, 100000000, [])) rfl rfl)
  obtain ⟨x, ex, hx⟩ := iv_ex (ta := ta) (lo := 0) (hi := 99999997) (z := w_fi ws (n_v vs 0) 12) (by omega) (by omega) (by omega) (by omega)
  have ex2 : v_iv (Value.int x) = w_fi ws (n_v vs 0) 12 := ex
  have ex3 : 0 ≤ v_iv (Value.int x) ∧ v_iv (Value.int x) ≤ 99999997 := tv_rng hx
  have e_2 : n_v (vs ++ [Value.int x]) 2 = n_v vs 2 := n_v_old (by rw [hl]; decide)
  have e_3 : n_v (vs ++ [Value.int x]) 3 = n_v vs 3 := n_v_old (by rw [hl]; decide)
  have e_5 : n_v (vs ++ [Value.int x]) 5 = n_v vs 5 := n_v_old (by rw [hl]; decide)
  have e_18 : n_v (vs ++ [Value.int x]) 18 = Value.int x := n_v_new hl
  have nf0 : fc_1 (20, [3, 18], [30, 0, 1, 1, 12, -1, 0, 0]) ws (vs ++ [Value.int x]) := by
    refine ⟨fun n hn => ?_, ?_⟩
    · have hn : n ∈ [3, 18] := hn
      rw [List.length_append, hl]
      simp only [List.mem_cons, List.not_mem_nil, or_false] at hn
      show n < 18 + 1; omega
    · show 1 * w_fi ws (n_v (vs ++ [Value.int x]) 3) 12 + ((-1) * v_iv (n_v (vs ++ [Value.int x]) 18) + 0) ≤ 0
      rw [e_3]
      rw [e_18]
      rw [q3]
      omega
  have nf1 : fc_1 (23, [18, 2, 5], [8, 1, -1, -39]) ws (vs ++ [Value.int x]) := by
    refine ⟨fun n hn => ?_, ?_⟩
    · have hn : n ∈ [18, 2, 5] := hn
      rw [List.length_append, hl]
      simp only [List.mem_cons, List.not_mem_nil, or_false] at hn
      show n < 18 + 1; omega
    · show 1 * v_iv (n_v (vs ++ [Value.int x]) 18) + ((-1) * v_iv (n_v (vs ++ [Value.int x]) 2) + ((-39) * v_iv (n_v (vs ++ [Value.int x]) 5) + 0)) ≤ 8
      rw [e_2]
      rw [e_5]
      rw [e_18]
      omega
  exact ⟨(fun _ h => (by cases h)), [Value.int x], ag_one hx, List.forall_mem_cons.mpr ⟨⟨show (20 : Nat) < 100 from by decide, nf0⟩, List.forall_mem_cons.mpr ⟨⟨show (23 : Nat) < 100 from by decide, nf1⟩, (fun _ h => (by cases h))⟩⟩, (fun _ h => (by cases h))⟩
def o_Ho_writeEdges_4 : or_T := (80, 23, [(0, (2, 0, 0, [12])), (2, (0, 0, 99998128, [])), (3, (2, 0, 0, [12])), (5, (0, 0, 47, [])), (6, (0, 1, 48, [])), (13, (0, 0, 99999992, [])), (18, (0, 0, 99999997, []))], [(23, [18, 2, 5], [8, 1, -1, -39]), (23, [13, 2, 5], [0, 1, -1, -39]), (24, [0, 3], []), (20, [3, 18], [30, 3, 1, 1, 12, -1, 0, 0]), (102, [18], [261336857795280739939871698507597986398208, 12012]), (23, [18, 2, 5], [8, 1, -1, -39]), (23, [13, 2, 5], [0, 1, -1, -39]), (102, [13], [261336857795280739939871698507597986398208, 12012]), (23, [13, 2, 5], [0, 1, -1, -39]), (7, [5, 6], [2])], [], [(0, 0, 99999992, [])], [(20, [3, 23], [30, 0, 1, 1, 12, -1, 0, 0]), (23, [23, 2, 5], [11, 1, -1, -39])], [], [(5, 6, -4294967296, -1)])
theorem oo_Ho_writeEdges_4 {kA : Nat → ClassId} : or_ok kA GG o_Ho_writeEdges_4 := by
  intro A ta ws vs hD hth hl hk hds hf
  have hl : vs.length = 23 := hl
  have hk : ∀ q ∈ ([(0, (2, 0, 0, [12])), (2, (0, 0, 99998128, [])), (3, (2, 0, 0, [12])), (5, (0, 0, 47, [])), (6, (0, 1, 48, [])), (13, (0, 0, 99999992, [])), (18, (0, 0, 99999997, []))] : List (Nat × tv_T)), tv_ok ta q.2 (n_v vs q.1) := hk
  obtain ⟨t0, hk⟩ := List.forall_mem_cons.mp hk
  have t0 : tv_ok ta (2, 0, 0, [12]) (n_v vs 0) := t0
  have r0 : ta (v_ad (n_v vs 0)) = some 12 := tv_rg t0
  obtain ⟨t2, hk⟩ := List.forall_mem_cons.mp hk
  have t2 : tv_ok ta (0, 0, 99998128, []) (n_v vs 2) := t2
  have k2 : 0 ≤ v_iv (n_v vs 2) ∧ v_iv (n_v vs 2) ≤ 99998128 := tv_rng t2
  obtain ⟨t3, hk⟩ := List.forall_mem_cons.mp hk
  have t3 : tv_ok ta (2, 0, 0, [12]) (n_v vs 3) := t3
  have r3 : ta (v_ad (n_v vs 3)) = some 12 := tv_rg t3
  obtain ⟨t5, hk⟩ := List.forall_mem_cons.mp hk
  have t5 : tv_ok ta (0, 0, 47, []) (n_v vs 5) := t5
  have k5 : 0 ≤ v_iv (n_v vs 5) ∧ v_iv (n_v vs 5) ≤ 47 := tv_rng t5
  obtain ⟨t6, hk⟩ := List.forall_mem_cons.mp hk
  have t6 : tv_ok ta (0, 1, 48, []) (n_v vs 6) := t6
  have k6 : 1 ≤ v_iv (n_v vs 6) ∧ v_iv (n_v vs 6) ≤ 48 := tv_rng t6
  obtain ⟨t13, hk⟩ := List.forall_mem_cons.mp hk
  have t13 : tv_ok ta (0, 0, 99999992, []) (n_v vs 13) := t13
  have k13 : 0 ≤ v_iv (n_v vs 13) ∧ v_iv (n_v vs 13) ≤ 99999992 := tv_rng t13
  obtain ⟨t18, hk⟩ := List.forall_mem_cons.mp hk
  have t18 : tv_ok ta (0, 0, 99999997, []) (n_v vs 18) := t18
  have k18 : 0 ≤ v_iv (n_v vs 18) ∧ v_iv (n_v vs 18) ≤ 99999997 := tv_rng t18
  have hds : ∀ q ∈ ([(5, 6, -4294967296, -1)] : List of_T), n_iv vs q.2.1 + q.2.2.1 ≤ n_iv vs q.1 ∧ n_iv vs q.1 ≤ n_iv vs q.2.1 + q.2.2.2 := hds
  obtain ⟨d0, hds⟩ := List.forall_mem_cons.mp hds
  have d0 : v_iv (n_v vs 6) + (-4294967296) ≤ v_iv (n_v vs 5) ∧ v_iv (n_v vs 5) ≤ v_iv (n_v vs 6) + (-1) := d0
  have hf : fc_ok [(23, [18, 2, 5], [8, 1, -1, -39]), (23, [13, 2, 5], [0, 1, -1, -39]), (24, [0, 3], []), (20, [3, 18], [30, 3, 1, 1, 12, -1, 0, 0]), (102, [18], [261336857795280739939871698507597986398208, 12012]), (23, [18, 2, 5], [8, 1, -1, -39]), (23, [13, 2, 5], [0, 1, -1, -39]), (102, [13], [261336857795280739939871698507597986398208, 12012]), (23, [13, 2, 5], [0, 1, -1, -39]), (7, [5, 6], [2])] ta ws vs := hf
  obtain ⟨f0, hf⟩ := fc_un (show (23 : Nat) < 100 from by decide) hf
  have f0 : 1 * v_iv (n_v vs 18) + ((-1) * v_iv (n_v vs 2) + ((-39) * v_iv (n_v vs 5) + 0)) ≤ 8 := f0
  obtain ⟨f1, hf⟩ := fc_un (show (23 : Nat) < 100 from by decide) hf
  have f1 : 1 * v_iv (n_v vs 13) + ((-1) * v_iv (n_v vs 2) + ((-39) * v_iv (n_v vs 5) + 0)) ≤ 0 := f1
  obtain ⟨f2, hf⟩ := fc_un (show (24 : Nat) < 100 from by decide) hf
  have f2 : n_v vs 0 = n_v vs 3 := f2
  obtain ⟨f3, hf⟩ := fc_un (show (20 : Nat) < 100 from by decide) hf
  have f3 : 1 * w_fi ws (n_v vs 3) 12 + ((-1) * v_iv (n_v vs 18) + 0) ≤ 3 := f3
  obtain ⟨ta1, w1, le1, ⟨_, s1⟩, hf⟩ := fc_us (show ¬ (102 : Nat) < 100 from by decide) hf
  obtain ⟨f5, hf⟩ := fc_un (show (23 : Nat) < 100 from by decide) hf
  have f5 : 1 * v_iv (n_v vs 18) + ((-1) * v_iv (n_v vs 2) + ((-39) * v_iv (n_v vs 5) + 0)) ≤ 8 := f5
  obtain ⟨f6, hf⟩ := fc_un (show (23 : Nat) < 100 from by decide) hf
  have f6 : 1 * v_iv (n_v vs 13) + ((-1) * v_iv (n_v vs 2) + ((-39) * v_iv (n_v vs 5) + 0)) ≤ 0 := f6
  obtain ⟨ta2, w2, le2, ⟨_, s2⟩, hf⟩ := fc_us (show ¬ (102 : Nat) < 100 from by decide) hf
  obtain ⟨f8, hf⟩ := fc_un (show (23 : Nat) < 100 from by decide) hf
  have f8 : 1 * v_iv (n_v vs 13) + ((-1) * v_iv (n_v vs 2) + ((-39) * v_iv (n_v vs 5) + 0)) ≤ 0 := f8
  obtain ⟨f9, hf⟩ := fc_un (show (7 : Nat) < 100 from by decide) hf
  have f9 : v_iv (n_v vs 5) < v_iv (n_v vs 6) := f9
  have q3 : n_v vs 3 = n_v vs 0 := f2.symm
  rw [q3] at f3
  have kz_0_12 : 0 ≤ w_fi ws (n_v vs 0) 12 ∧ w_fi ws (n_v vs 0) 12 ≤ 100000000 := tv_rng (th_fd hD hth r0 (g := GG_12) rfl (k := 12) (t := (0, 0, 100000000, [])) rfl rfl)
  have kv0 : 0 ≤ w_fi ws (n_v vs 0) 12 ∧ w_fi ws (n_v vs 0) 12 ≤ 100000000 := tv_rng (th_fd hD hth r0 (g := GG_12) rfl (k := 12) (t := (0, 0, 100000000, [])) rfl rfl)
  obtain ⟨x, ex, hx⟩ := iv_ex (ta := ta) (lo := 0) (hi := 99999992) (z := w_fi ws (n_v vs 0) 12) (by omega) (by omega) (by omega) (by omega)
  have ex2 : v_iv (Value.int x) = w_fi ws (n_v vs 0) 12 := ex
  have ex3 : 0 ≤ v_iv (Value.int x) ∧ v_iv (Value.int x) ≤ 99999992 := tv_rng hx
  have e_2 : n_v (vs ++ [Value.int x]) 2 = n_v vs 2 := n_v_old (by rw [hl]; decide)
  have e_3 : n_v (vs ++ [Value.int x]) 3 = n_v vs 3 := n_v_old (by rw [hl]; decide)
  have e_5 : n_v (vs ++ [Value.int x]) 5 = n_v vs 5 := n_v_old (by rw [hl]; decide)
  have e_23 : n_v (vs ++ [Value.int x]) 23 = Value.int x := n_v_new hl
  have nf0 : fc_1 (20, [3, 23], [30, 0, 1, 1, 12, -1, 0, 0]) ws (vs ++ [Value.int x]) := by
    refine ⟨fun n hn => ?_, ?_⟩
    · have hn : n ∈ [3, 23] := hn
      rw [List.length_append, hl]
      simp only [List.mem_cons, List.not_mem_nil, or_false] at hn
      show n < 23 + 1; omega
    · show 1 * w_fi ws (n_v (vs ++ [Value.int x]) 3) 12 + ((-1) * v_iv (n_v (vs ++ [Value.int x]) 23) + 0) ≤ 0
      rw [e_3]
      rw [e_23]
      rw [q3]
      omega
  have nf1 : fc_1 (23, [23, 2, 5], [11, 1, -1, -39]) ws (vs ++ [Value.int x]) := by
    refine ⟨fun n hn => ?_, ?_⟩
    · have hn : n ∈ [23, 2, 5] := hn
      rw [List.length_append, hl]
      simp only [List.mem_cons, List.not_mem_nil, or_false] at hn
      show n < 23 + 1; omega
    · show 1 * v_iv (n_v (vs ++ [Value.int x]) 23) + ((-1) * v_iv (n_v (vs ++ [Value.int x]) 2) + ((-39) * v_iv (n_v (vs ++ [Value.int x]) 5) + 0)) ≤ 11
      rw [e_2]
      rw [e_5]
      rw [e_23]
      omega
  exact ⟨(fun _ h => (by cases h)), [Value.int x], ag_one hx, List.forall_mem_cons.mpr ⟨⟨show (20 : Nat) < 100 from by decide, nf0⟩, List.forall_mem_cons.mpr ⟨⟨show (23 : Nat) < 100 from by decide, nf1⟩, (fun _ h => (by cases h))⟩⟩, (fun _ h => (by cases h))⟩
def o_Ho_writeEdges_5 : or_T := (120, 28, [(0, (2, 0, 0, [12])), (2, (0, 0, 99998128, [])), (3, (2, 0, 0, [12])), (5, (0, 0, 47, [])), (6, (0, 1, 48, [])), (13, (0, 0, 99999992, [])), (18, (0, 0, 99999997, [])), (23, (0, 0, 99999992, []))], [(23, [23, 2, 5], [11, 1, -1, -39]), (23, [18, 2, 5], [8, 1, -1, -39]), (23, [13, 2, 5], [0, 1, -1, -39]), (24, [0, 3], []), (20, [3, 23], [30, 8, 1, 1, 12, -1, 0, 0]), (102, [23], [261336857795280739939871698507597986398208, 12012]), (23, [23, 2, 5], [11, 1, -1, -39]), (23, [18, 2, 5], [8, 1, -1, -39]), (23, [13, 2, 5], [0, 1, -1, -39]), (102, [18], [261336857795280739939871698507597986398208, 12012]), (23, [18, 2, 5], [8, 1, -1, -39]), (23, [13, 2, 5], [0, 1, -1, -39]), (102, [13], [261336857795280739939871698507597986398208, 12012]), (23, [13, 2, 5], [0, 1, -1, -39]), (7, [5, 6], [2])], [], [(0, 0, 99999998, [])], [(20, [3, 28], [30, 0, 1, 1, 12, -1, 0, 0]), (23, [28, 2, 5], [37, 1, -1, -39])], [], [(5, 6, -4294967296, -1)])
theorem oo_Ho_writeEdges_5 {kA : Nat → ClassId} : or_ok kA GG o_Ho_writeEdges_5 := by
  intro A ta ws vs hD hth hl hk hds hf
  have hl : vs.length = 28 := hl
  have hk : ∀ q ∈ ([(0, (2, 0, 0, [12])), (2, (0, 0, 99998128, [])), (3, (2, 0, 0, [12])), (5, (0, 0, 47, [])), (6, (0, 1, 48, [])), (13, (0, 0, 99999992, [])), (18, (0, 0, 99999997, [])), (23, (0, 0, 99999992, []))] : List (Nat × tv_T)), tv_ok ta q.2 (n_v vs q.1) := hk
  obtain ⟨t0, hk⟩ := List.forall_mem_cons.mp hk
  have t0 : tv_ok ta (2, 0, 0, [12]) (n_v vs 0) := t0
  have r0 : ta (v_ad (n_v vs 0)) = some 12 := tv_rg t0
  obtain ⟨t2, hk⟩ := List.forall_mem_cons.mp hk
  have t2 : tv_ok ta (0, 0, 99998128, []) (n_v vs 2) := t2
  have k2 : 0 ≤ v_iv (n_v vs 2) ∧ v_iv (n_v vs 2) ≤ 99998128 := tv_rng t2
  obtain ⟨t3, hk⟩ := List.forall_mem_cons.mp hk
  have t3 : tv_ok ta (2, 0, 0, [12]) (n_v vs 3) := t3
  have r3 : ta (v_ad (n_v vs 3)) = some 12 := tv_rg t3
  obtain ⟨t5, hk⟩ := List.forall_mem_cons.mp hk
  have t5 : tv_ok ta (0, 0, 47, []) (n_v vs 5) := t5
  have k5 : 0 ≤ v_iv (n_v vs 5) ∧ v_iv (n_v vs 5) ≤ 47 := tv_rng t5
  obtain ⟨t6, hk⟩ := List.forall_mem_cons.mp hk
  have t6 : tv_ok ta (0, 1, 48, []) (n_v vs 6) := t6
  have k6 : 1 ≤ v_iv (n_v vs 6) ∧ v_iv (n_v vs 6) ≤ 48 := tv_rng t6
  obtain ⟨t13, hk⟩ := List.forall_mem_cons.mp hk
  have t13 : tv_ok ta (0, 0, 99999992, []) (n_v vs 13) := t13
  have k13 : 0 ≤ v_iv (n_v vs 13) ∧ v_iv (n_v vs 13) ≤ 99999992 := tv_rng t13
  obtain ⟨t18, hk⟩ := List.forall_mem_cons.mp hk
  have t18 : tv_ok ta (0, 0, 99999997, []) (n_v vs 18) := t18
  have k18 : 0 ≤ v_iv (n_v vs 18) ∧ v_iv (n_v vs 18) ≤ 99999997 := tv_rng t18
  obtain ⟨t23, hk⟩ := List.forall_mem_cons.mp hk
  have t23 : tv_ok ta (0, 0, 99999992, []) (n_v vs 23) := t23
  have k23 : 0 ≤ v_iv (n_v vs 23) ∧ v_iv (n_v vs 23) ≤ 99999992 := tv_rng t23
  have hds : ∀ q ∈ ([(5, 6, -4294967296, -1)] : List of_T), n_iv vs q.2.1 + q.2.2.1 ≤ n_iv vs q.1 ∧ n_iv vs q.1 ≤ n_iv vs q.2.1 + q.2.2.2 := hds
  obtain ⟨d0, hds⟩ := List.forall_mem_cons.mp hds
  have d0 : v_iv (n_v vs 6) + (-4294967296) ≤ v_iv (n_v vs 5) ∧ v_iv (n_v vs 5) ≤ v_iv (n_v vs 6) + (-1) := d0
  have hf : fc_ok [(23, [23, 2, 5], [11, 1, -1, -39]), (23, [18, 2, 5], [8, 1, -1, -39]), (23, [13, 2, 5], [0, 1, -1, -39]), (24, [0, 3], []), (20, [3, 23], [30, 8, 1, 1, 12, -1, 0, 0]), (102, [23], [261336857795280739939871698507597986398208, 12012]), (23, [23, 2, 5], [11, 1, -1, -39]), (23, [18, 2, 5], [8, 1, -1, -39]), (23, [13, 2, 5], [0, 1, -1, -39]), (102, [18], [261336857795280739939871698507597986398208, 12012]), (23, [18, 2, 5], [8, 1, -1, -39]), (23, [13, 2, 5], [0, 1, -1, -39]), (102, [13], [261336857795280739939871698507597986398208, 12012]), (23, [13, 2, 5], [0, 1, -1, -39]), (7, [5, 6], [2])] ta ws vs := hf
  obtain ⟨f0, hf⟩ := fc_un (show (23 : Nat) < 100 from by decide) hf
  have f0 : 1 * v_iv (n_v vs 23) + ((-1) * v_iv (n_v vs 2) + ((-39) * v_iv (n_v vs 5) + 0)) ≤ 11 := f0
  obtain ⟨f1, hf⟩ := fc_un (show (23 : Nat) < 100 from by decide) hf
  have f1 : 1 * v_iv (n_v vs 18) + ((-1) * v_iv (n_v vs 2) + ((-39) * v_iv (n_v vs 5) + 0)) ≤ 8 := f1
  obtain ⟨f2, hf⟩ := fc_un (show (23 : Nat) < 100 from by decide) hf
  have f2 : 1 * v_iv (n_v vs 13) + ((-1) * v_iv (n_v vs 2) + ((-39) * v_iv (n_v vs 5) + 0)) ≤ 0 := f2
  obtain ⟨f3, hf⟩ := fc_un (show (24 : Nat) < 100 from by decide) hf
  have f3 : n_v vs 0 = n_v vs 3 := f3
  obtain ⟨f4, hf⟩ := fc_un (show (20 : Nat) < 100 from by decide) hf
  have f4 : 1 * w_fi ws (n_v vs 3) 12 + ((-1) * v_iv (n_v vs 23) + 0) ≤ 8 := f4
  obtain ⟨ta1, w1, le1, ⟨_, s1⟩, hf⟩ := fc_us (show ¬ (102 : Nat) < 100 from by decide) hf
  obtain ⟨f6, hf⟩ := fc_un (show (23 : Nat) < 100 from by decide) hf
  have f6 : 1 * v_iv (n_v vs 23) + ((-1) * v_iv (n_v vs 2) + ((-39) * v_iv (n_v vs 5) + 0)) ≤ 11 := f6
  obtain ⟨f7, hf⟩ := fc_un (show (23 : Nat) < 100 from by decide) hf
  have f7 : 1 * v_iv (n_v vs 18) + ((-1) * v_iv (n_v vs 2) + ((-39) * v_iv (n_v vs 5) + 0)) ≤ 8 := f7
  obtain ⟨f8, hf⟩ := fc_un (show (23 : Nat) < 100 from by decide) hf
  have f8 : 1 * v_iv (n_v vs 13) + ((-1) * v_iv (n_v vs 2) + ((-39) * v_iv (n_v vs 5) + 0)) ≤ 0 := f8
  obtain ⟨ta2, w2, le2, ⟨_, s2⟩, hf⟩ := fc_us (show ¬ (102 : Nat) < 100 from by decide) hf
  obtain ⟨f10, hf⟩ := fc_un (show (23 : Nat) < 100 from by decide) hf
  have f10 : 1 * v_iv (n_v vs 18) + ((-1) * v_iv (n_v vs 2) + ((-39) * v_iv (n_v vs 5) + 0)) ≤ 8 := f10
  obtain ⟨f11, hf⟩ := fc_un (show (23 : Nat) < 100 from by decide) hf
  have f11 : 1 * v_iv (n_v vs 13) + ((-1) * v_iv (n_v vs 2) + ((-39) * v_iv (n_v vs 5) + 0)) ≤ 0 := f11
  obtain ⟨ta3, w3, le3, ⟨_, s3⟩, hf⟩ := fc_us (show ¬ (102 : Nat) < 100 from by decide) hf
  obtain ⟨f13, hf⟩ := fc_un (show (23 : Nat) < 100 from by decide) hf
  have f13 : 1 * v_iv (n_v vs 13) + ((-1) * v_iv (n_v vs 2) + ((-39) * v_iv (n_v vs 5) + 0)) ≤ 0 := f13
  obtain ⟨f14, hf⟩ := fc_un (show (7 : Nat) < 100 from by decide) hf
  have f14 : v_iv (n_v vs 5) < v_iv (n_v vs 6) := f14
  have q3 : n_v vs 3 = n_v vs 0 := f3.symm
  rw [q3] at f4
  have kz_0_12 : 0 ≤ w_fi ws (n_v vs 0) 12 ∧ w_fi ws (n_v vs 0) 12 ≤ 100000000 := tv_rng (th_fd hD hth r0 (g := GG_12) rfl (k := 12) (t := (0, 0, 100000000, [])) rfl rfl)
  have kv0 : 0 ≤ w_fi ws (n_v vs 0) 12 ∧ w_fi ws (n_v vs 0) 12 ≤ 100000000 := tv_rng (th_fd hD hth r0 (g := GG_12) rfl (k := 12) (t := (0, 0, 100000000, [])) rfl rfl)
  obtain ⟨x, ex, hx⟩ := iv_ex (ta := ta) (lo := 0) (hi := 99999998) (z := w_fi ws (n_v vs 0) 12) (by omega) (by omega) (by omega) (by omega)
  have ex2 : v_iv (Value.int x) = w_fi ws (n_v vs 0) 12 := ex
  have ex3 : 0 ≤ v_iv (Value.int x) ∧ v_iv (Value.int x) ≤ 99999998 := tv_rng hx
  have e_2 : n_v (vs ++ [Value.int x]) 2 = n_v vs 2 := n_v_old (by rw [hl]; decide)
  have e_3 : n_v (vs ++ [Value.int x]) 3 = n_v vs 3 := n_v_old (by rw [hl]; decide)
  have e_5 : n_v (vs ++ [Value.int x]) 5 = n_v vs 5 := n_v_old (by rw [hl]; decide)
  have e_28 : n_v (vs ++ [Value.int x]) 28 = Value.int x := n_v_new hl
  have nf0 : fc_1 (20, [3, 28], [30, 0, 1, 1, 12, -1, 0, 0]) ws (vs ++ [Value.int x]) := by
    refine ⟨fun n hn => ?_, ?_⟩
    · have hn : n ∈ [3, 28] := hn
      rw [List.length_append, hl]
      simp only [List.mem_cons, List.not_mem_nil, or_false] at hn
      show n < 28 + 1; omega
    · show 1 * w_fi ws (n_v (vs ++ [Value.int x]) 3) 12 + ((-1) * v_iv (n_v (vs ++ [Value.int x]) 28) + 0) ≤ 0
      rw [e_3]
      rw [e_28]
      rw [q3]
      omega
  have nf1 : fc_1 (23, [28, 2, 5], [37, 1, -1, -39]) ws (vs ++ [Value.int x]) := by
    refine ⟨fun n hn => ?_, ?_⟩
    · have hn : n ∈ [28, 2, 5] := hn
      rw [List.length_append, hl]
      simp only [List.mem_cons, List.not_mem_nil, or_false] at hn
      show n < 28 + 1; omega
    · show 1 * v_iv (n_v (vs ++ [Value.int x]) 28) + ((-1) * v_iv (n_v (vs ++ [Value.int x]) 2) + ((-39) * v_iv (n_v (vs ++ [Value.int x]) 5) + 0)) ≤ 37
      rw [e_2]
      rw [e_5]
      rw [e_28]
      omega
  exact ⟨(fun _ h => (by cases h)), [Value.int x], ag_one hx, List.forall_mem_cons.mpr ⟨⟨show (20 : Nat) < 100 from by decide, nf0⟩, List.forall_mem_cons.mpr ⟨⟨show (23 : Nat) < 100 from by decide, nf1⟩, (fun _ h => (by cases h))⟩⟩, (fun _ h => (by cases h))⟩
def o_Ho_writeEdges_6 : or_T := (2, 30, [(0, (2, 0, 0, [12])), (2, (0, 0, 99998128, [])), (3, (2, 0, 0, [12])), (5, (0, 0, 47, [])), (6, (0, 1, 48, [])), (13, (0, 0, 99999992, [])), (18, (0, 0, 99999997, [])), (23, (0, 0, 99999992, [])), (28, (0, 0, 99999998, [])), (29, (0, 1, 48, []))], [(6, [29, 5], [1]), (23, [28, 2, 5], [37, 1, -1, -39]), (23, [23, 2, 5], [11, 1, -1, -39]), (23, [18, 2, 5], [8, 1, -1, -39]), (23, [13, 2, 5], [0, 1, -1, -39]), (24, [0, 3], []), (20, [3, 28], [30, 2, 1, 1, 12, -1, 0, 0]), (102, [28], [261336857795280739939871698507597986398208, 12012]), (23, [28, 2, 5], [37, 1, -1, -39]), (23, [23, 2, 5], [11, 1, -1, -39]), (23, [18, 2, 5], [8, 1, -1, -39]), (23, [13, 2, 5], [0, 1, -1, -39]), (102, [23], [261336857795280739939871698507597986398208, 12012]), (23, [23, 2, 5], [11, 1, -1, -39]), (23, [18, 2, 5], [8, 1, -1, -39]), (23, [13, 2, 5], [0, 1, -1, -39]), (102, [18], [261336857795280739939871698507597986398208, 12012]), (23, [18, 2, 5], [8, 1, -1, -39]), (23, [13, 2, 5], [0, 1, -1, -39]), (102, [13], [261336857795280739939871698507597986398208, 12012]), (23, [13, 2, 5], [0, 1, -1, -39]), (7, [5, 6], [2])], [], [], [(20, [3, 2, 29], [30, 0, 1, 1, 12, -1, 0, 0, -39, 0, 0])], [], [(29, 5, 1, 1), (29, 6, -4294967296, 0), (5, 6, -4294967296, -1)])
theorem oo_Ho_writeEdges_6 {kA : Nat → ClassId} : or_ok kA GG o_Ho_writeEdges_6 := by
  intro A ta ws vs hD hth hl hk hds hf
  have hl : vs.length = 30 := hl
  have hk : ∀ q ∈ ([(0, (2, 0, 0, [12])), (2, (0, 0, 99998128, [])), (3, (2, 0, 0, [12])), (5, (0, 0, 47, [])), (6, (0, 1, 48, [])), (13, (0, 0, 99999992, [])), (18, (0, 0, 99999997, [])), (23, (0, 0, 99999992, [])), (28, (0, 0, 99999998, [])), (29, (0, 1, 48, []))] : List (Nat × tv_T)), tv_ok ta q.2 (n_v vs q.1) := hk
  obtain ⟨t0, hk⟩ := List.forall_mem_cons.mp hk
  have t0 : tv_ok ta (2, 0, 0, [12]) (n_v vs 0) := t0
  have r0 : ta (v_ad (n_v vs 0)) = some 12 := tv_rg t0
  obtain ⟨t2, hk⟩ := List.forall_mem_cons.mp hk
  have t2 : tv_ok ta (0, 0, 99998128, []) (n_v vs 2) := t2
  have k2 : 0 ≤ v_iv (n_v vs 2) ∧ v_iv (n_v vs 2) ≤ 99998128 := tv_rng t2
  obtain ⟨t3, hk⟩ := List.forall_mem_cons.mp hk
  have t3 : tv_ok ta (2, 0, 0, [12]) (n_v vs 3) := t3
  have r3 : ta (v_ad (n_v vs 3)) = some 12 := tv_rg t3
  obtain ⟨t5, hk⟩ := List.forall_mem_cons.mp hk
  have t5 : tv_ok ta (0, 0, 47, []) (n_v vs 5) := t5
  have k5 : 0 ≤ v_iv (n_v vs 5) ∧ v_iv (n_v vs 5) ≤ 47 := tv_rng t5
  obtain ⟨t6, hk⟩ := List.forall_mem_cons.mp hk
  have t6 : tv_ok ta (0, 1, 48, []) (n_v vs 6) := t6
  have k6 : 1 ≤ v_iv (n_v vs 6) ∧ v_iv (n_v vs 6) ≤ 48 := tv_rng t6
  obtain ⟨t13, hk⟩ := List.forall_mem_cons.mp hk
  have t13 : tv_ok ta (0, 0, 99999992, []) (n_v vs 13) := t13
  have k13 : 0 ≤ v_iv (n_v vs 13) ∧ v_iv (n_v vs 13) ≤ 99999992 := tv_rng t13
  obtain ⟨t18, hk⟩ := List.forall_mem_cons.mp hk
  have t18 : tv_ok ta (0, 0, 99999997, []) (n_v vs 18) := t18
  have k18 : 0 ≤ v_iv (n_v vs 18) ∧ v_iv (n_v vs 18) ≤ 99999997 := tv_rng t18
  obtain ⟨t23, hk⟩ := List.forall_mem_cons.mp hk
  have t23 : tv_ok ta (0, 0, 99999992, []) (n_v vs 23) := t23
  have k23 : 0 ≤ v_iv (n_v vs 23) ∧ v_iv (n_v vs 23) ≤ 99999992 := tv_rng t23
  obtain ⟨t28, hk⟩ := List.forall_mem_cons.mp hk
  have t28 : tv_ok ta (0, 0, 99999998, []) (n_v vs 28) := t28
  have k28 : 0 ≤ v_iv (n_v vs 28) ∧ v_iv (n_v vs 28) ≤ 99999998 := tv_rng t28
  obtain ⟨t29, hk⟩ := List.forall_mem_cons.mp hk
  have t29 : tv_ok ta (0, 1, 48, []) (n_v vs 29) := t29
  have k29 : 1 ≤ v_iv (n_v vs 29) ∧ v_iv (n_v vs 29) ≤ 48 := tv_rng t29
  have hds : ∀ q ∈ ([(29, 5, 1, 1), (29, 6, -4294967296, 0), (5, 6, -4294967296, -1)] : List of_T), n_iv vs q.2.1 + q.2.2.1 ≤ n_iv vs q.1 ∧ n_iv vs q.1 ≤ n_iv vs q.2.1 + q.2.2.2 := hds
  obtain ⟨d0, hds⟩ := List.forall_mem_cons.mp hds
  have d0 : v_iv (n_v vs 5) + 1 ≤ v_iv (n_v vs 29) ∧ v_iv (n_v vs 29) ≤ v_iv (n_v vs 5) + 1 := d0
  obtain ⟨d1, hds⟩ := List.forall_mem_cons.mp hds
  have d1 : v_iv (n_v vs 6) + (-4294967296) ≤ v_iv (n_v vs 29) ∧ v_iv (n_v vs 29) ≤ v_iv (n_v vs 6) + 0 := d1
  obtain ⟨d2, hds⟩ := List.forall_mem_cons.mp hds
  have d2 : v_iv (n_v vs 6) + (-4294967296) ≤ v_iv (n_v vs 5) ∧ v_iv (n_v vs 5) ≤ v_iv (n_v vs 6) + (-1) := d2
  have hf : fc_ok [(6, [29, 5], [1]), (23, [28, 2, 5], [37, 1, -1, -39]), (23, [23, 2, 5], [11, 1, -1, -39]), (23, [18, 2, 5], [8, 1, -1, -39]), (23, [13, 2, 5], [0, 1, -1, -39]), (24, [0, 3], []), (20, [3, 28], [30, 2, 1, 1, 12, -1, 0, 0]), (102, [28], [261336857795280739939871698507597986398208, 12012]), (23, [28, 2, 5], [37, 1, -1, -39]), (23, [23, 2, 5], [11, 1, -1, -39]), (23, [18, 2, 5], [8, 1, -1, -39]), (23, [13, 2, 5], [0, 1, -1, -39]), (102, [23], [261336857795280739939871698507597986398208, 12012]), (23, [23, 2, 5], [11, 1, -1, -39]), (23, [18, 2, 5], [8, 1, -1, -39]), (23, [13, 2, 5], [0, 1, -1, -39]), (102, [18], [261336857795280739939871698507597986398208, 12012]), (23, [18, 2, 5], [8, 1, -1, -39]), (23, [13, 2, 5], [0, 1, -1, -39]), (102, [13], [261336857795280739939871698507597986398208, 12012]), (23, [13, 2, 5], [0, 1, -1, -39]), (7, [5, 6], [2])] ta ws vs := hf
  obtain ⟨f0, hf⟩ := fc_un (show (6 : Nat) < 100 from by decide) hf
  have f0 : v_iv (n_v vs 29) = v_iv (n_v vs 5) + 1 := f0
  obtain ⟨f1, hf⟩ := fc_un (show (23 : Nat) < 100 from by decide) hf
  have f1 : 1 * v_iv (n_v vs 28) + ((-1) * v_iv (n_v vs 2) + ((-39) * v_iv (n_v vs 5) + 0)) ≤ 37 := f1
  obtain ⟨f2, hf⟩ := fc_un (show (23 : Nat) < 100 from by decide) hf
  have f2 : 1 * v_iv (n_v vs 23) + ((-1) * v_iv (n_v vs 2) + ((-39) * v_iv (n_v vs 5) + 0)) ≤ 11 := f2
  obtain ⟨f3, hf⟩ := fc_un (show (23 : Nat) < 100 from by decide) hf
  have f3 : 1 * v_iv (n_v vs 18) + ((-1) * v_iv (n_v vs 2) + ((-39) * v_iv (n_v vs 5) + 0)) ≤ 8 := f3
  obtain ⟨f4, hf⟩ := fc_un (show (23 : Nat) < 100 from by decide) hf
  have f4 : 1 * v_iv (n_v vs 13) + ((-1) * v_iv (n_v vs 2) + ((-39) * v_iv (n_v vs 5) + 0)) ≤ 0 := f4
  obtain ⟨f5, hf⟩ := fc_un (show (24 : Nat) < 100 from by decide) hf
  have f5 : n_v vs 0 = n_v vs 3 := f5
  obtain ⟨f6, hf⟩ := fc_un (show (20 : Nat) < 100 from by decide) hf
  have f6 : 1 * w_fi ws (n_v vs 3) 12 + ((-1) * v_iv (n_v vs 28) + 0) ≤ 2 := f6
  obtain ⟨ta1, w1, le1, ⟨_, s1⟩, hf⟩ := fc_us (show ¬ (102 : Nat) < 100 from by decide) hf
  obtain ⟨f8, hf⟩ := fc_un (show (23 : Nat) < 100 from by decide) hf
  have f8 : 1 * v_iv (n_v vs 28) + ((-1) * v_iv (n_v vs 2) + ((-39) * v_iv (n_v vs 5) + 0)) ≤ 37 := f8
  obtain ⟨f9, hf⟩ := fc_un (show (23 : Nat) < 100 from by decide) hf
  have f9 : 1 * v_iv (n_v vs 23) + ((-1) * v_iv (n_v vs 2) + ((-39) * v_iv (n_v vs 5) + 0)) ≤ 11 := f9
  obtain ⟨f10, hf⟩ := fc_un (show (23 : Nat) < 100 from by decide) hf
  have f10 : 1 * v_iv (n_v vs 18) + ((-1) * v_iv (n_v vs 2) + ((-39) * v_iv (n_v vs 5) + 0)) ≤ 8 := f10
  obtain ⟨f11, hf⟩ := fc_un (show (23 : Nat) < 100 from by decide) hf
  have f11 : 1 * v_iv (n_v vs 13) + ((-1) * v_iv (n_v vs 2) + ((-39) * v_iv (n_v vs 5) + 0)) ≤ 0 := f11
  obtain ⟨ta2, w2, le2, ⟨_, s2⟩, hf⟩ := fc_us (show ¬ (102 : Nat) < 100 from by decide) hf
  obtain ⟨f13, hf⟩ := fc_un (show (23 : Nat) < 100 from by decide) hf
  have f13 : 1 * v_iv (n_v vs 23) + ((-1) * v_iv (n_v vs 2) + ((-39) * v_iv (n_v vs 5) + 0)) ≤ 11 := f13
  obtain ⟨f14, hf⟩ := fc_un (show (23 : Nat) < 100 from by decide) hf
  have f14 : 1 * v_iv (n_v vs 18) + ((-1) * v_iv (n_v vs 2) + ((-39) * v_iv (n_v vs 5) + 0)) ≤ 8 := f14
  obtain ⟨f15, hf⟩ := fc_un (show (23 : Nat) < 100 from by decide) hf
  have f15 : 1 * v_iv (n_v vs 13) + ((-1) * v_iv (n_v vs 2) + ((-39) * v_iv (n_v vs 5) + 0)) ≤ 0 := f15
  obtain ⟨ta3, w3, le3, ⟨_, s3⟩, hf⟩ := fc_us (show ¬ (102 : Nat) < 100 from by decide) hf
  obtain ⟨f17, hf⟩ := fc_un (show (23 : Nat) < 100 from by decide) hf
  have f17 : 1 * v_iv (n_v vs 18) + ((-1) * v_iv (n_v vs 2) + ((-39) * v_iv (n_v vs 5) + 0)) ≤ 8 := f17
  obtain ⟨f18, hf⟩ := fc_un (show (23 : Nat) < 100 from by decide) hf
  have f18 : 1 * v_iv (n_v vs 13) + ((-1) * v_iv (n_v vs 2) + ((-39) * v_iv (n_v vs 5) + 0)) ≤ 0 := f18
  obtain ⟨ta4, w4, le4, ⟨_, s4⟩, hf⟩ := fc_us (show ¬ (102 : Nat) < 100 from by decide) hf
  obtain ⟨f20, hf⟩ := fc_un (show (23 : Nat) < 100 from by decide) hf
  have f20 : 1 * v_iv (n_v vs 13) + ((-1) * v_iv (n_v vs 2) + ((-39) * v_iv (n_v vs 5) + 0)) ≤ 0 := f20
  obtain ⟨f21, hf⟩ := fc_un (show (7 : Nat) < 100 from by decide) hf
  have f21 : v_iv (n_v vs 5) < v_iv (n_v vs 6) := f21
  have q3 : n_v vs 3 = n_v vs 0 := f5.symm
  rw [q3] at f6
  have kz_0_12 : 0 ≤ w_fi ws (n_v vs 0) 12 ∧ w_fi ws (n_v vs 0) 12 ≤ 100000000 := tv_rng (th_fd hD hth r0 (g := GG_12) rfl (k := 12) (t := (0, 0, 100000000, [])) rfl rfl)
  have nf0 : fc_1 (20, [3, 2, 29], [30, 0, 1, 1, 12, -1, 0, 0, -39, 0, 0]) ws (vs) := by
    refine ⟨fun n hn => ?_, ?_⟩
    · have hn : n ∈ [3, 2, 29] := hn
      rw [hl]
      simp only [List.mem_cons, List.not_mem_nil, or_false] at hn
      show n < 30; omega
    · show 1 * w_fi ws (n_v vs 3) 12 + ((-1) * v_iv (n_v vs 2) + ((-39) * v_iv (n_v vs 29) + 0)) ≤ 0
      rw [q3]
      omega
  refine ⟨(fun _ h => (by cases h)), [], trivial, ?_, (fun _ h => (by cases h))⟩
  rw [List.append_nil]
  exact List.forall_mem_cons.mpr ⟨⟨show (20 : Nat) < 100 from by decide, nf0⟩, (fun _ h => (by cases h))⟩
def o_Ho_writeEdges_7 : or_T := (97, 28, [(0, (2, 0, 0, [12])), (2, (0, 0, 99998128, [])), (3, (2, 0, 0, [12])), (5, (0, 0, 47, [])), (6, (0, 1, 48, [])), (13, (0, 0, 99999992, [])), (18, (0, 0, 99999997, [])), (23, (0, 0, 99999992, []))], [(23, [23, 2, 5], [11, 1, -1, -39]), (23, [18, 2, 5], [8, 1, -1, -39]), (23, [13, 2, 5], [0, 1, -1, -39]), (24, [0, 3], []), (20, [3, 23], [30, 8, 1, 1, 12, -1, 0, 0]), (102, [23], [261336857795280739939871698507597986398208, 12012]), (23, [23, 2, 5], [11, 1, -1, -39]), (23, [18, 2, 5], [8, 1, -1, -39]), (23, [13, 2, 5], [0, 1, -1, -39]), (102, [18], [261336857795280739939871698507597986398208, 12012]), (23, [18, 2, 5], [8, 1, -1, -39]), (23, [13, 2, 5], [0, 1, -1, -39]), (102, [13], [261336857795280739939871698507597986398208, 12012]), (23, [13, 2, 5], [0, 1, -1, -39]), (7, [5, 6], [2])], [], [(0, 0, 99999991, [])], [(20, [3, 28], [30, 0, 1, 1, 12, -1, 0, 0]), (23, [28, 2, 5], [19, 1, -1, -39])], [], [(5, 6, -4294967296, -1)])
theorem oo_Ho_writeEdges_7 {kA : Nat → ClassId} : or_ok kA GG o_Ho_writeEdges_7 := by
  intro A ta ws vs hD hth hl hk hds hf
  have hl : vs.length = 28 := hl
  have hk : ∀ q ∈ ([(0, (2, 0, 0, [12])), (2, (0, 0, 99998128, [])), (3, (2, 0, 0, [12])), (5, (0, 0, 47, [])), (6, (0, 1, 48, [])), (13, (0, 0, 99999992, [])), (18, (0, 0, 99999997, [])), (23, (0, 0, 99999992, []))] : List (Nat × tv_T)), tv_ok ta q.2 (n_v vs q.1) := hk
  obtain ⟨t0, hk⟩ := List.forall_mem_cons.mp hk
  have t0 : tv_ok ta (2, 0, 0, [12]) (n_v vs 0) := t0
  have r0 : ta (v_ad (n_v vs 0)) = some 12 := tv_rg t0
  obtain ⟨t2, hk⟩ := List.forall_mem_cons.mp hk
  have t2 : tv_ok ta (0, 0, 99998128, []) (n_v vs 2) := t2
  have k2 : 0 ≤ v_iv (n_v vs 2) ∧ v_iv (n_v vs 2) ≤ 99998128 := tv_rng t2
  obtain ⟨t3, hk⟩ := List.forall_mem_cons.mp hk
  have t3 : tv_ok ta (2, 0, 0, [12]) (n_v vs 3) := t3
  have r3 : ta (v_ad (n_v vs 3)) = some 12 := tv_rg t3
  obtain ⟨t5, hk⟩ := List.forall_mem_cons.mp hk
  have t5 : tv_ok ta (0, 0, 47, []) (n_v vs 5) := t5
  have k5 : 0 ≤ v_iv (n_v vs 5) ∧ v_iv (n_v vs 5) ≤ 47 := tv_rng t5
  obtain ⟨t6, hk⟩ := List.forall_mem_cons.mp hk
  have t6 : tv_ok ta (0, 1, 48, []) (n_v vs 6) := t6
  have k6 : 1 ≤ v_iv (n_v vs 6) ∧ v_iv (n_v vs 6) ≤ 48 := tv_rng t6
  obtain ⟨t13, hk⟩ := List.forall_mem_cons.mp hk
  have t13 : tv_ok ta (0, 0, 99999992, []) (n_v vs 13) := t13
  have k13 : 0 ≤ v_iv (n_v vs 13) ∧ v_iv (n_v vs 13) ≤ 99999992 := tv_rng t13
  obtain ⟨t18, hk⟩ := List.forall_mem_cons.mp hk
  have t18 : tv_ok ta (0, 0, 99999997, []) (n_v vs 18) := t18
  have k18 : 0 ≤ v_iv (n_v vs 18) ∧ v_iv (n_v vs 18) ≤ 99999997 := tv_rng t18
  obtain ⟨t23, hk⟩ := List.forall_mem_cons.mp hk
  have t23 : tv_ok ta (0, 0, 99999992, []) (n_v vs 23) := t23
  have k23 : 0 ≤ v_iv (n_v vs 23) ∧ v_iv (n_v vs 23) ≤ 99999992 := tv_rng t23
  have hds : ∀ q ∈ ([(5, 6, -4294967296, -1)] : List of_T), n_iv vs q.2.1 + q.2.2.1 ≤ n_iv vs q.1 ∧ n_iv vs q.1 ≤ n_iv vs q.2.1 + q.2.2.2 := hds
  obtain ⟨d0, hds⟩ := List.forall_mem_cons.mp hds
  have d0 : v_iv (n_v vs 6) + (-4294967296) ≤ v_iv (n_v vs 5) ∧ v_iv (n_v vs 5) ≤ v_iv (n_v vs 6) + (-1) := d0
  have hf : fc_ok [(23, [23, 2, 5], [11, 1, -1, -39]), (23, [18, 2, 5], [8, 1, -1, -39]), (23, [13, 2, 5], [0, 1, -1, -39]), (24, [0, 3], []), (20, [3, 23], [30, 8, 1, 1, 12, -1, 0, 0]), (102, [23], [261336857795280739939871698507597986398208, 12012]), (23, [23, 2, 5], [11, 1, -1, -39]), (23, [18, 2, 5], [8, 1, -1, -39]), (23, [13, 2, 5], [0, 1, -1, -39]), (102, [18], [261336857795280739939871698507597986398208, 12012]), (23, [18, 2, 5], [8, 1, -1, -39]), (23, [13, 2, 5], [0, 1, -1, -39]), (102, [13], [261336857795280739939871698507597986398208, 12012]), (23, [13, 2, 5], [0, 1, -1, -39]), (7, [5, 6], [2])] ta ws vs := hf
  obtain ⟨f0, hf⟩ := fc_un (show (23 : Nat) < 100 from by decide) hf
  have f0 : 1 * v_iv (n_v vs 23) + ((-1) * v_iv (n_v vs 2) + ((-39) * v_iv (n_v vs 5) + 0)) ≤ 11 := f0
  obtain ⟨f1, hf⟩ := fc_un (show (23 : Nat) < 100 from by decide) hf
  have f1 : 1 * v_iv (n_v vs 18) + ((-1) * v_iv (n_v vs 2) + ((-39) * v_iv (n_v vs 5) + 0)) ≤ 8 := f1
  obtain ⟨f2, hf⟩ := fc_un (show (23 : Nat) < 100 from by decide) hf
  have f2 : 1 * v_iv (n_v vs 13) + ((-1) * v_iv (n_v vs 2) + ((-39) * v_iv (n_v vs 5) + 0)) ≤ 0 := f2
  obtain ⟨f3, hf⟩ := fc_un (show (24 : Nat) < 100 from by decide) hf
  have f3 : n_v vs 0 = n_v vs 3 := f3
  obtain ⟨f4, hf⟩ := fc_un (show (20 : Nat) < 100 from by decide) hf
  have f4 : 1 * w_fi ws (n_v vs 3) 12 + ((-1) * v_iv (n_v vs 23) + 0) ≤ 8 := f4
  obtain ⟨ta1, w1, le1, ⟨_, s1⟩, hf⟩ := fc_us (show ¬ (102 : Nat) < 100 from by decide) hf
  obtain ⟨f6, hf⟩ := fc_un (show (23 : Nat) < 100 from by decide) hf
  have f6 : 1 * v_iv (n_v vs 23) + ((-1) * v_iv (n_v vs 2) + ((-39) * v_iv (n_v vs 5) + 0)) ≤ 11 := f6
  obtain ⟨f7, hf⟩ := fc_un (show (23 : Nat) < 100 from by decide) hf
  have f7 : 1 * v_iv (n_v vs 18) + ((-1) * v_iv (n_v vs 2) + ((-39) * v_iv (n_v vs 5) + 0)) ≤ 8 := f7
  obtain ⟨f8, hf⟩ := fc_un (show (23 : Nat) < 100 from by decide) hf
  have f8 : 1 * v_iv (n_v vs 13) + ((-1) * v_iv (n_v vs 2) + ((-39) * v_iv (n_v vs 5) + 0)) ≤ 0 := f8
  obtain ⟨ta2, w2, le2, ⟨_, s2⟩, hf⟩ := fc_us (show ¬ (102 : Nat) < 100 from by decide) hf
  obtain ⟨f10, hf⟩ := fc_un (show (23 : Nat) < 100 from by decide) hf
  have f10 : 1 * v_iv (n_v vs 18) + ((-1) * v_iv (n_v vs 2) + ((-39) * v_iv (n_v vs 5) + 0)) ≤ 8 := f10
  obtain ⟨f11, hf⟩ := fc_un (show (23 : Nat) < 100 from by decide) hf
  have f11 : 1 * v_iv (n_v vs 13) + ((-1) * v_iv (n_v vs 2) + ((-39) * v_iv (n_v vs 5) + 0)) ≤ 0 := f11
  obtain ⟨ta3, w3, le3, ⟨_, s3⟩, hf⟩ := fc_us (show ¬ (102 : Nat) < 100 from by decide) hf
  obtain ⟨f13, hf⟩ := fc_un (show (23 : Nat) < 100 from by decide) hf
  have f13 : 1 * v_iv (n_v vs 13) + ((-1) * v_iv (n_v vs 2) + ((-39) * v_iv (n_v vs 5) + 0)) ≤ 0 := f13
  obtain ⟨f14, hf⟩ := fc_un (show (7 : Nat) < 100 from by decide) hf
  have f14 : v_iv (n_v vs 5) < v_iv (n_v vs 6) := f14
  have q3 : n_v vs 3 = n_v vs 0 := f3.symm
  rw [q3] at f4
  have kz_0_12 : 0 ≤ w_fi ws (n_v vs 0) 12 ∧ w_fi ws (n_v vs 0) 12 ≤ 100000000 := tv_rng (th_fd hD hth r0 (g := GG_12) rfl (k := 12) (t := (0, 0, 100000000, [])) rfl rfl)
  have kv0 : 0 ≤ w_fi ws (n_v vs 0) 12 ∧ w_fi ws (n_v vs 0) 12 ≤ 100000000 := tv_rng (th_fd hD hth r0 (g := GG_12) rfl (k := 12) (t := (0, 0, 100000000, [])) rfl rfl)
  obtain ⟨x, ex, hx⟩ := iv_ex (ta := ta) (lo := 0) (hi := 99999991) (z := w_fi ws (n_v vs 0) 12) (by omega) (by omega) (by omega) (by omega)
  have ex2 : v_iv (Value.int x) = w_fi ws (n_v vs 0) 12 := ex
  have ex3 : 0 ≤ v_iv (Value.int x) ∧ v_iv (Value.int x) ≤ 99999991 := tv_rng hx
  have e_2 : n_v (vs ++ [Value.int x]) 2 = n_v vs 2 := n_v_old (by rw [hl]; decide)
  have e_3 : n_v (vs ++ [Value.int x]) 3 = n_v vs 3 := n_v_old (by rw [hl]; decide)
  have e_5 : n_v (vs ++ [Value.int x]) 5 = n_v vs 5 := n_v_old (by rw [hl]; decide)
  have e_28 : n_v (vs ++ [Value.int x]) 28 = Value.int x := n_v_new hl
  have nf0 : fc_1 (20, [3, 28], [30, 0, 1, 1, 12, -1, 0, 0]) ws (vs ++ [Value.int x]) := by
    refine ⟨fun n hn => ?_, ?_⟩
    · have hn : n ∈ [3, 28] := hn
      rw [List.length_append, hl]
      simp only [List.mem_cons, List.not_mem_nil, or_false] at hn
      show n < 28 + 1; omega
    · show 1 * w_fi ws (n_v (vs ++ [Value.int x]) 3) 12 + ((-1) * v_iv (n_v (vs ++ [Value.int x]) 28) + 0) ≤ 0
      rw [e_3]
      rw [e_28]
      rw [q3]
      omega
  have nf1 : fc_1 (23, [28, 2, 5], [19, 1, -1, -39]) ws (vs ++ [Value.int x]) := by
    refine ⟨fun n hn => ?_, ?_⟩
    · have hn : n ∈ [28, 2, 5] := hn
      rw [List.length_append, hl]
      simp only [List.mem_cons, List.not_mem_nil, or_false] at hn
      show n < 28 + 1; omega
    · show 1 * v_iv (n_v (vs ++ [Value.int x]) 28) + ((-1) * v_iv (n_v (vs ++ [Value.int x]) 2) + ((-39) * v_iv (n_v (vs ++ [Value.int x]) 5) + 0)) ≤ 19
      rw [e_2]
      rw [e_5]
      rw [e_28]
      omega
  exact ⟨(fun _ h => (by cases h)), [Value.int x], ag_one hx, List.forall_mem_cons.mpr ⟨⟨show (20 : Nat) < 100 from by decide, nf0⟩, List.forall_mem_cons.mpr ⟨⟨show (23 : Nat) < 100 from by decide, nf1⟩, (fun _ h => (by cases h))⟩⟩, (fun _ h => (by cases h))⟩
def o_Ho_writeEdges_8 : or_T := (107, 30, [(0, (2, 0, 0, [12])), (2, (0, 0, 99998128, [])), (3, (2, 0, 0, [12])), (5, (0, 0, 47, [])), (6, (0, 1, 48, [])), (13, (0, 0, 99999992, [])), (18, (0, 0, 99999997, [])), (23, (0, 0, 99999992, [])), (28, (0, 0, 99999991, []))], [(23, [28, 2, 5], [19, 1, -1, -39]), (23, [23, 2, 5], [11, 1, -1, -39]), (23, [18, 2, 5], [8, 1, -1, -39]), (23, [13, 2, 5], [0, 1, -1, -39]), (24, [0, 3], []), (20, [3, 28], [30, 9, 1, 1, 12, -1, 0, 0]), (102, [28], [261336857795280739939871698507597986398208, 12012]), (23, [28, 2, 5], [19, 1, -1, -39]), (23, [23, 2, 5], [11, 1, -1, -39]), (23, [18, 2, 5], [8, 1, -1, -39]), (23, [13, 2, 5], [0, 1, -1, -39]), (102, [23], [261336857795280739939871698507597986398208, 12012]), (23, [23, 2, 5], [11, 1, -1, -39]), (23, [18, 2, 5], [8, 1, -1, -39]), (23, [13, 2, 5], [0, 1, -1, -39]), (102, [18], [261336857795280739939871698507597986398208, 12012]), (23, [18, 2, 5], [8, 1, -1, -39]), (23, [13, 2, 5], [0, 1, -1, -39]), (102, [13], [261336857795280739939871698507597986398208, 12012]), (23, [13, 2, 5], [0, 1, -1, -39]), (7, [5, 6], [2])], [], [(0, 0, 99999992, [])], [(20, [3, 30], [30, 0, 1, 1, 12, -1, 0, 0]), (23, [30, 2, 5], [28, 1, -1, -39])], [], [(5, 6, -4294967296, -1)])
theorem oo_Ho_writeEdges_8 {kA : Nat → ClassId} : or_ok kA GG o_Ho_writeEdges_8 := by
  intro A ta ws vs hD hth hl hk hds hf
  have hl : vs.length = 30 := hl
  have hk : ∀ q ∈ ([(0, (2, 0, 0, [12])), (2, (0, 0, 99998128, [])), (3, (2, 0, 0, [12])), (5, (0, 0, 47, [])), (6, (0, 1, 48, [])), (13, (0, 0, 99999992, [])), (18, (0, 0, 99999997, [])), (23, (0, 0, 99999992, [])), (28, (0, 0, 99999991, []))] : List (Nat × tv_T)), tv_ok ta q.2 (n_v vs q.1) := hk
  obtain ⟨t0, hk⟩ := List.forall_mem_cons.mp hk
  have t0 : tv_ok ta (2, 0, 0, [12]) (n_v vs 0) := t0
  have r0 : ta (v_ad (n_v vs 0)) = some 12 := tv_rg t0
  obtain ⟨t2, hk⟩ := List.forall_mem_cons.mp hk
  have t2 : tv_ok ta (0, 0, 99998128, []) (n_v vs 2) := t2
  have k2 : 0 ≤ v_iv (n_v vs 2) ∧ v_iv (n_v vs 2) ≤ 99998128 := tv_rng t2
  obtain ⟨t3, hk⟩ := List.forall_mem_cons.mp hk
  have t3 : tv_ok ta (2, 0, 0, [12]) (n_v vs 3) := t3
  have r3 : ta (v_ad (n_v vs 3)) = some 12 := tv_rg t3
  obtain ⟨t5, hk⟩ := List.forall_mem_cons.mp hk
  have t5 : tv_ok ta (0, 0, 47, []) (n_v vs 5) := t5
  have k5 : 0 ≤ v_iv (n_v vs 5) ∧ v_iv (n_v vs 5) ≤ 47 := tv_rng t5
  obtain ⟨t6, hk⟩ := List.forall_mem_cons.mp hk
  have t6 : tv_ok ta (0, 1, 48, []) (n_v vs 6) := t6
  have k6 : 1 ≤ v_iv (n_v vs 6) ∧ v_iv (n_v vs 6) ≤ 48 := tv_rng t6
  obtain ⟨t13, hk⟩ := List.forall_mem_cons.mp hk
  have t13 : tv_ok ta (0, 0, 99999992, []) (n_v vs 13) := t13
  have k13 : 0 ≤ v_iv (n_v vs 13) ∧ v_iv (n_v vs 13) ≤ 99999992 := tv_rng t13
  obtain ⟨t18, hk⟩ := List.forall_mem_cons.mp hk
  have t18 : tv_ok ta (0, 0, 99999997, []) (n_v vs 18) := t18
  have k18 : 0 ≤ v_iv (n_v vs 18) ∧ v_iv (n_v vs 18) ≤ 99999997 := tv_rng t18
  obtain ⟨t23, hk⟩ := List.forall_mem_cons.mp hk
  have t23 : tv_ok ta (0, 0, 99999992, []) (n_v vs 23) := t23
  have k23 : 0 ≤ v_iv (n_v vs 23) ∧ v_iv (n_v vs 23) ≤ 99999992 := tv_rng t23
  obtain ⟨t28, hk⟩ := List.forall_mem_cons.mp hk
  have t28 : tv_ok ta (0, 0, 99999991, []) (n_v vs 28) := t28
  have k28 : 0 ≤ v_iv (n_v vs 28) ∧ v_iv (n_v vs 28) ≤ 99999991 := tv_rng t28
  have hds : ∀ q ∈ ([(5, 6, -4294967296, -1)] : List of_T), n_iv vs q.2.1 + q.2.2.1 ≤ n_iv vs q.1 ∧ n_iv vs q.1 ≤ n_iv vs q.2.1 + q.2.2.2 := hds
  obtain ⟨d0, hds⟩ := List.forall_mem_cons.mp hds
  have d0 : v_iv (n_v vs 6) + (-4294967296) ≤ v_iv (n_v vs 5) ∧ v_iv (n_v vs 5) ≤ v_iv (n_v vs 6) + (-1) := d0
  have hf : fc_ok [(23, [28, 2, 5], [19, 1, -1, -39]), (23, [23, 2, 5], [11, 1, -1, -39]), (23, [18, 2, 5], [8, 1, -1, -39]), (23, [13, 2, 5], [0, 1, -1, -39]), (24, [0, 3], []), (20, [3, 28], [30, 9, 1, 1, 12, -1, 0, 0]), (102, [28], [261336857795280739939871698507597986398208, 12012]), (23, [28, 2, 5], [19, 1, -1, -39]), (23, [23, 2, 5], [11, 1, -1, -39]), (23, [18, 2, 5], [8, 1, -1, -39]), (23, [13, 2, 5], [0, 1, -1, -39]), (102, [23], [261336857795280739939871698507597986398208, 12012]), (23, [23, 2, 5], [11, 1, -1, -39]), (23, [18, 2, 5], [8, 1, -1, -39]), (23, [13, 2, 5], [0, 1, -1, -39]), (102, [18], [261336857795280739939871698507597986398208, 12012]), (23, [18, 2, 5], [8, 1, -1, -39]), (23, [13, 2, 5], [0, 1, -1, -39]), (102, [13], [261336857795280739939871698507597986398208, 12012]), (23, [13, 2, 5], [0, 1, -1, -39]), (7, [5, 6], [2])] ta ws vs := hf
  obtain ⟨f0, hf⟩ := fc_un (show (23 : Nat) < 100 from by decide) hf
  have f0 : 1 * v_iv (n_v vs 28) + ((-1) * v_iv (n_v vs 2) + ((-39) * v_iv (n_v vs 5) + 0)) ≤ 19 := f0
  obtain ⟨f1, hf⟩ := fc_un (show (23 : Nat) < 100 from by decide) hf
  have f1 : 1 * v_iv (n_v vs 23) + ((-1) * v_iv (n_v vs 2) + ((-39) * v_iv (n_v vs 5) + 0)) ≤ 11 := f1
  obtain ⟨f2, hf⟩ := fc_un (show (23 : Nat) < 100 from by decide) hf
  have f2 : 1 * v_iv (n_v vs 18) + ((-1) * v_iv (n_v vs 2) + ((-39) * v_iv (n_v vs 5) + 0)) ≤ 8 := f2
  obtain ⟨f3, hf⟩ := fc_un (show (23 : Nat) < 100 from by decide) hf
  have f3 : 1 * v_iv (n_v vs 13) + ((-1) * v_iv (n_v vs 2) + ((-39) * v_iv (n_v vs 5) + 0)) ≤ 0 := f3
  obtain ⟨f4, hf⟩ := fc_un (show (24 : Nat) < 100 from by decide) hf
  have f4 : n_v vs 0 = n_v vs 3 := f4
  obtain ⟨f5, hf⟩ := fc_un (show (20 : Nat) < 100 from by decide) hf
  have f5 : 1 * w_fi ws (n_v vs 3) 12 + ((-1) * v_iv (n_v vs 28) + 0) ≤ 9 := f5
  obtain ⟨ta1, w1, le1, ⟨_, s1⟩, hf⟩ := fc_us (show ¬ (102 : Nat) < 100 from by decide) hf
  obtain ⟨f7, hf⟩ := fc_un (show (23 : Nat) < 100 from by decide) hf
  have f7 : 1 * v_iv (n_v vs 28) + ((-1) * v_iv (n_v vs 2) + ((-39) * v_iv (n_v vs 5) + 0)) ≤ 19 := f7
  obtain ⟨f8, hf⟩ := fc_un (show (23 : Nat) < 100 from by decide) hf
  have f8 : 1 * v_iv (n_v vs 23) + ((-1) * v_iv (n_v vs 2) + ((-39) * v_iv (n_v vs 5) + 0)) ≤ 11 := f8
  obtain ⟨f9, hf⟩ := fc_un (show (23 : Nat) < 100 from by decide) hf
  have f9 : 1 * v_iv (n_v vs 18) + ((-1) * v_iv (n_v vs 2) + ((-39) * v_iv (n_v vs 5) + 0)) ≤ 8 := f9
  obtain ⟨f10, hf⟩ := fc_un (show (23 : Nat) < 100 from by decide) hf
  have f10 : 1 * v_iv (n_v vs 13) + ((-1) * v_iv (n_v vs 2) + ((-39) * v_iv (n_v vs 5) + 0)) ≤ 0 := f10
  obtain ⟨ta2, w2, le2, ⟨_, s2⟩, hf⟩ := fc_us (show ¬ (102 : Nat) < 100 from by decide) hf
  obtain ⟨f12, hf⟩ := fc_un (show (23 : Nat) < 100 from by decide) hf
  have f12 : 1 * v_iv (n_v vs 23) + ((-1) * v_iv (n_v vs 2) + ((-39) * v_iv (n_v vs 5) + 0)) ≤ 11 := f12
  obtain ⟨f13, hf⟩ := fc_un (show (23 : Nat) < 100 from by decide) hf
  have f13 : 1 * v_iv (n_v vs 18) + ((-1) * v_iv (n_v vs 2) + ((-39) * v_iv (n_v vs 5) + 0)) ≤ 8 := f13
  obtain ⟨f14, hf⟩ := fc_un (show (23 : Nat) < 100 from by decide) hf
  have f14 : 1 * v_iv (n_v vs 13) + ((-1) * v_iv (n_v vs 2) + ((-39) * v_iv (n_v vs 5) + 0)) ≤ 0 := f14
  obtain ⟨ta3, w3, le3, ⟨_, s3⟩, hf⟩ := fc_us (show ¬ (102 : Nat) < 100 from by decide) hf
  obtain ⟨f16, hf⟩ := fc_un (show (23 : Nat) < 100 from by decide) hf
  have f16 : 1 * v_iv (n_v vs 18) + ((-1) * v_iv (n_v vs 2) + ((-39) * v_iv (n_v vs 5) + 0)) ≤ 8 := f16
  obtain ⟨f17, hf⟩ := fc_un (show (23 : Nat) < 100 from by decide) hf
  have f17 : 1 * v_iv (n_v vs 13) + ((-1) * v_iv (n_v vs 2) + ((-39) * v_iv (n_v vs 5) + 0)) ≤ 0 := f17
  obtain ⟨ta4, w4, le4, ⟨_, s4⟩, hf⟩ := fc_us (show ¬ (102 : Nat) < 100 from by decide) hf
  obtain ⟨f19, hf⟩ := fc_un (show (23 : Nat) < 100 from by decide) hf
  have f19 : 1 * v_iv (n_v vs 13) + ((-1) * v_iv (n_v vs 2) + ((-39) * v_iv (n_v vs 5) + 0)) ≤ 0 := f19
  obtain ⟨f20, hf⟩ := fc_un (show (7 : Nat) < 100 from by decide) hf
  have f20 : v_iv (n_v vs 5) < v_iv (n_v vs 6) := f20
  have q3 : n_v vs 3 = n_v vs 0 := f4.symm
  rw [q3] at f5
  have kz_0_12 : 0 ≤ w_fi ws (n_v vs 0) 12 ∧ w_fi ws (n_v vs 0) 12 ≤ 100000000 := tv_rng (th_fd hD hth r0 (g := GG_12) rfl (k := 12) (t := (0, 0, 100000000, [])) rfl rfl)
  have kv0 : 0 ≤ w_fi ws (n_v vs 0) 12 ∧ w_fi ws (n_v vs 0) 12 ≤ 100000000 := tv_rng (th_fd hD hth r0 (g := GG_12) rfl (k := 12) (t := (0, 0, 100000000, [])) rfl rfl)
  obtain ⟨x, ex, hx⟩ := iv_ex (ta := ta) (lo := 0) (hi := 99999992) (z := w_fi ws (n_v vs 0) 12) (by omega) (by omega) (by omega) (by omega)
  have ex2 : v_iv (Value.int x) = w_fi ws (n_v vs 0) 12 := ex
  have ex3 : 0 ≤ v_iv (Value.int x) ∧ v_iv (Value.int x) ≤ 99999992 := tv_rng hx
  have e_2 : n_v (vs ++ [Value.int x]) 2 = n_v vs 2 := n_v_old (by rw [hl]; decide)
  have e_3 : n_v (vs ++ [Value.int x]) 3 = n_v vs 3 := n_v_old (by rw [hl]; decide)
  have e_5 : n_v (vs ++ [Value.int x]) 5 = n_v vs 5 := n_v_old (by rw [hl]; decide)
  have e_30 : n_v (vs ++ [Value.int x]) 30 = Value.int x := n_v_new hl
  have nf0 : fc_1 (20, [3, 30], [30, 0, 1, 1, 12, -1, 0, 0]) ws (vs ++ [Value.int x]) := by
    refine ⟨fun n hn => ?_, ?_⟩
    · have hn : n ∈ [3, 30] := hn
      rw [List.length_append, hl]
      simp only [List.mem_cons, List.not_mem_nil, or_false] at hn
      show n < 30 + 1; omega
    · show 1 * w_fi ws (n_v (vs ++ [Value.int x]) 3) 12 + ((-1) * v_iv (n_v (vs ++ [Value.int x]) 30) + 0) ≤ 0
      rw [e_3]
      rw [e_30]
      rw [q3]
      omega
  have nf1 : fc_1 (23, [30, 2, 5], [28, 1, -1, -39]) ws (vs ++ [Value.int x]) := by
    refine ⟨fun n hn => ?_, ?_⟩
    · have hn : n ∈ [30, 2, 5] := hn
      rw [List.length_append, hl]
      simp only [List.mem_cons, List.not_mem_nil, or_false] at hn
      show n < 30 + 1; omega
    · show 1 * v_iv (n_v (vs ++ [Value.int x]) 30) + ((-1) * v_iv (n_v (vs ++ [Value.int x]) 2) + ((-39) * v_iv (n_v (vs ++ [Value.int x]) 5) + 0)) ≤ 28
      rw [e_2]
      rw [e_5]
      rw [e_30]
      omega
  exact ⟨(fun _ h => (by cases h)), [Value.int x], ag_one hx, List.forall_mem_cons.mpr ⟨⟨show (20 : Nat) < 100 from by decide, nf0⟩, List.forall_mem_cons.mpr ⟨⟨show (23 : Nat) < 100 from by decide, nf1⟩, (fun _ h => (by cases h))⟩⟩, (fun _ h => (by cases h))⟩
def o_Ho_writeEdges_9 : or_T := (113, 32, [(0, (2, 0, 0, [12])), (2, (0, 0, 99998128, [])), (3, (2, 0, 0, [12])), (5, (0, 0, 47, [])), (6, (0, 1, 48, [])), (13, (0, 0, 99999992, [])), (18, (0, 0, 99999997, [])), (23, (0, 0, 99999992, [])), (28, (0, 0, 99999991, [])), (30, (0, 0, 99999992, []))], [(23, [30, 2, 5], [28, 1, -1, -39]), (23, [28, 2, 5], [19, 1, -1, -39]), (23, [23, 2, 5], [11, 1, -1, -39]), (23, [18, 2, 5], [8, 1, -1, -39]), (23, [13, 2, 5], [0, 1, -1, -39]), (24, [0, 3], []), (20, [3, 30], [30, 8, 1, 1, 12, -1, 0, 0]), (102, [30], [261336857795280739939871698507597986398208, 12012]), (23, [30, 2, 5], [28, 1, -1, -39]), (23, [28, 2, 5], [19, 1, -1, -39]), (23, [23, 2, 5], [11, 1, -1, -39]), (23, [18, 2, 5], [8, 1, -1, -39]), (23, [13, 2, 5], [0, 1, -1, -39]), (102, [28], [261336857795280739939871698507597986398208, 12012]), (23, [28, 2, 5], [19, 1, -1, -39]), (23, [23, 2, 5], [11, 1, -1, -39]), (23, [18, 2, 5], [8, 1, -1, -39]), (23, [13, 2, 5], [0, 1, -1, -39]), (102, [23], [261336857795280739939871698507597986398208, 12012]), (23, [23, 2, 5], [11, 1, -1, -39]), (23, [18, 2, 5], [8, 1, -1, -39]), (23, [13, 2, 5], [0, 1, -1, -39]), (102, [18], [261336857795280739939871698507597986398208, 12012]), (23, [18, 2, 5], [8, 1, -1, -39]), (23, [13, 2, 5], [0, 1, -1, -39]), (102, [13], [261336857795280739939871698507597986398208, 12012]), (23, [13, 2, 5], [0, 1, -1, -39]), (7, [5, 6], [2])], [], [(0, 0, 99999999, [])], [(20, [3, 32], [30, 0, 1, 1, 12, -1, 0, 0]), (23, [32, 2, 5], [36, 1, -1, -39])], [], [(5, 6, -4294967296, -1)])
theorem oo_Ho_writeEdges_9 {kA : Nat → ClassId} : or_ok kA GG o_Ho_writeEdges_9 := by
  intro A ta ws vs hD hth hl hk hds hf
  have hl : vs.length = 32 := hl
  have hk : ∀ q ∈ ([(0, (2, 0, 0, [12])), (2, (0, 0, 99998128, [])), (3, (2, 0, 0, [12])), (5, (0, 0, 47, [])), (6, (0, 1, 48, [])), (13, (0, 0, 99999992, [])), (18, (0, 0, 99999997, [])), (23, (0, 0, 99999992, [])), (28, (0, 0, 99999991, [])), (30, (0, 0, 99999992, []))] : List (Nat × tv_T)), tv_ok ta q.2 (n_v vs q.1) := hk
  obtain ⟨t0, hk⟩ := List.forall_mem_cons.mp hk
  have t0 : tv_ok ta (2, 0, 0, [12]) (n_v vs 0) := t0
  have r0 : ta (v_ad (n_v vs 0)) = some 12 := tv_rg t0
  obtain ⟨t2, hk⟩ := List.forall_mem_cons.mp hk
  have t2 : tv_ok ta (0, 0, 99998128, []) (n_v vs 2) := t2
  have k2 : 0 ≤ v_iv (n_v vs 2) ∧ v_iv (n_v vs 2) ≤ 99998128 := tv_rng t2
  obtain ⟨t3, hk⟩ := List.forall_mem_cons.mp hk
  have t3 : tv_ok ta (2, 0, 0, [12]) (n_v vs 3) := t3
  have r3 : ta (v_ad (n_v vs 3)) = some 12 := tv_rg t3
  obtain ⟨t5, hk⟩ := List.forall_mem_cons.mp hk
  have t5 : tv_ok ta (0, 0, 47, []) (n_v vs 5) := t5
  have k5 : 0 ≤ v_iv (n_v vs 5) ∧ v_iv (n_v vs 5) ≤ 47 := tv_rng t5
  obtain ⟨t6, hk⟩ := List.forall_mem_cons.mp hk
  have t6 : tv_ok ta (0, 1, 48, []) (n_v vs 6) := t6
  have k6 : 1 ≤ v_iv (n_v vs 6) ∧ v_iv (n_v vs 6) ≤ 48 := tv_rng t6
  obtain ⟨t13, hk⟩ := List.forall_mem_cons.mp hk
  have t13 : tv_ok ta (0, 0, 99999992, []) (n_v vs 13) := t13
  have k13 : 0 ≤ v_iv (n_v vs 13) ∧ v_iv (n_v vs 13) ≤ 99999992 := tv_rng t13
  obtain ⟨t18, hk⟩ := List.forall_mem_cons.mp hk
  have t18 : tv_ok ta (0, 0, 99999997, []) (n_v vs 18) := t18
  have k18 : 0 ≤ v_iv (n_v vs 18) ∧ v_iv (n_v vs 18) ≤ 99999997 := tv_rng t18
  obtain ⟨t23, hk⟩ := List.forall_mem_cons.mp hk
  have t23 : tv_ok ta (0, 0, 99999992, []) (n_v vs 23) := t23
  have k23 : 0 ≤ v_iv (n_v vs 23) ∧ v_iv (n_v vs 23) ≤ 99999992 := tv_rng t23
  obtain ⟨t28, hk⟩ := List.forall_mem_cons.mp hk
  have t28 : tv_ok ta (0, 0, 99999991, []) (n_v vs 28) := t28
  have k28 : 0 ≤ v_iv (n_v vs 28) ∧ v_iv (n_v vs 28) ≤ 99999991 := tv_rng t28
  obtain ⟨t30, hk⟩ := List.forall_mem_cons.mp hk
  have t30 : tv_ok ta (0, 0, 99999992, []) (n_v vs 30) := t30
  have k30 : 0 ≤ v_iv (n_v vs 30) ∧ v_iv (n_v vs 30) ≤ 99999992 := tv_rng t30
  have hds : ∀ q ∈ ([(5, 6, -4294967296, -1)] : List of_T), n_iv vs q.2.1 + q.2.2.1 ≤ n_iv vs q.1 ∧ n_iv vs q.1 ≤ n_iv vs q.2.1 + q.2.2.2 := hds
  obtain ⟨d0, hds⟩ := List.forall_mem_cons.mp hds
  have d0 : v_iv (n_v vs 6) + (-4294967296) ≤ v_iv (n_v vs 5) ∧ v_iv (n_v vs 5) ≤ v_iv (n_v vs 6) + (-1) := d0
  have hf : fc_ok [(23, [30, 2, 5], [28, 1, -1, -39]), (23, [28, 2, 5], [19, 1, -1, -39]), (23, [23, 2, 5], [11, 1, -1, -39]), (23, [18, 2, 5], [8, 1, -1, -39]), (23, [13, 2, 5], [0, 1, -1, -39]), (24, [0, 3], []), (20, [3, 30], [30, 8, 1, 1, 12, -1, 0, 0]), (102, [30], [261336857795280739939871698507597986398208, 12012]), (23, [30, 2, 5], [28, 1, -1, -39]), (23, [28, 2, 5], [19, 1, -1, -39]), (23, [23, 2, 5], [11, 1, -1, -39]), (23, [18, 2, 5], [8, 1, -1, -39]), (23, [13, 2, 5], [0, 1, -1, -39]), (102, [28], [261336857795280739939871698507597986398208, 12012]), (23, [28, 2, 5], [19, 1, -1, -39]), (23, [23, 2, 5], [11, 1, -1, -39]), (23, [18, 2, 5], [8, 1, -1, -39]), (23, [13, 2, 5], [0, 1, -1, -39]), (102, [23], [261336857795280739939871698507597986398208, 12012]), (23, [23, 2, 5], [11, 1, -1, -39]), (23, [18, 2, 5], [8, 1, -1, -39]), (23, [13, 2, 5], [0, 1, -1, -39]), (102, [18], [261336857795280739939871698507597986398208, 12012]), (23, [18, 2, 5], [8, 1, -1, -39]), (23, [13, 2, 5], [0, 1, -1, -39]), (102, [13], [261336857795280739939871698507597986398208, 12012]), (23, [13, 2, 5], [0, 1, -1, -39]), (7, [5, 6], [2])] ta ws vs := hf
  obtain ⟨f0, hf⟩ := fc_un (show (23 : Nat) < 100 from by decide) hf
  have f0 : 1 * v_iv (n_v vs 30) + ((-1) * v_iv (n_v vs 2) + ((-39) * v_iv (n_v vs 5) + 0)) ≤ 28 := f0
  obtain ⟨f1, hf⟩ := fc_un (show (23 : Nat) < 100 from by decide) hf
  have f1 : 1 * v_iv (n_v vs 28) + ((-1) * v_iv (n_v vs 2) + ((-39) * v_iv (n_v vs 5) + 0)) ≤ 19 := f1
  obtain ⟨f2, hf⟩ := fc_un (show (23 : Nat) < 100 from by decide) hf
  have f2 : 1 * v_iv (n_v vs 23) + ((-1) * v_iv (n_v vs 2) + ((-39) * v_iv (n_v vs 5) + 0)) ≤ 11 := f2
  obtain ⟨f3, hf⟩ := fc_un (show (23 : Nat) < 100 from by decide) hf
  have f3 : 1 * v_iv (n_v vs 18) + ((-1) * v_iv (n_v vs 2) + ((-39) * v_iv (n_v vs 5) + 0)) ≤ 8 := f3
  obtain ⟨f4, hf⟩ := fc_un (show (23 : Nat) < 100 from by decide) hf
  have f4 : 1 * v_iv (n_v vs 13) + ((-1) * v_iv (n_v vs 2) + ((-39) * v_iv (n_v vs 5) + 0)) ≤ 0 := f4
  obtain ⟨f5, hf⟩ := fc_un (show (24 : Nat) < 100 from by decide) hf
  have f5 : n_v vs 0 = n_v vs 3 := f5
  obtain ⟨f6, hf⟩ := fc_un (show (20 : Nat) < 100 from by decide) hf
  have f6 : 1 * w_fi ws (n_v vs 3) 12 + ((-1) * v_iv (n_v vs 30) + 0) ≤ 8 := f6
  obtain ⟨ta1, w1, le1, ⟨_, s1⟩, hf⟩ := fc_us (show ¬ (102 : Nat) < 100 from by decide) hf
  obtain ⟨f8, hf⟩ := fc_un (show (23 : Nat) < 100 from by decide) hf
  have f8 : 1 * v_iv (n_v vs 30) + ((-1) * v_iv (n_v vs 2) + ((-39) * v_iv (n_v vs 5) + 0)) ≤ 28 := f8
  obtain ⟨f9, hf⟩ := fc_un (show (23 : Nat) < 100 from by decide) hf
  have f9 : 1 * v_iv (n_v vs 28) + ((-1) * v_iv (n_v vs 2) + ((-39) * v_iv (n_v vs 5) + 0)) ≤ 19 := f9
  obtain ⟨f10, hf⟩ := fc_un (show (23 : Nat) < 100 from by decide) hf
  have f10 : 1 * v_iv (n_v vs 23) + ((-1) * v_iv (n_v vs 2) + ((-39) * v_iv (n_v vs 5) + 0)) ≤ 11 := f10
  obtain ⟨f11, hf⟩ := fc_un (show (23 : Nat) < 100 from by decide) hf
  have f11 : 1 * v_iv (n_v vs 18) + ((-1) * v_iv (n_v vs 2) + ((-39) * v_iv (n_v vs 5) + 0)) ≤ 8 := f11
  obtain ⟨f12, hf⟩ := fc_un (show (23 : Nat) < 100 from by decide) hf
  have f12 : 1 * v_iv (n_v vs 13) + ((-1) * v_iv (n_v vs 2) + ((-39) * v_iv (n_v vs 5) + 0)) ≤ 0 := f12
  obtain ⟨ta2, w2, le2, ⟨_, s2⟩, hf⟩ := fc_us (show ¬ (102 : Nat) < 100 from by decide) hf
  obtain ⟨f14, hf⟩ := fc_un (show (23 : Nat) < 100 from by decide) hf
  have f14 : 1 * v_iv (n_v vs 28) + ((-1) * v_iv (n_v vs 2) + ((-39) * v_iv (n_v vs 5) + 0)) ≤ 19 := f14
  obtain ⟨f15, hf⟩ := fc_un (show (23 : Nat) < 100 from by decide) hf
  have f15 : 1 * v_iv (n_v vs 23) + ((-1) * v_iv (n_v vs 2) + ((-39) * v_iv (n_v vs 5) + 0)) ≤ 11 := f15
  obtain ⟨f16, hf⟩ := fc_un (show (23 : Nat) < 100 from by decide) hf
  have f16 : 1 * v_iv (n_v vs 18) + ((-1) * v_iv (n_v vs 2) + ((-39) * v_iv (n_v vs 5) + 0)) ≤ 8 := f16
  obtain ⟨f17, hf⟩ := fc_un (show (23 : Nat) < 100 from by decide) hf
  have f17 : 1 * v_iv (n_v vs 13) + ((-1) * v_iv (n_v vs 2) + ((-39) * v_iv (n_v vs 5) + 0)) ≤ 0 := f17
  obtain ⟨ta3, w3, le3, ⟨_, s3⟩, hf⟩ := fc_us (show ¬ (102 : Nat) < 100 from by decide) hf
  obtain ⟨f19, hf⟩ := fc_un (show (23 : Nat) < 100 from by decide) hf
  have f19 : 1 * v_iv (n_v vs 23) + ((-1) * v_iv (n_v vs 2) + ((-39) * v_iv (n_v vs 5) + 0)) ≤ 11 := f19
  obtain ⟨f20, hf⟩ := fc_un (show (23 : Nat) < 100 from by decide) hf
  have f20 : 1 * v_iv (n_v vs 18) + ((-1) * v_iv (n_v vs 2) + ((-39) * v_iv (n_v vs 5) + 0)) ≤ 8 := f20
  obtain ⟨f21, hf⟩ := fc_un (show (23 : Nat) < 100 from by decide) hf
  have f21 : 1 * v_iv (n_v vs 13) + ((-1) * v_iv (n_v vs 2) + ((-39) * v_iv (n_v vs 5) + 0)) ≤ 0 := f21
  obtain ⟨ta4, w4, le4, ⟨_, s4⟩, hf⟩ := fc_us (show ¬ (102 : Nat) < 100 from by decide) hf
  obtain ⟨f23, hf⟩ := fc_un (show (23 : Nat) < 100 from by decide) hf
  have f23 : 1 * v_iv (n_v vs 18) + ((-1) * v_iv (n_v vs 2) + ((-39) * v_iv (n_v vs 5) + 0)) ≤ 8 := f23
  obtain ⟨f24, hf⟩ := fc_un (show (23 : Nat) < 100 from by decide) hf
  have f24 : 1 * v_iv (n_v vs 13) + ((-1) * v_iv (n_v vs 2) + ((-39) * v_iv (n_v vs 5) + 0)) ≤ 0 := f24
  obtain ⟨ta5, w5, le5, ⟨_, s5⟩, hf⟩ := fc_us (show ¬ (102 : Nat) < 100 from by decide) hf
  obtain ⟨f26, hf⟩ := fc_un (show (23 : Nat) < 100 from by decide) hf
  have f26 : 1 * v_iv (n_v vs 13) + ((-1) * v_iv (n_v vs 2) + ((-39) * v_iv (n_v vs 5) + 0)) ≤ 0 := f26
  obtain ⟨f27, hf⟩ := fc_un (show (7 : Nat) < 100 from by decide) hf
  have f27 : v_iv (n_v vs 5) < v_iv (n_v vs 6) := f27
  have q3 : n_v vs 3 = n_v vs 0 := f5.symm
  rw [q3] at f6
  have kz_0_12 : 0 ≤ w_fi ws (n_v vs 0) 12 ∧ w_fi ws (n_v vs 0) 12 ≤ 100000000 := tv_rng (th_fd hD hth r0 (g := GG_12) rfl (k := 12) (t := (0, 0, 100000000, [])) rfl rfl)
  have kv0 : 0 ≤ w_fi ws (n_v vs 0) 12 ∧ w_fi ws (n_v vs 0) 12 ≤ 100000000 := tv_rng (th_fd hD hth r0 (g := GG_12) rfl (k := 12) (t := (0, 0, 100000000, [])) rfl rfl)
  obtain ⟨x, ex, hx⟩ := iv_ex (ta := ta) (lo := 0) (hi := 99999999) (z := w_fi ws (n_v vs 0) 12) (by omega) (by omega) (by omega) (by omega)
  have ex2 : v_iv (Value.int x) = w_fi ws (n_v vs 0) 12 := ex
  have ex3 : 0 ≤ v_iv (Value.int x) ∧ v_iv (Value.int x) ≤ 99999999 := tv_rng hx
  have e_2 : n_v (vs ++ [Value.int x]) 2 = n_v vs 2 := n_v_old (by rw [hl]; decide)
  have e_3 : n_v (vs ++ [Value.int x]) 3 = n_v vs 3 := n_v_old (by rw [hl]; decide)
  have e_5 : n_v (vs ++ [Value.int x]) 5 = n_v vs 5 := n_v_old (by rw [hl]; decide)
  have e_32 : n_v (vs ++ [Value.int x]) 32 = Value.int x := n_v_new hl
  have nf0 : fc_1 (20, [3, 32], [30, 0, 1, 1, 12, -1, 0, 0]) ws (vs ++ [Value.int x]) := by
    refine ⟨fun n hn => ?_, ?_⟩
    · have hn : n ∈ [3, 32] := hn
      rw [List.length_append, hl]
      simp only [List.mem_cons, List.not_mem_nil, or_false] at hn
      show n < 32 + 1; omega
    · show 1 * w_fi ws (n_v (vs ++ [Value.int x]) 3) 12 + ((-1) * v_iv (n_v (vs ++ [Value.int x]) 32) + 0) ≤ 0
      rw [e_3]
      rw [e_32]
      rw [q3]
      omega
  have nf1 : fc_1 (23, [32, 2, 5], [36, 1, -1, -39]) ws (vs ++ [Value.int x]) := by
    refine ⟨fun n hn => ?_, ?_⟩
    · have hn : n ∈ [32, 2, 5] := hn
      rw [List.length_append, hl]
      simp only [List.mem_cons, List.not_mem_nil, or_false] at hn
      show n < 32 + 1; omega
    · show 1 * v_iv (n_v (vs ++ [Value.int x]) 32) + ((-1) * v_iv (n_v (vs ++ [Value.int x]) 2) + ((-39) * v_iv (n_v (vs ++ [Value.int x]) 5) + 0)) ≤ 36
      rw [e_2]
      rw [e_5]
      rw [e_32]
      omega
  exact ⟨(fun _ h => (by cases h)), [Value.int x], ag_one hx, List.forall_mem_cons.mpr ⟨⟨show (20 : Nat) < 100 from by decide, nf0⟩, List.forall_mem_cons.mpr ⟨⟨show (23 : Nat) < 100 from by decide, nf1⟩, (fun _ h => (by cases h))⟩⟩, (fun _ h => (by cases h))⟩
def o_Ho_writeEdges_10 : or_T := (120, 34, [(0, (2, 0, 0, [12])), (2, (0, 0, 99998128, [])), (3, (2, 0, 0, [12])), (5, (0, 0, 47, [])), (6, (0, 1, 48, [])), (13, (0, 0, 99999992, [])), (18, (0, 0, 99999997, [])), (23, (0, 0, 99999992, [])), (28, (0, 0, 99999991, [])), (30, (0, 0, 99999992, [])), (32, (0, 0, 99999999, []))], [(23, [32, 2, 5], [36, 1, -1, -39]), (23, [30, 2, 5], [28, 1, -1, -39]), (23, [28, 2, 5], [19, 1, -1, -39]), (23, [23, 2, 5], [11, 1, -1, -39]), (23, [18, 2, 5], [8, 1, -1, -39]), (23, [13, 2, 5], [0, 1, -1, -39]), (24, [0, 3], []), (20, [3, 32], [30, 1, 1, 1, 12, -1, 0, 0]), (102, [32], [261336857795280739939871698507597986398208, 12012]), (23, [32, 2, 5], [36, 1, -1, -39]), (23, [30, 2, 5], [28, 1, -1, -39]), (23, [28, 2, 5], [19, 1, -1, -39]), (23, [23, 2, 5], [11, 1, -1, -39]), (23, [18, 2, 5], [8, 1, -1, -39]), (23, [13, 2, 5], [0, 1, -1, -39]), (102, [30], [261336857795280739939871698507597986398208, 12012]), (23, [30, 2, 5], [28, 1, -1, -39]), (23, [28, 2, 5], [19, 1, -1, -39]), (23, [23, 2, 5], [11, 1, -1, -39]), (23, [18, 2, 5], [8, 1, -1, -39]), (23, [13, 2, 5], [0, 1, -1, -39]), (102, [28], [261336857795280739939871698507597986398208, 12012]), (23, [28, 2, 5], [19, 1, -1, -39]), (23, [23, 2, 5], [11, 1, -1, -39]), (23, [18, 2, 5], [8, 1, -1, -39]), (23, [13, 2, 5], [0, 1, -1, -39]), (102, [23], [261336857795280739939871698507597986398208, 12012]), (23, [23, 2, 5], [11, 1, -1, -39]), (23, [18, 2, 5], [8, 1, -1, -39]), (23, [13, 2, 5], [0, 1, -1, -39]), (102, [18], [261336857795280739939871698507597986398208, 12012]), (23, [18, 2, 5], [8, 1, -1, -39]), (23, [13, 2, 5], [0, 1, -1, -39]), (102, [13], [261336857795280739939871698507597986398208, 12012]), (23, [13, 2, 5], [0, 1, -1, -39]), (7, [5, 6], [2])], [], [(0, 0, 99999998, [])], [(20, [3, 34], [30, 0, 1, 1, 12, -1, 0, 0]), (23, [34, 2, 5], [37, 1, -1, -39])], [], [(5, 6, -4294967296, -1)])
theorem oo_Ho_writeEdges_10 {kA : Nat → ClassId} : or_ok kA GG o_Ho_writeEdges_10 := by
  intro A ta ws vs hD hth hl hk hds hf
  have hl : vs.length = 34 := hl
  have hk : ∀ q ∈ ([(0, (2, 0, 0, [12])), (2, (0, 0, 99998128, [])), (3, (2, 0, 0, [12])), (5, (0, 0, 47, [])), (6, (0, 1, 48, [])), (13, (0, 0, 99999992, [])), (18, (0, 0, 99999997, [])), (23, (0, 0, 99999992, [])), (28, (0, 0, 99999991, [])), (30, (0, 0, 99999992, [])), (32, (0, 0, 99999999, []))] : List (Nat × tv_T)), tv_ok ta q.2 (n_v vs q.1) := hk
  obtain ⟨t0, hk⟩ := List.forall_mem_cons.mp hk
  have t0 : tv_ok ta (2, 0, 0, [12]) (n_v vs 0) := t0
  have r0 : ta (v_ad (n_v vs 0)) = some 12 := tv_rg t0
  obtain ⟨t2, hk⟩ := List.forall_mem_cons.mp hk
  have t2 : tv_ok ta (0, 0, 99998128, []) (n_v vs 2) := t2
  have k2 : 0 ≤ v_iv (n_v vs 2) ∧ v_iv (n_v vs 2) ≤ 99998128 := tv_rng t2
  obtain ⟨t3, hk⟩ := List.forall_mem_cons.mp hk
  have t3 : tv_ok ta (2, 0, 0, [12]) (n_v vs 3) := t3
  have r3 : ta (v_ad (n_v vs 3)) = some 12 := tv_rg t3
  obtain ⟨t5, hk⟩ := List.forall_mem_cons.mp hk
  have t5 : tv_ok ta (0, 0, 47, []) (n_v vs 5) := t5
  have k5 : 0 ≤ v_iv (n_v vs 5) ∧ v_iv (n_v vs 5) ≤ 47 := tv_rng t5
  obtain ⟨t6, hk⟩ := List.forall_mem_cons.mp hk
  have t6 : tv_ok ta (0, 1, 48, []) (n_v vs 6) := t6
  have k6 : 1 ≤ v_iv (n_v vs 6) ∧ v_iv (n_v vs 6) ≤ 48 := tv_rng t6
  obtain ⟨t13, hk⟩ := List.forall_mem_cons.mp hk
  have t13 : tv_ok ta (0, 0, 99999992, []) (n_v vs 13) := t13
  have k13 : 0 ≤ v_iv (n_v vs 13) ∧ v_iv (n_v vs 13) ≤ 99999992 := tv_rng t13
  obtain ⟨t18, hk⟩ := List.forall_mem_cons.mp hk
  have t18 : tv_ok ta (0, 0, 99999997, []) (n_v vs 18) := t18
  have k18 : 0 ≤ v_iv (n_v vs 18) ∧ v_iv (n_v vs 18) ≤ 99999997 := tv_rng t18
  obtain ⟨t23, hk⟩ := List.forall_mem_cons.mp hk
  have t23 : tv_ok ta (0, 0, 99999992, []) (n_v vs 23) := t23
  have k23 : 0 ≤ v_iv (n_v vs 23) ∧ v_iv (n_v vs 23) ≤ 99999992 := tv_rng t23
  obtain ⟨t28, hk⟩ := List.forall_mem_cons.mp hk
  have t28 : tv_ok ta (0, 0, 99999991, []) (n_v vs 28) := t28
  have k28 : 0 ≤ v_iv (n_v vs 28) ∧ v_iv (n_v vs 28) ≤ 99999991 := tv_rng t28
  obtain ⟨t30, hk⟩ := List.forall_mem_cons.mp hk
  have t30 : tv_ok ta (0, 0, 99999992, []) (n_v vs 30) := t30
  have k30 : 0 ≤ v_iv (n_v vs 30) ∧ v_iv (n_v vs 30) ≤ 99999992 := tv_rng t30
  obtain ⟨t32, hk⟩ := List.forall_mem_cons.mp hk
  have t32 : tv_ok ta (0, 0, 99999999, []) (n_v vs 32) := t32
  have k32 : 0 ≤ v_iv (n_v vs 32) ∧ v_iv (n_v vs 32) ≤ 99999999 := tv_rng t32
  have hds : ∀ q ∈ ([(5, 6, -4294967296, -1)] : List of_T), n_iv vs q.2.1 + q.2.2.1 ≤ n_iv vs q.1 ∧ n_iv vs q.1 ≤ n_iv vs q.2.1 + q.2.2.2 := hds
  obtain ⟨d0, hds⟩ := List.forall_mem_cons.mp hds
  have d0 : v_iv (n_v vs 6) + (-4294967296) ≤ v_iv (n_v vs 5) ∧ v_iv (n_v vs 5) ≤ v_iv (n_v vs 6) + (-1) := d0
  have hf : fc_ok [(23, [32, 2, 5], [36, 1, -1, -39]), (23, [30, 2, 5], [28, 1, -1, -39]), (23, [28, 2, 5], [19, 1, -1, -39]), (23, [23, 2, 5], [11, 1, -1, -39]), (23, [18, 2, 5], [8, 1, -1, -39]), (23, [13, 2, 5], [0, 1, -1, -39]), (24, [0, 3], []), (20, [3, 32], [30, 1, 1, 1, 12, -1, 0, 0]), (102, [32], [261336857795280739939871698507597986398208, 12012]), (23, [32, 2, 5], [36, 1, -1, -39]), (23, [30, 2, 5], [28, 1, -1, -39]), (23, [28, 2, 5], [19, 1, -1, -39]), (23, [23, 2, 5], [11, 1, -1, -39]), (23, [18, 2, 5], [8, 1, -1, -39]), (23, [13, 2, 5], [0, 1, -1, -39]), (102, [30], [261336857795280739939871698507597986398208, 12012]), (23, [30, 2, 5], [28, 1, -1, -39]), (23, [28, 2, 5], [19, 1, -1, -39]), (23, [23, 2, 5], [11, 1, -1, -39]), (23, [18, 2, 5], [8, 1, -1, -39]), (23, [13, 2, 5], [0, 1, -1, -39]), (102, [28], [261336857795280739939871698507597986398208, 12012]), (23, [28, 2, 5], [19, 1, -1, -39]), (23, [23, 2, 5], [11, 1, -1, -39]), (23, [18, 2, 5], [8, 1, -1, -39]), (23, [13, 2, 5], [0, 1, -1, -39]), (102, [23], [261336857795280739939871698507597986398208, 12012]), (23, [23, 2, 5], [11, 1, -1, -39]), (23, [18, 2, 5], [8, 1, -1, -39]), (23, [13, 2, 5], [0, 1, -1, -39]), (102, [18], [261336857795280739939871698507597986398208, 12012]), (23, [18, 2, 5], [8, 1, -1, -39]), (23, [13, 2, 5], [0, 1, -1, -39]), (102, [13], [261336857795280739939871698507597986398208, 12012]), (23, [13, 2, 5], [0, 1, -1, -39]), (7, [5, 6], [2])] ta ws vs := hf
  obtain ⟨f0, hf⟩ := fc_un (show (23 : Nat) < 100 from by decide) hf
  have f0 : 1 * v_iv (n_v vs 32) + ((-1) * v_iv (n_v vs 2) + ((-39) * v_iv (n_v vs 5) + 0)) ≤ 36 := f0
  obtain ⟨f1, hf⟩ := fc_un (show (23 : Nat) < 100 from by decide) hf
  have f1 : 1 * v_iv (n_v vs 30) + ((-1) * v_iv (n_v vs 2) + ((-39) * v_iv (n_v vs 5) + 0)) ≤ 28 := f1
  obtain ⟨f2, hf⟩ := fc_un (show (23 : Nat) < 100 from by decide) hf
  have f2 : 1 * v_iv (n_v vs 28) + ((-1) * v_iv (n_v vs 2) + ((-39) * v_iv (n_v vs 5) + 0)) ≤ 19 := f2
  obtain ⟨f3, hf⟩ := fc_un (show (23 : Nat) < 100 from by decide) hf
  have f3 : 1 * v_iv (n_v vs 23) + ((-1) * v_iv (n_v vs 2) + ((-39) * v_iv (n_v vs 5) + 0)) ≤ 11 := f3
  obtain ⟨f4, hf⟩ := fc_un (show (23 : Nat) < 100 from by decide) hf
  have f4 : 1 * v_iv (n_v vs 18) + ((-1) * v_iv (n_v vs 2) + ((-39) * v_iv (n_v vs 5) + 0)) ≤ 8 := f4
  obtain ⟨f5, hf⟩ := fc_un (show (23 : Nat) < 100 from by decide) hf
  have f5 : 1 * v_iv (n_v vs 13) + ((-1) * v_iv (n_v vs 2) + ((-39) * v_iv (n_v vs 5) + 0)) ≤ 0 := f5
  obtain ⟨f6, hf⟩ := fc_un (show (24 : Nat) < 100 from by decide) hf
  have f6 : n_v vs 0 = n_v vs 3 := f6
  obtain ⟨f7, hf⟩ := fc_un (show (20 : Nat) < 100 from by decide) hf
  have f7 : 1 * w_fi ws (n_v vs 3) 12 + ((-1) * v_iv (n_v vs 32) + 0) ≤ 1 := f7
  obtain ⟨ta1, w1, le1, ⟨_, s1⟩, hf⟩ := fc_us (show ¬ (102 : Nat) < 100 from by decide) hf
  obtain ⟨f9, hf⟩ := fc_un (show (23 : Nat) < 100 from by decide) hf
  have f9 : 1 * v_iv (n_v vs 32) + ((-1) * v_iv (n_v vs 2) + ((-39) * v_iv (n_v vs 5) + 0)) ≤ 36 := f9
  obtain ⟨f10, hf⟩ := fc_un (show (23 : Nat) < 100 from by decide) hf
  have f10 : 1 * v_iv (n_v vs 30) + ((-1) * v_iv (n_v vs 2) + ((-39) * v_iv (n_v vs 5) + 0)) ≤ 28 := f10
  obtain ⟨f11, hf⟩ := fc_un (show (23 : Nat) < 100 from by decide) hf
  have f11 : 1 * v_iv (n_v vs 28) + ((-1) * v_iv (n_v vs 2) + ((-39) * v_iv (n_v vs 5) + 0)) ≤ 19 := f11
  obtain ⟨f12, hf⟩ := fc_un (show (23 : Nat) < 100 from by decide) hf
  have f12 : 1 * v_iv (n_v vs 23) + ((-1) * v_iv (n_v vs 2) + ((-39) * v_iv (n_v vs 5) + 0)) ≤ 11 := f12
  obtain ⟨f13, hf⟩ := fc_un (show (23 : Nat) < 100 from by decide) hf
  have f13 : 1 * v_iv (n_v vs 18) + ((-1) * v_iv (n_v vs 2) + ((-39) * v_iv (n_v vs 5) + 0)) ≤ 8 := f13
  obtain ⟨f14, hf⟩ := fc_un (show (23 : Nat) < 100 from by decide) hf
  have f14 : 1 * v_iv (n_v vs 13) + ((-1) * v_iv (n_v vs 2) + ((-39) * v_iv (n_v vs 5) + 0)) ≤ 0 := f14
  obtain ⟨ta2, w2, le2, ⟨_, s2⟩, hf⟩ := fc_us (show ¬ (102 : Nat) < 100 from by decide) hf
  obtain ⟨f16, hf⟩ := fc_un (show (23 : Nat) < 100 from by decide) hf
  have f16 : 1 * v_iv (n_v vs 30) + ((-1) * v_iv (n_v vs 2) + ((-39) * v_iv (n_v vs 5) + 0)) ≤ 28 := f16
  obtain ⟨f17, hf⟩ := fc_un (show (23 : Nat) < 100 from by decide) hf
  have f17 : 1 * v_iv (n_v vs 28) + ((-1) * v_iv (n_v vs 2) + ((-39) * v_iv (n_v vs 5) + 0)) ≤ 19 := f17
  obtain ⟨f18, hf⟩ := fc_un (show (23 : Nat) < 100 from by decide) hf
  have f18 : 1 * v_iv (n_v vs 23) + ((-1) * v_iv (n_v vs 2) + ((-39) * v_iv (n_v vs 5) + 0)) ≤ 11 := f18
  obtain ⟨f19, hf⟩ := fc_un (show (23 : Nat) < 100 from by decide) hf
  have f19 : 1 * v_iv (n_v vs 18) + ((-1) * v_iv (n_v vs 2) + ((-39) * v_iv (n_v vs 5) + 0)) ≤ 8 := f19
  obtain ⟨f20, hf⟩ := fc_un (show (23 : Nat) < 100 from by decide) hf
  have f20 : 1 * v_iv (n_v vs 13) + ((-1) * v_iv (n_v vs 2) + ((-39) * v_iv (n_v vs 5) + 0)) ≤ 0 := f20
  obtain ⟨ta3, w3, le3, ⟨_, s3⟩, hf⟩ := fc_us (show ¬ (102 : Nat) < 100 from by decide) hf
  obtain ⟨f22, hf⟩ := fc_un (show (23 : Nat) < 100 from by decide) hf
  have f22 : 1 * v_iv (n_v vs 28) + ((-1) * v_iv (n_v vs 2) + ((-39) * v_iv (n_v vs 5) + 0)) ≤ 19 := f22
  obtain ⟨f23, hf⟩ := fc_un (show (23 : Nat) < 100 from by decide) hf
  have f23 : 1 * v_iv (n_v vs 23) + ((-1) * v_iv (n_v vs 2) + ((-39) * v_iv (n_v vs 5) + 0)) ≤ 11 := f23
  obtain ⟨f24, hf⟩ := fc_un (show (23 : Nat) < 100 from by decide) hf
  have f24 : 1 * v_iv (n_v vs 18) + ((-1) * v_iv (n_v vs 2) + ((-39) * v_iv (n_v vs 5) + 0)) ≤ 8 := f24
  obtain ⟨f25, hf⟩ := fc_un (show (23 : Nat) < 100 from by decide) hf
  have f25 : 1 * v_iv (n_v vs 13) + ((-1) * v_iv (n_v vs 2) + ((-39) * v_iv (n_v vs 5) + 0)) ≤ 0 := f25
  obtain ⟨ta4, w4, le4, ⟨_, s4⟩, hf⟩ := fc_us (show ¬ (102 : Nat) < 100 from by decide) hf
  obtain ⟨f27, hf⟩ := fc_un (show (23 : Nat) < 100 from by decide) hf
  have f27 : 1 * v_iv (n_v vs 23) + ((-1) * v_iv (n_v vs 2) + ((-39) * v_iv (n_v vs 5) + 0)) ≤ 11 := f27
  obtain ⟨f28, hf⟩ := fc_un (show (23 : Nat) < 100 from by decide) hf
  have f28 : 1 * v_iv (n_v vs 18) + ((-1) * v_iv (n_v vs 2) + ((-39) * v_iv (n_v vs 5) + 0)) ≤ 8 := f28
  obtain ⟨f29, hf⟩ := fc_un (show (23 : Nat) < 100 from by decide) hf
  have f29 : 1 * v_iv (n_v vs 13) + ((-1) * v_iv (n_v vs 2) + ((-39) * v_iv (n_v vs 5) + 0)) ≤ 0 := f29
  obtain ⟨ta5, w5, le5, ⟨_, s5⟩, hf⟩ := fc_us (show ¬ (102 : Nat) < 100 from by decide) hf
  obtain ⟨f31, hf⟩ := fc_un (show (23 : Nat) < 100 from by decide) hf
  have f31 : 1 * v_iv (n_v vs 18) + ((-1) * v_iv (n_v vs 2) + ((-39) * v_iv (n_v vs 5) + 0)) ≤ 8 := f31
  obtain ⟨f32, hf⟩ := fc_un (show (23 : Nat) < 100 from by decide) hf
  have f32 : 1 * v_iv (n_v vs 13) + ((-1) * v_iv (n_v vs 2) + ((-39) * v_iv (n_v vs 5) + 0)) ≤ 0 := f32
  obtain ⟨ta6, w6, le6, ⟨_, s6⟩, hf⟩ := fc_us (show ¬ (102 : Nat) < 100 from by decide) hf
  obtain ⟨f34, hf⟩ := fc_un (show (23 : Nat) < 100 from by decide) hf
  have f34 : 1 * v_iv (n_v vs 13) + ((-1) * v_iv (n_v vs 2) + ((-39) * v_iv (n_v vs 5) + 0)) ≤ 0 := f34
  obtain ⟨f35, hf⟩ := fc_un (show (7 : Nat) < 100 from by decide) hf
  have f35 : v_iv (n_v vs 5) < v_iv (n_v vs 6) := f35
  have q3 : n_v vs 3 = n_v vs 0 := f6.symm
  rw [q3] at f7
  have kz_0_12 : 0 ≤ w_fi ws (n_v vs 0) 12 ∧ w_fi ws (n_v vs 0) 12 ≤ 100000000 := tv_rng (th_fd hD hth r0 (g := GG_12) rfl (k := 12) (t := (0, 0, 100000000, [])) rfl rfl)
  have kv0 : 0 ≤ w_fi ws (n_v vs 0) 12 ∧ w_fi ws (n_v vs 0) 12 ≤ 100000000 := tv_rng (th_fd hD hth r0 (g := GG_12) rfl (k := 12) (t := (0, 0, 100000000, [])) rfl rfl)
  obtain ⟨x, ex, hx⟩ := iv_ex (ta := ta) (lo := 0) (hi := 99999998) (z := w_fi ws (n_v vs 0) 12) (by omega) (by omega) (by omega) (by omega)
  have ex2 : v_iv (Value.int x) = w_fi ws (n_v vs 0) 12 := ex
  have ex3 : 0 ≤ v_iv (Value.int x) ∧ v_iv (Value.int x) ≤ 99999998 := tv_rng hx
  have e_2 : n_v (vs ++ [Value.int x]) 2 = n_v vs 2 := n_v_old (by rw [hl]; decide)
  have e_3 : n_v (vs ++ [Value.int x]) 3 = n_v vs 3 := n_v_old (by rw [hl]; decide)
  have e_5 : n_v (vs ++ [Value.int x]) 5 = n_v vs 5 := n_v_old (by rw [hl]; decide)
  have e_34 : n_v (vs ++ [Value.int x]) 34 = Value.int x := n_v_new hl
  have nf0 : fc_1 (20, [3, 34], [30, 0, 1, 1, 12, -1, 0, 0]) ws (vs ++ [Value.int x]) := by
    refine ⟨fun n hn => ?_, ?_⟩
    · have hn : n ∈ [3, 34] := hn
      rw [List.length_append, hl]
      simp only [List.mem_cons, List.not_mem_nil, or_false] at hn
      show n < 34 + 1; omega
    · show 1 * w_fi ws (n_v (vs ++ [Value.int x]) 3) 12 + ((-1) * v_iv (n_v (vs ++ [Value.int x]) 34) + 0) ≤ 0
      rw [e_3]
      rw [e_34]
      rw [q3]
      omega
  have nf1 : fc_1 (23, [34, 2, 5], [37, 1, -1, -39]) ws (vs ++ [Value.int x]) := by
    refine ⟨fun n hn => ?_, ?_⟩
    · have hn : n ∈ [34, 2, 5] := hn
      rw [List.length_append, hl]
      simp only [List.mem_cons, List.not_mem_nil, or_false] at hn
      show n < 34 + 1; omega
    · show 1 * v_iv (n_v (vs ++ [Value.int x]) 34) + ((-1) * v_iv (n_v (vs ++ [Value.int x]) 2) + ((-39) * v_iv (n_v (vs ++ [Value.int x]) 5) + 0)) ≤ 37
      rw [e_2]
      rw [e_5]
      rw [e_34]
      omega
  exact ⟨(fun _ h => (by cases h)), [Value.int x], ag_one hx, List.forall_mem_cons.mpr ⟨⟨show (20 : Nat) < 100 from by decide, nf0⟩, List.forall_mem_cons.mpr ⟨⟨show (23 : Nat) < 100 from by decide, nf1⟩, (fun _ h => (by cases h))⟩⟩, (fun _ h => (by cases h))⟩
def o_Ho_writeEdges_11 : or_T := (2, 36, [(0, (2, 0, 0, [12])), (2, (0, 0, 99998128, [])), (3, (2, 0, 0, [12])), (5, (0, 0, 47, [])), (6, (0, 1, 48, [])), (13, (0, 0, 99999992, [])), (18, (0, 0, 99999997, [])), (23, (0, 0, 99999992, [])), (28, (0, 0, 99999991, [])), (30, (0, 0, 99999992, [])), (32, (0, 0, 99999999, [])), (34, (0, 0, 99999998, [])), (35, (0, 1, 48, []))], [(6, [35, 5], [1]), (23, [34, 2, 5], [37, 1, -1, -39]), (23, [32, 2, 5], [36, 1, -1, -39]), (23, [30, 2, 5], [28, 1, -1, -39]), (23, [28, 2, 5], [19, 1, -1, -39]), (23, [23, 2, 5], [11, 1, -1, -39]), (23, [18, 2, 5], [8, 1, -1, -39]), (23, [13, 2, 5], [0, 1, -1, -39]), (24, [0, 3], []), (20, [3, 34], [30, 2, 1, 1, 12, -1, 0, 0]), (102, [34], [261336857795280739939871698507597986398208, 12012]), (23, [34, 2, 5], [37, 1, -1, -39]), (23, [32, 2, 5], [36, 1, -1, -39]), (23, [30, 2, 5], [28, 1, -1, -39]), (23, [28, 2, 5], [19, 1, -1, -39]), (23, [23, 2, 5], [11, 1, -1, -39]), (23, [18, 2, 5], [8, 1, -1, -39]), (23, [13, 2, 5], [0, 1, -1, -39]), (102, [32], [261336857795280739939871698507597986398208, 12012]), (23, [32, 2, 5], [36, 1, -1, -39]), (23, [30, 2, 5], [28, 1, -1, -39]), (23, [28, 2, 5], [19, 1, -1, -39]), (23, [23, 2, 5], [11, 1, -1, -39]), (23, [18, 2, 5], [8, 1, -1, -39]), (23, [13, 2, 5], [0, 1, -1, -39]), (102, [30], [261336857795280739939871698507597986398208, 12012]), (23, [30, 2, 5], [28, 1, -1, -39]), (23, [28, 2, 5], [19, 1, -1, -39]), (23, [23, 2, 5], [11, 1, -1, -39]), (23, [18, 2, 5], [8, 1, -1, -39]), (23, [13, 2, 5], [0, 1, -1, -39]), (102, [28], [261336857795280739939871698507597986398208, 12012]), (23, [28, 2, 5], [19, 1, -1, -39]), (23, [23, 2, 5], [11, 1, -1, -39]), (23, [18, 2, 5], [8, 1, -1, -39]), (23, [13, 2, 5], [0, 1, -1, -39]), (102, [23], [261336857795280739939871698507597986398208, 12012]), (23, [23, 2, 5], [11, 1, -1, -39]), (23, [18, 2, 5], [8, 1, -1, -39]), (23, [13, 2, 5], [0, 1, -1, -39]), (102, [18], [261336857795280739939871698507597986398208, 12012]), (23, [18, 2, 5], [8, 1, -1, -39]), (23, [13, 2, 5], [0, 1, -1, -39]), (102, [13], [261336857795280739939871698507597986398208, 12012]), (23, [13, 2, 5], [0, 1, -1, -39]), (7, [5, 6], [2])], [], [], [(20, [3, 2, 35], [30, 0, 1, 1, 12, -1, 0, 0, -39, 0, 0])], [], [(35, 5, 1, 1), (35, 6, -4294967296, 0), (5, 6, -4294967296, -1)])
theorem oo_Ho_writeEdges_11 {kA : Nat → ClassId} : or_ok kA GG o_Ho_writeEdges_11 := by
  intro A ta ws vs hD hth hl hk hds hf
  have hl : vs.length = 36 := hl
  have hk : ∀ q ∈ ([(0, (2, 0, 0, [12])), (2, (0, 0, 99998128, [])), (3, (2, 0, 0, [12])), (5, (0, 0, 47, [])), (6, (0, 1, 48, [])), (13, (0, 0, 99999992, [])), (18, (0, 0, 99999997, [])), (23, (0, 0, 99999992, [])), (28, (0, 0, 99999991, [])), (30, (0, 0, 99999992, [])), (32, (0, 0, 99999999, [])), (34, (0, 0, 99999998, [])), (35, (0, 1, 48, []))] : List (Nat × tv_T)), tv_ok ta q.2 (n_v vs q.1) := hk
  obtain ⟨t0, hk⟩ := List.forall_mem_cons.mp hk
  have t0 : tv_ok ta (2, 0, 0, [12]) (n_v vs 0) := t0
  have r0 : ta (v_ad (n_v vs 0)) = some 12 := tv_rg t0
  obtain ⟨t2, hk⟩ := List.forall_mem_cons.mp hk
  have t2 : tv_ok ta (0, 0, 99998128, []) (n_v vs 2) := t2
  have k2 : 0 ≤ v_iv (n_v vs 2) ∧ v_iv (n_v vs 2) ≤ 99998128 := tv_rng t2
  obtain ⟨t3, hk⟩ := List.forall_mem_cons.mp hk
  have t3 : tv_ok ta (2, 0, 0, [12]) (n_v vs 3) := t3
  have r3 : ta (v_ad (n_v vs 3)) = some 12 := tv_rg t3
  obtain ⟨t5, hk⟩ := List.forall_mem_cons.mp hk
  have t5 : tv_ok ta (0, 0, 47, []) (n_v vs 5) := t5
  have k5 : 0 ≤ v_iv (n_v vs 5) ∧ v_iv (n_v vs 5) ≤ 47 := tv_rng t5
  obtain ⟨t6, hk⟩ := List.forall_mem_cons.mp hk
  have t6 : tv_ok ta (0, 1, 48, []) (n_v vs 6) := t6
  have k6 : 1 ≤ v_iv (n_v vs 6) ∧ v_iv (n_v vs 6) ≤ 48 := tv_rng t6
  obtain ⟨t13, hk⟩ := List.forall_mem_cons.mp hk
  have t13 : tv_ok ta (0, 0, 99999992, []) (n_v vs 13) := t13
  have k13 : 0 ≤ v_iv (n_v vs 13) ∧ v_iv (n_v vs 13) ≤ 99999992 := tv_rng t13
  obtain ⟨t18, hk⟩ := List.forall_mem_cons.mp hk
  have t18 : tv_ok ta (0, 0, 99999997, []) (n_v vs 18) := t18
  have k18 : 0 ≤ v_iv (n_v vs 18) ∧ v_iv (n_v vs 18) ≤ 99999997 := tv_rng t18
  obtain ⟨t23, hk⟩ := List.forall_mem_cons.mp hk
  have t23 : tv_ok ta (0, 0, 99999992, []) (n_v vs 23) := t23
  have k23 : 0 ≤ v_iv (n_v vs 23) ∧ v_iv (n_v vs 23) ≤ 99999992 := tv_rng t23
  obtain ⟨t28, hk⟩ := List.forall_mem_cons.mp hk
  have t28 : tv_ok ta (0, 0, 99999991, []) (n_v vs 28) := t28
  have k28 : 0 ≤ v_iv (n_v vs 28) ∧ v_iv (n_v vs 28) ≤ 99999991 := tv_rng t28
  obtain ⟨t30, hk⟩ := List.forall_mem_cons.mp hk
  have t30 : tv_ok ta (0, 0, 99999992, []) (n_v vs 30) := t30
  have k30 : 0 ≤ v_iv (n_v vs 30) ∧ v_iv (n_v vs 30) ≤ 99999992 := tv_rng t30
  obtain ⟨t32, hk⟩ := List.forall_mem_cons.mp hk
  have t32 : tv_ok ta (0, 0, 99999999, []) (n_v vs 32) := t32
  have k32 : 0 ≤ v_iv (n_v vs 32) ∧ v_iv (n_v vs 32) ≤ 99999999 := tv_rng t32
  obtain ⟨t34, hk⟩ := List.forall_mem_cons.mp hk
  have t34 : tv_ok ta (0, 0, 99999998, []) (n_v vs 34) := t34
  have k34 : 0 ≤ v_iv (n_v vs 34) ∧ v_iv (n_v vs 34) ≤ 99999998 := tv_rng t34
  obtain ⟨t35, hk⟩ := List.forall_mem_cons.mp hk
  have t35 : tv_ok ta (0, 1, 48, []) (n_v vs 35) := t35
  have k35 : 1 ≤ v_iv (n_v vs 35) ∧ v_iv (n_v vs 35) ≤ 48 := tv_rng t35
  have hds : ∀ q ∈ ([(35, 5, 1, 1), (35, 6, -4294967296, 0), (5, 6, -4294967296, -1)] : List of_T), n_iv vs q.2.1 + q.2.2.1 ≤ n_iv vs q.1 ∧ n_iv vs q.1 ≤ n_iv vs q.2.1 + q.2.2.2 := hds
  obtain ⟨d0, hds⟩ := List.forall_mem_cons.mp hds
  have d0 : v_iv (n_v vs 5) + 1 ≤ v_iv (n_v vs 35) ∧ v_iv (n_v vs 35) ≤ v_iv (n_v vs 5) + 1 := d0
  obtain ⟨d1, hds⟩ := List.forall_mem_cons.mp hds
  have d1 : v_iv (n_v vs 6) + (-4294967296) ≤ v_iv (n_v vs 35) ∧ v_iv (n_v vs 35) ≤ v_iv (n_v vs 6) + 0 := d1
  obtain ⟨d2, hds⟩ := List.forall_mem_cons.mp hds
  have d2 : v_iv (n_v vs 6) + (-4294967296) ≤ v_iv (n_v vs 5) ∧ v_iv (n_v vs 5) ≤ v_iv (n_v vs 6) + (-1) := d2
  have hf : fc_ok [(6, [35, 5], [1]), (23, [34, 2, 5], [37, 1, -1, -39]), (23, [32, 2, 5], [36, 1, -1, -39]), (23, [30, 2, 5], [28, 1, -1, -39]), (23, [28, 2, 5], [19, 1, -1, -39]), (23, [23, 2, 5], [11, 1, -1, -39]), (23, [18, 2, 5], [8, 1, -1, -39]), (23, [13, 2, 5], [0, 1, -1, -39]), (24, [0, 3], []), (20, [3, 34], [30, 2, 1, 1, 12, -1, 0, 0]), (102, [34], [261336857795280739939871698507597986398208, 12012]), (23, [34, 2, 5], [37, 1, -1, -39]), (23, [32, 2, 5], [36, 1, -1, -39]), (23, [30, 2, 5], [28, 1, -1, -39]), (23, [28, 2, 5], [19, 1, -1, -39]), (23, [23, 2, 5], [11, 1, -1, -39]), (23, [18, 2, 5], [8, 1, -1, -39]), (23, [13, 2, 5], [0, 1, -1, -39]), (102, [32], [261336857795280739939871698507597986398208, 12012]), (23, [32, 2, 5], [36, 1, -1, -39]), (23, [30, 2, 5], [28, 1, -1, -39]), (23, [28, 2, 5], [19, 1, -1, -39]), (23, [23, 2, 5], [11, 1, -1, -39]), (23, [18, 2, 5], [8, 1, -1, -39]), (23, [13, 2, 5], [0, 1, -1, -39]), (102, [30], [261336857795280739939871698507597986398208, 12012]), (23, [30, 2, 5], [28, 1, -1, -39]), (23, [28, 2, 5], [19, 1, -1, -39]), (23, [23, 2, 5], [11, 1, -1, -39]), (23, [18, 2, 5], [8, 1, -1, -39]), (23, [13, 2, 5], [0, 1, -1, -39]), (102, [28], [261336857795280739939871698507597986398208, 12012]), (23, [28, 2, 5], [19, 1, -1, -39]), (23, [23, 2, 5], [11, 1, -1, -39]), (23, [18, 2, 5], [8, 1, -1, -39]), (23, [13, 2, 5], [0, 1, -1, -39]), (102, [23], [261336857795280739939871698507597986398208, 12012]), (23, [23, 2, 5], [11, 1, -1, -39]), (23, [18, 2, 5], [8, 1, -1, -39]), (23, [13, 2, 5], [0, 1, -1, -39]), (102, [18], [261336857795280739939871698507597986398208, 12012]), (23, [18, 2, 5], [8, 1, -1, -39]), (23, [13, 2, 5], [0, 1, -1, -39]), (102, [13], [261336857795280739939871698507597986398208, 12012]), (23, [13, 2, 5], [0, 1, -1, -39]), (7, [5, 6], [2])] ta ws vs := hf
  obtain ⟨f0, hf⟩ := fc_un (show (6 : Nat) < 100 from by decide) hf
  have f0 : v_iv (n_v vs 35) = v_iv (n_v vs 5) + 1 := f0
  obtain ⟨f1, hf⟩ := fc_un (show (23 : Nat) < 100 from by decide) hf
  have f1 : 1 * v_iv (n_v vs 34) + ((-1) * v_iv (n_v vs 2) + ((-39) * v_iv (n_v vs 5) + 0)) ≤ 37 := f1
  obtain ⟨f2, hf⟩ := fc_un (show (23 : Nat) < 100 from by decide) hf
  have f2 : 1 * v_iv (n_v vs 32) + ((-1) * v_iv (n_v vs 2) + ((-39) * v_iv (n_v vs 5) + 0)) ≤ 36 := f2
  obtain ⟨f3, hf⟩ := fc_un (show (23 : Nat) < 100 from by decide) hf
  have f3 : 1 * v_iv (n_v vs 30) + ((-1) * v_iv (n_v vs 2) + ((-39) * v_iv (n_v vs 5) + 0)) ≤ 28 := f3
  obtain ⟨f4, hf⟩ := fc_un (show (23 : Nat) < 100 from by decide) hf
  have f4 : 1 * v_iv (n_v vs 28) + ((-1) * v_iv (n_v vs 2) + ((-39) * v_iv (n_v vs 5) + 0)) ≤ 19 := f4
  obtain ⟨f5, hf⟩ := fc_un (show (23 : Nat) < 100 from by decide) hf
  have f5 : 1 * v_iv (n_v vs 23) + ((-1) * v_iv (n_v vs 2) + ((-39) * v_iv (n_v vs 5) + 0)) ≤ 11 := f5
  obtain ⟨f6, hf⟩ := fc_un (show (23 : Nat) < 100 from by decide) hf
  have f6 : 1 * v_iv (n_v vs 18) + ((-1) * v_iv (n_v vs 2) + ((-39) * v_iv (n_v vs 5) + 0)) ≤ 8 := f6
  obtain ⟨f7, hf⟩ := fc_un (show (23 : Nat) < 100 from by decide) hf
  have f7 : 1 * v_iv (n_v vs 13) + ((-1) * v_iv (n_v vs 2) + ((-39) * v_iv (n_v vs 5) + 0)) ≤ 0 := f7
  obtain ⟨f8, hf⟩ := fc_un (show (24 : Nat) < 100 from by decide) hf
  have f8 : n_v vs 0 = n_v vs 3 := f8
  obtain ⟨f9, hf⟩ := fc_un (show (20 : Nat) < 100 from by decide) hf
  have f9 : 1 * w_fi ws (n_v vs 3) 12 + ((-1) * v_iv (n_v vs 34) + 0) ≤ 2 := f9
  obtain ⟨ta1, w1, le1, ⟨_, s1⟩, hf⟩ := fc_us (show ¬ (102 : Nat) < 100 from by decide) hf
  obtain ⟨f11, hf⟩ := fc_un (show (23 : Nat) < 100 from by decide) hf
  have f11 : 1 * v_iv (n_v vs 34) + ((-1) * v_iv (n_v vs 2) + ((-39) * v_iv (n_v vs 5) + 0)) ≤ 37 := f11
  obtain ⟨f12, hf⟩ := fc_un (show (23 : Nat) < 100 from by decide) hf
  have f12 : 1 * v_iv (n_v vs 32) + ((-1) * v_iv (n_v vs 2) + ((-39) * v_iv (n_v vs 5) + 0)) ≤ 36 := f12
  obtain ⟨f13, hf⟩ := fc_un (show (23 : Nat) < 100 from by decide) hf
  have f13 : 1 * v_iv (n_v vs 30) + ((-1) * v_iv (n_v vs 2) + ((-39) * v_iv (n_v vs 5) + 0)) ≤ 28 := f13
  obtain ⟨f14, hf⟩ := fc_un (show (23 : Nat) < 100 from by decide) hf
  have f14 : 1 * v_iv (n_v vs 28) + ((-1) * v_iv (n_v vs 2) + ((-39) * v_iv (n_v vs 5) + 0)) ≤ 19 := f14
  obtain ⟨f15, hf⟩ := fc_un (show (23 : Nat) < 100 from by decide) hf
  have f15 : 1 * v_iv (n_v vs 23) + ((-1) * v_iv (n_v vs 2) + ((-39) * v_iv (n_v vs 5) + 0)) ≤ 11 := f15
  obtain ⟨f16, hf⟩ := fc_un (show (23 : Nat) < 100 from by decide) hf
  have f16 : 1 * v_iv (n_v vs 18) + ((-1) * v_iv (n_v vs 2) + ((-39) * v_iv (n_v vs 5) + 0)) ≤ 8 := f16
  obtain ⟨f17, hf⟩ := fc_un (show (23 : Nat) < 100 from by decide) hf
  have f17 : 1 * v_iv (n_v vs 13) + ((-1) * v_iv (n_v vs 2) + ((-39) * v_iv (n_v vs 5) + 0)) ≤ 0 := f17
  obtain ⟨ta2, w2, le2, ⟨_, s2⟩, hf⟩ := fc_us (show ¬ (102 : Nat) < 100 from by decide) hf
  obtain ⟨f19, hf⟩ := fc_un (show (23 : Nat) < 100 from by decide) hf
  have f19 : 1 * v_iv (n_v vs 32) + ((-1) * v_iv (n_v vs 2) + ((-39) * v_iv (n_v vs 5) + 0)) ≤ 36 := f19
  obtain ⟨f20, hf⟩ := fc_un (show (23 : Nat) < 100 from by decide) hf
  have f20 : 1 * v_iv (n_v vs 30) + ((-1) * v_iv (n_v vs 2) + ((-39) * v_iv (n_v vs 5) + 0)) ≤ 28 := f20
  obtain ⟨f21, hf⟩ := fc_un (show (23 : Nat) < 100 from by decide) hf
  have f21 : 1 * v_iv (n_v vs 28) + ((-1) * v_iv (n_v vs 2) + ((-39) * v_iv (n_v vs 5) + 0)) ≤ 19 := f21
  obtain ⟨f22, hf⟩ := fc_un (show (23 : Nat) < 100 from by decide) hf
  have f22 : 1 * v_iv (n_v vs 23) + ((-1) * v_iv (n_v vs 2) + ((-39) * v_iv (n_v vs 5) + 0)) ≤ 11 := f22
  obtain ⟨f23, hf⟩ := fc_un (show (23 : Nat) < 100 from by decide) hf
  have f23 : 1 * v_iv (n_v vs 18) + ((-1) * v_iv (n_v vs 2) + ((-39) * v_iv (n_v vs 5) + 0)) ≤ 8 := f23
  obtain ⟨f24, hf⟩ := fc_un (show (23 : Nat) < 100 from by decide) hf
  have f24 : 1 * v_iv (n_v vs 13) + ((-1) * v_iv (n_v vs 2) + ((-39) * v_iv (n_v vs 5) + 0)) ≤ 0 := f24
  obtain ⟨ta3, w3, le3, ⟨_, s3⟩, hf⟩ := fc_us (show ¬ (102 : Nat) < 100 from by decide) hf
  obtain ⟨f26, hf⟩ := fc_un (show (23 : Nat) < 100 from by decide) hf
  have f26 : 1 * v_iv (n_v vs 30) + ((-1) * v_iv (n_v vs 2) + ((-39) * v_iv (n_v vs 5) + 0)) ≤ 28 := f26
  obtain ⟨f27, hf⟩ := fc_un (show (23 : Nat) < 100 from by decide) hf
  have f27 : 1 * v_iv (n_v vs 28) + ((-1) * v_iv (n_v vs 2) + ((-39) * v_iv (n_v vs 5) + 0)) ≤ 19 := f27
  obtain ⟨f28, hf⟩ := fc_un (show (23 : Nat) < 100 from by decide) hf
  have f28 : 1 * v_iv (n_v vs 23) + ((-1) * v_iv (n_v vs 2) + ((-39) * v_iv (n_v vs 5) + 0)) ≤ 11 := f28
  obtain ⟨f29, hf⟩ := fc_un (show (23 : Nat) < 100 from by decide) hf
  have f29 : 1 * v_iv (n_v vs 18) + ((-1) * v_iv (n_v vs 2) + ((-39) * v_iv (n_v vs 5) + 0)) ≤ 8 := f29
  obtain ⟨f30, hf⟩ := fc_un (show (23 : Nat) < 100 from by decide) hf
  have f30 : 1 * v_iv (n_v vs 13) + ((-1) * v_iv (n_v vs 2) + ((-39) * v_iv (n_v vs 5) + 0)) ≤ 0 := f30
  obtain ⟨ta4, w4, le4, ⟨_, s4⟩, hf⟩ := fc_us (show ¬ (102 : Nat) < 100 from by decide) hf
  obtain ⟨f32, hf⟩ := fc_un (show (23 : Nat) < 100 from by decide) hf
  have f32 : 1 * v_iv (n_v vs 28) + ((-1) * v_iv (n_v vs 2) + ((-39) * v_iv (n_v vs 5) + 0)) ≤ 19 := f32
  obtain ⟨f33, hf⟩ := fc_un (show (23 : Nat) < 100 from by decide) hf
  have f33 : 1 * v_iv (n_v vs 23) + ((-1) * v_iv (n_v vs 2) + ((-39) * v_iv (n_v vs 5) + 0)) ≤ 11 := f33
  obtain ⟨f34, hf⟩ := fc_un (show (23 : Nat) < 100 from by decide) hf
  have f34 : 1 * v_iv (n_v vs 18) + ((-1) * v_iv (n_v vs 2) + ((-39) * v_iv (n_v vs 5) + 0)) ≤ 8 := f34
  obtain ⟨f35, hf⟩ := fc_un (show (23 : Nat) < 100 from by decide) hf
  have f35 : 1 * v_iv (n_v vs 13) + ((-1) * v_iv (n_v vs 2) + ((-39) * v_iv (n_v vs 5) + 0)) ≤ 0 := f35
  obtain ⟨ta5, w5, le5, ⟨_, s5⟩, hf⟩ := fc_us (show ¬ (102 : Nat) < 100 from by decide) hf
  obtain ⟨f37, hf⟩ := fc_un (show (23 : Nat) < 100 from by decide) hf
  have f37 : 1 * v_iv (n_v vs 23) + ((-1) * v_iv (n_v vs 2) + ((-39) * v_iv (n_v vs 5) + 0)) ≤ 11 := f37
  obtain ⟨f38, hf⟩ := fc_un (show (23 : Nat) < 100 from by decide) hf
  have f38 : 1 * v_iv (n_v vs 18) + ((-1) * v_iv (n_v vs 2) + ((-39) * v_iv (n_v vs 5) + 0)) ≤ 8 := f38
  obtain ⟨f39, hf⟩ := fc_un (show (23 : Nat) < 100 from by decide) hf
  have f39 : 1 * v_iv (n_v vs 13) + ((-1) * v_iv (n_v vs 2) + ((-39) * v_iv (n_v vs 5) + 0)) ≤ 0 := f39
  obtain ⟨ta6, w6, le6, ⟨_, s6⟩, hf⟩ := fc_us (show ¬ (102 : Nat) < 100 from by decide) hf
  obtain ⟨f41, hf⟩ := fc_un (show (23 : Nat) < 100 from by decide) hf
  have f41 : 1 * v_iv (n_v vs 18) + ((-1) * v_iv (n_v vs 2) + ((-39) * v_iv (n_v vs 5) + 0)) ≤ 8 := f41
  obtain ⟨f42, hf⟩ := fc_un (show (23 : Nat) < 100 from by decide) hf
  have f42 : 1 * v_iv (n_v vs 13) + ((-1) * v_iv (n_v vs 2) + ((-39) * v_iv (n_v vs 5) + 0)) ≤ 0 := f42
  obtain ⟨ta7, w7, le7, ⟨_, s7⟩, hf⟩ := fc_us (show ¬ (102 : Nat) < 100 from by decide) hf
  obtain ⟨f44, hf⟩ := fc_un (show (23 : Nat) < 100 from by decide) hf
  have f44 : 1 * v_iv (n_v vs 13) + ((-1) * v_iv (n_v vs 2) + ((-39) * v_iv (n_v vs 5) + 0)) ≤ 0 := f44
  obtain ⟨f45, hf⟩ := fc_un (show (7 : Nat) < 100 from by decide) hf
  have f45 : v_iv (n_v vs 5) < v_iv (n_v vs 6) := f45
  have q3 : n_v vs 3 = n_v vs 0 := f8.symm
  rw [q3] at f9
  have kz_0_12 : 0 ≤ w_fi ws (n_v vs 0) 12 ∧ w_fi ws (n_v vs 0) 12 ≤ 100000000 := tv_rng (th_fd hD hth r0 (g := GG_12) rfl (k := 12) (t := (0, 0, 100000000, [])) rfl rfl)
  have nf0 : fc_1 (20, [3, 2, 35], [30, 0, 1, 1, 12, -1, 0, 0, -39, 0, 0]) ws (vs) := by
    refine ⟨fun n hn => ?_, ?_⟩
    · have hn : n ∈ [3, 2, 35] := hn
      rw [hl]
      simp only [List.mem_cons, List.not_mem_nil, or_false] at hn
      show n < 36; omega
    · show 1 * w_fi ws (n_v vs 3) 12 + ((-1) * v_iv (n_v vs 2) + ((-39) * v_iv (n_v vs 35) + 0)) ≤ 0
      rw [q3]
      omega
  refine ⟨(fun _ h => (by cases h)), [], trivial, ?_, (fun _ h => (by cases h))⟩
  rw [List.append_nil]
  exact List.forall_mem_cons.mpr ⟨⟨show (20 : Nat) < 100 from by decide, nf0⟩, (fun _ h => (by cases h))⟩
def n_Ho_writeEdges_an : List an_T := [(2, [(0, (2, 0, 0, [12])), (1, (2, 0, 0, [3])), (2, (0, 0, 48, []))], [], (0, 0), [(0, 0, 99998), (1, 5, 48), (0, 0, 100000)], [], [], [(2, 0, 0, [12]), (2, 0, 0, [3]), (0, 0, 99998128, [])], 0, [], [(20, [3, 2, 5], [30, 0, 1, 1, 12, -1, 0, 0, -39, 0, 0]), (24, [0, 3], [])])]
def t_Ho_writeEdges_ct : ct_L := [(1, 447, e_Ho_writeByte), (1, 471, e_Ho_writeNumber), (100, 465, e_Ho_writeName_at_Grname), (169, 461, e_Ho_writeWord_at_s5019), (169, 461, e_Ho_writeWord_at_s5020), (244, 465, e_Ho_writeName_at_Grname), (295, 461, e_Ho_writeWord_at_s5021), (364, 461, e_Ho_writeWord_at_s5015), (1000001, 474, en_ro [] (2, 0, 0, [5015])), (1000001, 482, en_ro [] (2, 0, 0, [5019])), (1000001, 484, en_ro [] (2, 0, 0, [5020])), (1000001, 486, en_ro [] (2, 0, 0, [5021]))]
set_option maxRecDepth 100000 in
theorem c_Ho_writeEdges {l : Launch} {D : va_G} {kA : Nat → ClassId} (h_Ho_writeByte : ct_ok l D kA GG y_Ho_writeByte z_Ho_writeByte e_Ho_writeByte) (h_Ho_writeName_at_Grname : ct_ok l D kA GG y_Ho_writeName_at_Grname z_Ho_writeName_at_Grname e_Ho_writeName_at_Grname) (h_Ho_writeNumber : ct_ok l D kA GG y_Ho_writeNumber z_Ho_writeNumber e_Ho_writeNumber) (h_Ho_writeWord_at_s5015 : ct_ok l D kA GG y_Ho_writeWord_at_s5015 z_Ho_writeWord_at_s5015 e_Ho_writeWord_at_s5015) (h_Ho_writeWord_at_s5019 : ct_ok l D kA GG y_Ho_writeWord_at_s5019 z_Ho_writeWord_at_s5019 e_Ho_writeWord_at_s5019) (h_Ho_writeWord_at_s5020 : ct_ok l D kA GG y_Ho_writeWord_at_s5020 z_Ho_writeWord_at_s5020 e_Ho_writeWord_at_s5020) (h_Ho_writeWord_at_s5021 : ct_ok l D kA GG y_Ho_writeWord_at_s5021 z_Ho_writeWord_at_s5021 e_Ho_writeWord_at_s5021) : ct_ok l D kA GG y_Ho_writeEdges z_Ho_writeEdges e_Ho_writeEdges := chk_all_ok (FT := [(141, 3, 1), (169, 3, 4), (200, 3, 7), (203, 3, 8), (206, 3, 9), (209, 3, 10), (230, 3, 3)]) (PT := []) (CT := t_Ho_writeEdges_ct) (KT := []) (NT := []) (AN := n_Ho_writeEdges_an) (OT := [o_Ho_writeEdges_0, o_Ho_writeEdges_1, o_Ho_writeEdges_2, o_Ho_writeEdges_3, o_Ho_writeEdges_4, o_Ho_writeEdges_5, o_Ho_writeEdges_6, o_Ho_writeEdges_7, o_Ho_writeEdges_8, o_Ho_writeEdges_9, o_Ho_writeEdges_10, o_Ho_writeEdges_11]) 3 480 (List.forall_mem_cons.mpr ⟨oo_Ho_writeEdges_0, List.forall_mem_cons.mpr ⟨oo_Ho_writeEdges_1, List.forall_mem_cons.mpr ⟨oo_Ho_writeEdges_2, List.forall_mem_cons.mpr ⟨oo_Ho_writeEdges_3, List.forall_mem_cons.mpr ⟨oo_Ho_writeEdges_4, List.forall_mem_cons.mpr ⟨oo_Ho_writeEdges_5, List.forall_mem_cons.mpr ⟨oo_Ho_writeEdges_6, List.forall_mem_cons.mpr ⟨oo_Ho_writeEdges_7, List.forall_mem_cons.mpr ⟨oo_Ho_writeEdges_8, List.forall_mem_cons.mpr ⟨oo_Ho_writeEdges_9, List.forall_mem_cons.mpr ⟨oo_Ho_writeEdges_10, List.forall_mem_cons.mpr ⟨oo_Ho_writeEdges_11, List.forall_mem_nil _⟩⟩⟩⟩⟩⟩⟩⟩⟩⟩⟩⟩) (by decide +kernel) ⟨List.forall_mem_cons.mpr ⟨gf_Ho_141, List.forall_mem_cons.mpr ⟨gf_Ho_169, List.forall_mem_cons.mpr ⟨gf_Ho_200, List.forall_mem_cons.mpr ⟨gf_Ho_203, List.forall_mem_cons.mpr ⟨gf_Ho_206, List.forall_mem_cons.mpr ⟨gf_Ho_209, List.forall_mem_cons.mpr ⟨gf_Ho_230, List.forall_mem_nil _⟩⟩⟩⟩⟩⟩⟩, List.forall_mem_nil _, List.forall_mem_cons.mpr ⟨cl_virtual (y := y_Ho_writeByte) (ci := 12) rfl rfl ⟨_, _, rfl⟩ (by decide +kernel) h_Ho_writeByte wm_2345 wm_1 wm_2342 wm_2344 wv_12_0 ⟨by decide, by decide, by decide +kernel⟩ (by decide), List.forall_mem_cons.mpr ⟨cl_virtual (y := y_Ho_writeNumber) (ci := 12) rfl rfl ⟨_, _, rfl⟩ (by decide +kernel) h_Ho_writeNumber wm_2354 wm_1 wm_2351 wm_2353 wv_12_2 ⟨by decide, by decide, by decide +kernel⟩ (by decide), List.forall_mem_cons.mpr ⟨cl_virtual (y := y_Ho_writeName_at_Grname) (ci := 12) rfl rfl ⟨_, _, rfl⟩ (by decide +kernel) h_Ho_writeName_at_Grname wm_2349 wm_1 wm_2346 wm_2348 wv_12_1 ⟨by decide, by decide, by decide +kernel⟩ (by decide), List.forall_mem_cons.mpr ⟨cl_virtual (y := y_Ho_writeWord_at_s5019) (ci := 12) rfl rfl ⟨_, _, rfl⟩ (by decide +kernel) h_Ho_writeWord_at_s5019 wm_2339 wm_1 wm_2336 wm_2338 wv_11_15 ⟨by decide, by decide, by decide +kernel⟩ (by decide), List.forall_mem_cons.mpr ⟨cl_virtual (y := y_Ho_writeWord_at_s5020) (ci := 12) rfl rfl ⟨_, _, rfl⟩ (by decide +kernel) h_Ho_writeWord_at_s5020 wm_2339 wm_1 wm_2336 wm_2338 wv_11_15 ⟨by decide, by decide, by decide +kernel⟩ (by decide), List.forall_mem_cons.mpr ⟨cl_virtual (y := y_Ho_writeName_at_Grname) (ci := 12) rfl rfl ⟨_, _, rfl⟩ (by decide +kernel) h_Ho_writeName_at_Grname wm_2349 wm_1 wm_2346 wm_2348 wv_12_1 ⟨by decide, by decide, by decide +kernel⟩ (by decide), List.forall_mem_cons.mpr ⟨cl_virtual (y := y_Ho_writeWord_at_s5021) (ci := 12) rfl rfl ⟨_, _, rfl⟩ (by decide +kernel) h_Ho_writeWord_at_s5021 wm_2339 wm_1 wm_2336 wm_2338 wv_11_15 ⟨by decide, by decide, by decide +kernel⟩ (by decide), List.forall_mem_cons.mpr ⟨cl_virtual (y := y_Ho_writeWord_at_s5015) (ci := 12) rfl rfl ⟨_, _, rfl⟩ (by decide +kernel) h_Ho_writeWord_at_s5015 wm_2339 wm_1 wm_2336 wm_2338 wv_11_15 ⟨by decide, by decide, by decide +kernel⟩ (by decide), List.forall_mem_cons.mpr ⟨cl_ldcw (own := "DrawingHouse") (idx := 474) (i := 15) (tx := ";\n") (by decide +kernel) (by decide +kernel) (by decide +kernel), List.forall_mem_cons.mpr ⟨cl_ldcw (own := "DrawingHouse") (idx := 482) (i := 19) (tx := " > ") (by decide +kernel) (by decide +kernel) (by decide +kernel), List.forall_mem_cons.mpr ⟨cl_ldcw (own := "DrawingHouse") (idx := 484) (i := 20) (tx := " - ") (by decide +kernel) (by decide +kernel) (by decide +kernel), List.forall_mem_cons.mpr ⟨cl_ldcw (own := "DrawingHouse") (idx := 486) (i := 21) (tx := " [weight=") (by decide +kernel) (by decide +kernel) (by decide +kernel), List.forall_mem_nil _⟩⟩⟩⟩⟩⟩⟩⟩⟩⟩⟩⟩, List.forall_mem_nil _, List.forall_mem_nil _, GG_pl⟩ (by decide +kernel)
def o_Ho_writeGroup_at_k0_0 : or_T := (3, 6, [(0, (2, 0, 0, [12])), (4, (0, 0, 71426432, [])), (5, (0, 0, 0, []))], [(20, [0, 4], [30, 0, 1, 1, 12, -1, 0, 0])], [], [], [(20, [0, 4, 5], [30, 0, 1, 1, 12, -1, 0, 0, -31, 0, 0]), (24, [0, 0], [])], [], [])
theorem oo_Ho_writeGroup_at_k0_0 {kA : Nat → ClassId} : or_ok kA GG o_Ho_writeGroup_at_k0_0 := by
  intro A ta ws vs hD hth hl hk hds hf
  have hl : vs.length = 6 := hl
  have hk : ∀ q ∈ ([(0, (2, 0, 0, [12])), (4, (0, 0, 71426432, [])), (5, (0, 0, 0, []))] : List (Nat × tv_T)), tv_ok ta q.2 (n_v vs q.1) := hk
  obtain ⟨t0, hk⟩ := List.forall_mem_cons.mp hk
  have t0 : tv_ok ta (2, 0, 0, [12]) (n_v vs 0) := t0
  have r0 : ta (v_ad (n_v vs 0)) = some 12 := tv_rg t0
  obtain ⟨t4, hk⟩ := List.forall_mem_cons.mp hk
  have t4 : tv_ok ta (0, 0, 71426432, []) (n_v vs 4) := t4
  have k4 : 0 ≤ v_iv (n_v vs 4) ∧ v_iv (n_v vs 4) ≤ 71426432 := tv_rng t4
  obtain ⟨t5, hk⟩ := List.forall_mem_cons.mp hk
  have t5 : tv_ok ta (0, 0, 0, []) (n_v vs 5) := t5
  have k5 : 0 ≤ v_iv (n_v vs 5) ∧ v_iv (n_v vs 5) ≤ 0 := tv_rng t5
  have hf : fc_ok [(20, [0, 4], [30, 0, 1, 1, 12, -1, 0, 0])] ta ws vs := hf
  obtain ⟨f0, hf⟩ := fc_un (show (20 : Nat) < 100 from by decide) hf
  have f0 : 1 * w_fi ws (n_v vs 0) 12 + ((-1) * v_iv (n_v vs 4) + 0) ≤ 0 := f0
  have kz_0_12 : 0 ≤ w_fi ws (n_v vs 0) 12 ∧ w_fi ws (n_v vs 0) 12 ≤ 100000000 := tv_rng (th_fd hD hth r0 (g := GG_12) rfl (k := 12) (t := (0, 0, 100000000, [])) rfl rfl)
  have nf0 : fc_1 (20, [0, 4, 5], [30, 0, 1, 1, 12, -1, 0, 0, -31, 0, 0]) ws (vs) := by
    refine ⟨fun n hn => ?_, ?_⟩
    · have hn : n ∈ [0, 4, 5] := hn
      rw [hl]
      simp only [List.mem_cons, List.not_mem_nil, or_false] at hn
      show n < 6; omega
    · show 1 * w_fi ws (n_v vs 0) 12 + ((-1) * v_iv (n_v vs 4) + ((-31) * v_iv (n_v vs 5) + 0)) ≤ 0
      omega
  have nf1 : fc_1 (24, [0, 0], []) ws (vs) := by
    refine ⟨fun n hn => ?_, ?_⟩
    · have hn : n ∈ [0, 0] := hn
      rw [hl]
      simp only [List.mem_cons, List.not_mem_nil, or_false] at hn
      show n < 6; omega
    · show n_v vs 0 = n_v vs 0
      first | rfl | simp only [true_and]
  refine ⟨(fun _ h => (by cases h)), [], trivial, ?_, (fun _ h => (by cases h))⟩
  rw [List.append_nil]
  exact List.forall_mem_cons.mpr ⟨⟨show (20 : Nat) < 100 from by decide, nf0⟩, List.forall_mem_cons.mpr ⟨⟨show (24 : Nat) < 100 from by decide, nf1⟩, (fun _ h => (by cases h))⟩⟩
def o_Ho_writeGroup_at_k0_1 : or_T := (100, 13, [(0, (2, 0, 0, [12])), (4, (0, 0, 71426432, [])), (5, (2, 0, 0, [12])), (6, (2, 0, 0, [3])), (7, (0, 0, 0, [])), (9, (0, 0, 24, [])), (10, (0, 0, 24, [])), (11, (0, 1, 1, [])), (12, (0, 1, 1, []))], [(1, [12, 7, 11], []), (7, [9, 10], [3]), (9, [10, 6], [0]), (20, [5, 4, 9], [30, 0, 1, 1, 12, -1, 0, 0, -31, 0, 0]), (24, [0, 5], [])], [], [], [(20, [5, 4, 12, 7], [30, -3570859, 1, 1, 12, -1, 0, 0, -3571603, 0, 0, 3571603, 0, 0])], [], [(9, 10, 0, 4294967296), (7, 4, -4294967296, 0), (7, 9, -4294967296, 0)])
theorem oo_Ho_writeGroup_at_k0_1 {kA : Nat → ClassId} : or_ok kA GG o_Ho_writeGroup_at_k0_1 := by
  intro A ta ws vs hD hth hl hk hds hf
  have hl : vs.length = 13 := hl
  have hk : ∀ q ∈ ([(0, (2, 0, 0, [12])), (4, (0, 0, 71426432, [])), (5, (2, 0, 0, [12])), (6, (2, 0, 0, [3])), (7, (0, 0, 0, [])), (9, (0, 0, 24, [])), (10, (0, 0, 24, [])), (11, (0, 1, 1, [])), (12, (0, 1, 1, []))] : List (Nat × tv_T)), tv_ok ta q.2 (n_v vs q.1) := hk
  obtain ⟨t0, hk⟩ := List.forall_mem_cons.mp hk
  have t0 : tv_ok ta (2, 0, 0, [12]) (n_v vs 0) := t0
  have r0 : ta (v_ad (n_v vs 0)) = some 12 := tv_rg t0
  obtain ⟨t4, hk⟩ := List.forall_mem_cons.mp hk
  have t4 : tv_ok ta (0, 0, 71426432, []) (n_v vs 4) := t4
  have k4 : 0 ≤ v_iv (n_v vs 4) ∧ v_iv (n_v vs 4) ≤ 71426432 := tv_rng t4
  obtain ⟨t5, hk⟩ := List.forall_mem_cons.mp hk
  have t5 : tv_ok ta (2, 0, 0, [12]) (n_v vs 5) := t5
  have r5 : ta (v_ad (n_v vs 5)) = some 12 := tv_rg t5
  obtain ⟨t6, hk⟩ := List.forall_mem_cons.mp hk
  have t6 : tv_ok ta (2, 0, 0, [3]) (n_v vs 6) := t6
  have r6 : ta (v_ad (n_v vs 6)) = some 3 := tv_rg t6
  obtain ⟨t7, hk⟩ := List.forall_mem_cons.mp hk
  have t7 : tv_ok ta (0, 0, 0, []) (n_v vs 7) := t7
  have k7 : 0 ≤ v_iv (n_v vs 7) ∧ v_iv (n_v vs 7) ≤ 0 := tv_rng t7
  obtain ⟨t9, hk⟩ := List.forall_mem_cons.mp hk
  have t9 : tv_ok ta (0, 0, 24, []) (n_v vs 9) := t9
  have k9 : 0 ≤ v_iv (n_v vs 9) ∧ v_iv (n_v vs 9) ≤ 24 := tv_rng t9
  obtain ⟨t10, hk⟩ := List.forall_mem_cons.mp hk
  have t10 : tv_ok ta (0, 0, 24, []) (n_v vs 10) := t10
  have k10 : 0 ≤ v_iv (n_v vs 10) ∧ v_iv (n_v vs 10) ≤ 24 := tv_rng t10
  obtain ⟨t11, hk⟩ := List.forall_mem_cons.mp hk
  have t11 : tv_ok ta (0, 1, 1, []) (n_v vs 11) := t11
  have k11 : 1 ≤ v_iv (n_v vs 11) ∧ v_iv (n_v vs 11) ≤ 1 := tv_rng t11
  obtain ⟨t12, hk⟩ := List.forall_mem_cons.mp hk
  have t12 : tv_ok ta (0, 1, 1, []) (n_v vs 12) := t12
  have k12 : 1 ≤ v_iv (n_v vs 12) ∧ v_iv (n_v vs 12) ≤ 1 := tv_rng t12
  have hds : ∀ q ∈ ([(9, 10, 0, 4294967296), (7, 4, -4294967296, 0), (7, 9, -4294967296, 0)] : List of_T), n_iv vs q.2.1 + q.2.2.1 ≤ n_iv vs q.1 ∧ n_iv vs q.1 ≤ n_iv vs q.2.1 + q.2.2.2 := hds
  obtain ⟨d0, hds⟩ := List.forall_mem_cons.mp hds
  have d0 : v_iv (n_v vs 10) + 0 ≤ v_iv (n_v vs 9) ∧ v_iv (n_v vs 9) ≤ v_iv (n_v vs 10) + 4294967296 := d0
  obtain ⟨d1, hds⟩ := List.forall_mem_cons.mp hds
  have d1 : v_iv (n_v vs 4) + (-4294967296) ≤ v_iv (n_v vs 7) ∧ v_iv (n_v vs 7) ≤ v_iv (n_v vs 4) + 0 := d1
  obtain ⟨d2, hds⟩ := List.forall_mem_cons.mp hds
  have d2 : v_iv (n_v vs 9) + (-4294967296) ≤ v_iv (n_v vs 7) ∧ v_iv (n_v vs 7) ≤ v_iv (n_v vs 9) + 0 := d2
  have hf : fc_ok [(1, [12, 7, 11], []), (7, [9, 10], [3]), (9, [10, 6], [0]), (20, [5, 4, 9], [30, 0, 1, 1, 12, -1, 0, 0, -31, 0, 0]), (24, [0, 5], [])] ta ws vs := hf
  obtain ⟨f0, hf⟩ := fc_un (show (1 : Nat) < 100 from by decide) hf
  have f0 : v_iv (n_v vs 12) = v_iv (n_v vs 7) + v_iv (n_v vs 11) := f0
  obtain ⟨f1, hf⟩ := fc_un (show (7 : Nat) < 100 from by decide) hf
  have f1 : v_iv (n_v vs 10) ≤ v_iv (n_v vs 9) := f1
  obtain ⟨f2, hf⟩ := fc_un (show (9 : Nat) < 100 from by decide) hf
  have f2 : n_v vs 10 = w_fd ws (v_ad (n_v vs 6)) 0 := f2
  obtain ⟨f3, hf⟩ := fc_un (show (20 : Nat) < 100 from by decide) hf
  have f3 : 1 * w_fi ws (n_v vs 5) 12 + ((-1) * v_iv (n_v vs 4) + ((-31) * v_iv (n_v vs 9) + 0)) ≤ 0 := f3
  obtain ⟨f4, hf⟩ := fc_un (show (24 : Nat) < 100 from by decide) hf
  have f4 : n_v vs 0 = n_v vs 5 := f4
  have q5 : n_v vs 5 = n_v vs 0 := f4.symm
  rw [q5] at f3
  have g2 : v_iv (n_v vs 10) = w_fi ws (n_v vs 6) 0 := congrArg v_iv f2
  have kz_0_12 : 0 ≤ w_fi ws (n_v vs 0) 12 ∧ w_fi ws (n_v vs 0) 12 ≤ 100000000 := tv_rng (th_fd hD hth r0 (g := GG_12) rfl (k := 12) (t := (0, 0, 100000000, [])) rfl rfl)
  have kz_6_0 : 0 ≤ w_fi ws (n_v vs 6) 0 ∧ w_fi ws (n_v vs 6) 0 ≤ 24 := tv_rng (th_fd hD hth r6 (g := GG_3) rfl (k := 0) (t := (0, 0, 24, [])) rfl rfl)
  have nf0 : fc_1 (20, [5, 4, 12, 7], [30, -3570859, 1, 1, 12, -1, 0, 0, -3571603, 0, 0, 3571603, 0, 0]) ws (vs) := by
    refine ⟨fun n hn => ?_, ?_⟩
    · have hn : n ∈ [5, 4, 12, 7] := hn
      rw [hl]
      simp only [List.mem_cons, List.not_mem_nil, or_false] at hn
      show n < 13; omega
    · show 1 * w_fi ws (n_v vs 5) 12 + ((-1) * v_iv (n_v vs 4) + ((-3571603) * v_iv (n_v vs 12) + (3571603 * v_iv (n_v vs 7) + 0))) ≤ (-3570859)
      rw [q5]
      omega
  refine ⟨(fun _ h => (by cases h)), [], trivial, ?_, (fun _ h => (by cases h))⟩
  rw [List.append_nil]
  exact List.forall_mem_cons.mpr ⟨⟨show (20 : Nat) < 100 from by decide, nf0⟩, (fun _ h => (by cases h))⟩
def o_Ho_writeGroup_at_k0_2 : or_T := (3, 14, [(0, (2, 0, 0, [12])), (4, (0, 0, 71426432, [])), (5, (2, 0, 0, [12])), (6, (2, 0, 0, [3])), (9, (0, 0, 23, [])), (10, (0, 1, 24, [])), (13, (0, 1, 24, []))], [(6, [13, 9], [1]), (7, [9, 10], [2]), (9, [10, 6], [0]), (20, [5, 4, 9], [30, 0, 1, 1, 12, -1, 0, 0, -31, 0, 0]), (24, [0, 5], [])], [], [], [(20, [5, 4, 13], [30, 0, 1, 1, 12, -1, 0, 0, -31, 0, 0])], [], [(13, 9, 1, 1), (13, 10, -4294967296, 0), (9, 10, -4294967296, -1)])
theorem oo_Ho_writeGroup_at_k0_2 {kA : Nat → ClassId} : or_ok kA GG o_Ho_writeGroup_at_k0_2 := by
  intro A ta ws vs hD hth hl hk hds hf
  have hl : vs.length = 14 := hl
  have hk : ∀ q ∈ ([(0, (2, 0, 0, [12])), (4, (0, 0, 71426432, [])), (5, (2, 0, 0, [12])), (6, (2, 0, 0, [3])), (9, (0, 0, 23, [])), (10, (0, 1, 24, [])), (13, (0, 1, 24, []))] : List (Nat × tv_T)), tv_ok ta q.2 (n_v vs q.1) := hk
  obtain ⟨t0, hk⟩ := List.forall_mem_cons.mp hk
  have t0 : tv_ok ta (2, 0, 0, [12]) (n_v vs 0) := t0
  have r0 : ta (v_ad (n_v vs 0)) = some 12 := tv_rg t0
  obtain ⟨t4, hk⟩ := List.forall_mem_cons.mp hk
  have t4 : tv_ok ta (0, 0, 71426432, []) (n_v vs 4) := t4
  have k4 : 0 ≤ v_iv (n_v vs 4) ∧ v_iv (n_v vs 4) ≤ 71426432 := tv_rng t4
  obtain ⟨t5, hk⟩ := List.forall_mem_cons.mp hk
  have t5 : tv_ok ta (2, 0, 0, [12]) (n_v vs 5) := t5
  have r5 : ta (v_ad (n_v vs 5)) = some 12 := tv_rg t5
  obtain ⟨t6, hk⟩ := List.forall_mem_cons.mp hk
  have t6 : tv_ok ta (2, 0, 0, [3]) (n_v vs 6) := t6
  have r6 : ta (v_ad (n_v vs 6)) = some 3 := tv_rg t6
  obtain ⟨t9, hk⟩ := List.forall_mem_cons.mp hk
  have t9 : tv_ok ta (0, 0, 23, []) (n_v vs 9) := t9
  have k9 : 0 ≤ v_iv (n_v vs 9) ∧ v_iv (n_v vs 9) ≤ 23 := tv_rng t9
  obtain ⟨t10, hk⟩ := List.forall_mem_cons.mp hk
  have t10 : tv_ok ta (0, 1, 24, []) (n_v vs 10) := t10
  have k10 : 1 ≤ v_iv (n_v vs 10) ∧ v_iv (n_v vs 10) ≤ 24 := tv_rng t10
  obtain ⟨t13, hk⟩ := List.forall_mem_cons.mp hk
  have t13 : tv_ok ta (0, 1, 24, []) (n_v vs 13) := t13
  have k13 : 1 ≤ v_iv (n_v vs 13) ∧ v_iv (n_v vs 13) ≤ 24 := tv_rng t13
  have hds : ∀ q ∈ ([(13, 9, 1, 1), (13, 10, -4294967296, 0), (9, 10, -4294967296, -1)] : List of_T), n_iv vs q.2.1 + q.2.2.1 ≤ n_iv vs q.1 ∧ n_iv vs q.1 ≤ n_iv vs q.2.1 + q.2.2.2 := hds
  obtain ⟨d0, hds⟩ := List.forall_mem_cons.mp hds
  have d0 : v_iv (n_v vs 9) + 1 ≤ v_iv (n_v vs 13) ∧ v_iv (n_v vs 13) ≤ v_iv (n_v vs 9) + 1 := d0
  obtain ⟨d1, hds⟩ := List.forall_mem_cons.mp hds
  have d1 : v_iv (n_v vs 10) + (-4294967296) ≤ v_iv (n_v vs 13) ∧ v_iv (n_v vs 13) ≤ v_iv (n_v vs 10) + 0 := d1
  obtain ⟨d2, hds⟩ := List.forall_mem_cons.mp hds
  have d2 : v_iv (n_v vs 10) + (-4294967296) ≤ v_iv (n_v vs 9) ∧ v_iv (n_v vs 9) ≤ v_iv (n_v vs 10) + (-1) := d2
  have hf : fc_ok [(6, [13, 9], [1]), (7, [9, 10], [2]), (9, [10, 6], [0]), (20, [5, 4, 9], [30, 0, 1, 1, 12, -1, 0, 0, -31, 0, 0]), (24, [0, 5], [])] ta ws vs := hf
  obtain ⟨f0, hf⟩ := fc_un (show (6 : Nat) < 100 from by decide) hf
  have f0 : v_iv (n_v vs 13) = v_iv (n_v vs 9) + 1 := f0
  obtain ⟨f1, hf⟩ := fc_un (show (7 : Nat) < 100 from by decide) hf
  have f1 : v_iv (n_v vs 9) < v_iv (n_v vs 10) := f1
  obtain ⟨f2, hf⟩ := fc_un (show (9 : Nat) < 100 from by decide) hf
  have f2 : n_v vs 10 = w_fd ws (v_ad (n_v vs 6)) 0 := f2
  obtain ⟨f3, hf⟩ := fc_un (show (20 : Nat) < 100 from by decide) hf
  have f3 : 1 * w_fi ws (n_v vs 5) 12 + ((-1) * v_iv (n_v vs 4) + ((-31) * v_iv (n_v vs 9) + 0)) ≤ 0 := f3
  obtain ⟨f4, hf⟩ := fc_un (show (24 : Nat) < 100 from by decide) hf
  have f4 : n_v vs 0 = n_v vs 5 := f4
  have q5 : n_v vs 5 = n_v vs 0 := f4.symm
  rw [q5] at f3
  have g2 : v_iv (n_v vs 10) = w_fi ws (n_v vs 6) 0 := congrArg v_iv f2
  have kz_0_12 : 0 ≤ w_fi ws (n_v vs 0) 12 ∧ w_fi ws (n_v vs 0) 12 ≤ 100000000 := tv_rng (th_fd hD hth r0 (g := GG_12) rfl (k := 12) (t := (0, 0, 100000000, [])) rfl rfl)
  have kz_6_0 : 0 ≤ w_fi ws (n_v vs 6) 0 ∧ w_fi ws (n_v vs 6) 0 ≤ 24 := tv_rng (th_fd hD hth r6 (g := GG_3) rfl (k := 0) (t := (0, 0, 24, [])) rfl rfl)
  have nf0 : fc_1 (20, [5, 4, 13], [30, 0, 1, 1, 12, -1, 0, 0, -31, 0, 0]) ws (vs) := by
    refine ⟨fun n hn => ?_, ?_⟩
    · have hn : n ∈ [5, 4, 13] := hn
      rw [hl]
      simp only [List.mem_cons, List.not_mem_nil, or_false] at hn
      show n < 14; omega
    · show 1 * w_fi ws (n_v vs 5) 12 + ((-1) * v_iv (n_v vs 4) + ((-31) * v_iv (n_v vs 13) + 0)) ≤ 0
      rw [q5]
      omega
  refine ⟨(fun _ h => (by cases h)), [], trivial, ?_, (fun _ h => (by cases h))⟩
  rw [List.append_nil]
  exact List.forall_mem_cons.mpr ⟨⟨show (20 : Nat) < 100 from by decide, nf0⟩, (fun _ h => (by cases h))⟩
def o_Ho_writeGroup_at_k0_3 : or_T := (27, 14, [(0, (2, 0, 0, [12])), (4, (0, 0, 71426432, [])), (5, (2, 0, 0, [12])), (6, (2, 0, 0, [3])), (9, (0, 0, 23, [])), (10, (0, 1, 24, []))], [(7, [9, 10], [2]), (9, [10, 6], [0]), (20, [5, 4, 9], [30, 0, 1, 1, 12, -1, 0, 0, -31, 0, 0]), (24, [0, 5], [])], [], [(0, 0, 99999995, [])], [(20, [5, 14], [30, 0, 1, 1, 12, -1, 0, 0]), (23, [14, 4, 9], [0, 1, -1, -31])], [], [(9, 10, -4294967296, -1)])
theorem oo_Ho_writeGroup_at_k0_3 {kA : Nat → ClassId} : or_ok kA GG o_Ho_writeGroup_at_k0_3 := by
  intro A ta ws vs hD hth hl hk hds hf
  have hl : vs.length = 14 := hl
  have hk : ∀ q ∈ ([(0, (2, 0, 0, [12])), (4, (0, 0, 71426432, [])), (5, (2, 0, 0, [12])), (6, (2, 0, 0, [3])), (9, (0, 0, 23, [])), (10, (0, 1, 24, []))] : List (Nat × tv_T)), tv_ok ta q.2 (n_v vs q.1) := hk
  obtain ⟨t0, hk⟩ := List.forall_mem_cons.mp hk
  have t0 : tv_ok ta (2, 0, 0, [12]) (n_v vs 0) := t0
  have r0 : ta (v_ad (n_v vs 0)) = some 12 := tv_rg t0
  obtain ⟨t4, hk⟩ := List.forall_mem_cons.mp hk
  have t4 : tv_ok ta (0, 0, 71426432, []) (n_v vs 4) := t4
  have k4 : 0 ≤ v_iv (n_v vs 4) ∧ v_iv (n_v vs 4) ≤ 71426432 := tv_rng t4
  obtain ⟨t5, hk⟩ := List.forall_mem_cons.mp hk
  have t5 : tv_ok ta (2, 0, 0, [12]) (n_v vs 5) := t5
  have r5 : ta (v_ad (n_v vs 5)) = some 12 := tv_rg t5
  obtain ⟨t6, hk⟩ := List.forall_mem_cons.mp hk
  have t6 : tv_ok ta (2, 0, 0, [3]) (n_v vs 6) := t6
  have r6 : ta (v_ad (n_v vs 6)) = some 3 := tv_rg t6
  obtain ⟨t9, hk⟩ := List.forall_mem_cons.mp hk
  have t9 : tv_ok ta (0, 0, 23, []) (n_v vs 9) := t9
  have k9 : 0 ≤ v_iv (n_v vs 9) ∧ v_iv (n_v vs 9) ≤ 23 := tv_rng t9
  obtain ⟨t10, hk⟩ := List.forall_mem_cons.mp hk
  have t10 : tv_ok ta (0, 1, 24, []) (n_v vs 10) := t10
  have k10 : 1 ≤ v_iv (n_v vs 10) ∧ v_iv (n_v vs 10) ≤ 24 := tv_rng t10
  have hds : ∀ q ∈ ([(9, 10, -4294967296, -1)] : List of_T), n_iv vs q.2.1 + q.2.2.1 ≤ n_iv vs q.1 ∧ n_iv vs q.1 ≤ n_iv vs q.2.1 + q.2.2.2 := hds
  obtain ⟨d0, hds⟩ := List.forall_mem_cons.mp hds
  have d0 : v_iv (n_v vs 10) + (-4294967296) ≤ v_iv (n_v vs 9) ∧ v_iv (n_v vs 9) ≤ v_iv (n_v vs 10) + (-1) := d0
  have hf : fc_ok [(7, [9, 10], [2]), (9, [10, 6], [0]), (20, [5, 4, 9], [30, 0, 1, 1, 12, -1, 0, 0, -31, 0, 0]), (24, [0, 5], [])] ta ws vs := hf
  obtain ⟨f0, hf⟩ := fc_un (show (7 : Nat) < 100 from by decide) hf
  have f0 : v_iv (n_v vs 9) < v_iv (n_v vs 10) := f0
  obtain ⟨f1, hf⟩ := fc_un (show (9 : Nat) < 100 from by decide) hf
  have f1 : n_v vs 10 = w_fd ws (v_ad (n_v vs 6)) 0 := f1
  obtain ⟨f2, hf⟩ := fc_un (show (20 : Nat) < 100 from by decide) hf
  have f2 : 1 * w_fi ws (n_v vs 5) 12 + ((-1) * v_iv (n_v vs 4) + ((-31) * v_iv (n_v vs 9) + 0)) ≤ 0 := f2
  obtain ⟨f3, hf⟩ := fc_un (show (24 : Nat) < 100 from by decide) hf
  have f3 : n_v vs 0 = n_v vs 5 := f3
  have q5 : n_v vs 5 = n_v vs 0 := f3.symm
  rw [q5] at f2
  have g1 : v_iv (n_v vs 10) = w_fi ws (n_v vs 6) 0 := congrArg v_iv f1
  have kz_0_12 : 0 ≤ w_fi ws (n_v vs 0) 12 ∧ w_fi ws (n_v vs 0) 12 ≤ 100000000 := tv_rng (th_fd hD hth r0 (g := GG_12) rfl (k := 12) (t := (0, 0, 100000000, [])) rfl rfl)
  have kz_6_0 : 0 ≤ w_fi ws (n_v vs 6) 0 ∧ w_fi ws (n_v vs 6) 0 ≤ 24 := tv_rng (th_fd hD hth r6 (g := GG_3) rfl (k := 0) (t := (0, 0, 24, [])) rfl rfl)
  have kv0 : 0 ≤ w_fi ws (n_v vs 0) 12 ∧ w_fi ws (n_v vs 0) 12 ≤ 100000000 := tv_rng (th_fd hD hth r0 (g := GG_12) rfl (k := 12) (t := (0, 0, 100000000, [])) rfl rfl)
  obtain ⟨x, ex, hx⟩ := iv_ex (ta := ta) (lo := 0) (hi := 99999995) (z := w_fi ws (n_v vs 0) 12) (by omega) (by omega) (by omega) (by omega)
  have ex2 : v_iv (Value.int x) = w_fi ws (n_v vs 0) 12 := ex
  have ex3 : 0 ≤ v_iv (Value.int x) ∧ v_iv (Value.int x) ≤ 99999995 := tv_rng hx
  have e_4 : n_v (vs ++ [Value.int x]) 4 = n_v vs 4 := n_v_old (by rw [hl]; decide)
  have e_5 : n_v (vs ++ [Value.int x]) 5 = n_v vs 5 := n_v_old (by rw [hl]; decide)
  have e_9 : n_v (vs ++ [Value.int x]) 9 = n_v vs 9 := n_v_old (by rw [hl]; decide)
  have e_14 : n_v (vs ++ [Value.int x]) 14 = Value.int x := n_v_new hl
  have nf0 : fc_1 (20, [5, 14], [30, 0, 1, 1, 12, -1, 0, 0]) ws (vs ++ [Value.int x]) := by
    refine ⟨fun n hn => ?_, ?_⟩
    · have hn : n ∈ [5, 14] := hn
      rw [List.length_append, hl]
      simp only [List.mem_cons, List.not_mem_nil, or_false] at hn
      show n < 14 + 1; omega
    · show 1 * w_fi ws (n_v (vs ++ [Value.int x]) 5) 12 + ((-1) * v_iv (n_v (vs ++ [Value.int x]) 14) + 0) ≤ 0
      rw [e_5]
      rw [e_14]
      rw [q5]
      omega
  have nf1 : fc_1 (23, [14, 4, 9], [0, 1, -1, -31]) ws (vs ++ [Value.int x]) := by
    refine ⟨fun n hn => ?_, ?_⟩
    · have hn : n ∈ [14, 4, 9] := hn
      rw [List.length_append, hl]
      simp only [List.mem_cons, List.not_mem_nil, or_false] at hn
      show n < 14 + 1; omega
    · show 1 * v_iv (n_v (vs ++ [Value.int x]) 14) + ((-1) * v_iv (n_v (vs ++ [Value.int x]) 4) + ((-31) * v_iv (n_v (vs ++ [Value.int x]) 9) + 0)) ≤ 0
      rw [e_4]
      rw [e_9]
      rw [e_14]
      omega
  exact ⟨(fun _ h => (by cases h)), [Value.int x], ag_one hx, List.forall_mem_cons.mpr ⟨⟨show (20 : Nat) < 100 from by decide, nf0⟩, List.forall_mem_cons.mpr ⟨⟨show (23 : Nat) < 100 from by decide, nf1⟩, (fun _ h => (by cases h))⟩⟩, (fun _ h => (by cases h))⟩
def o_Ho_writeGroup_at_k0_4 : or_T := (44, 18, [(0, (2, 0, 0, [12])), (4, (0, 0, 71426432, [])), (5, (2, 0, 0, [12])), (9, (0, 0, 23, [])), (10, (0, 1, 24, [])), (14, (0, 0, 99999995, []))], [(23, [14, 4, 9], [0, 1, -1, -31]), (24, [0, 5], []), (20, [5, 14], [30, 5, 1, 1, 12, -1, 0, 0]), (102, [14], [261336857795280739939871698507597986398208, 12012]), (23, [14, 4, 9], [0, 1, -1, -31]), (7, [9, 10], [2])], [], [(0, 0, 99999992, [])], [(20, [5, 18], [30, 0, 1, 1, 12, -1, 0, 0]), (23, [18, 4, 9], [5, 1, -1, -31])], [], [(9, 10, -4294967296, -1)])
theorem oo_Ho_writeGroup_at_k0_4 {kA : Nat → ClassId} : or_ok kA GG o_Ho_writeGroup_at_k0_4 := by
  intro A ta ws vs hD hth hl hk hds hf
  have hl : vs.length = 18 := hl
  have hk : ∀ q ∈ ([(0, (2, 0, 0, [12])), (4, (0, 0, 71426432, [])), (5, (2, 0, 0, [12])), (9, (0, 0, 23, [])), (10, (0, 1, 24, [])), (14, (0, 0, 99999995, []))] : List (Nat × tv_T)), tv_ok ta q.2 (n_v vs q.1) := hk
  obtain ⟨t0, hk⟩ := List.forall_mem_cons.mp hk
  have t0 : tv_ok ta (2, 0, 0, [12]) (n_v vs 0) := t0
  have r0 : ta (v_ad (n_v vs 0)) = some 12 := tv_rg t0
  obtain ⟨t4, hk⟩ := List.forall_mem_cons.mp hk
  have t4 : tv_ok ta (0, 0, 71426432, []) (n_v vs 4) := t4
  have k4 : 0 ≤ v_iv (n_v vs 4) ∧ v_iv (n_v vs 4) ≤ 71426432 := tv_rng t4
  obtain ⟨t5, hk⟩ := List.forall_mem_cons.mp hk
  have t5 : tv_ok ta (2, 0, 0, [12]) (n_v vs 5) := t5
  have r5 : ta (v_ad (n_v vs 5)) = some 12 := tv_rg t5
  obtain ⟨t9, hk⟩ := List.forall_mem_cons.mp hk
  have t9 : tv_ok ta (0, 0, 23, []) (n_v vs 9) := t9
  have k9 : 0 ≤ v_iv (n_v vs 9) ∧ v_iv (n_v vs 9) ≤ 23 := tv_rng t9
  obtain ⟨t10, hk⟩ := List.forall_mem_cons.mp hk
  have t10 : tv_ok ta (0, 1, 24, []) (n_v vs 10) := t10
  have k10 : 1 ≤ v_iv (n_v vs 10) ∧ v_iv (n_v vs 10) ≤ 24 := tv_rng t10
  obtain ⟨t14, hk⟩ := List.forall_mem_cons.mp hk
  have t14 : tv_ok ta (0, 0, 99999995, []) (n_v vs 14) := t14
  have k14 : 0 ≤ v_iv (n_v vs 14) ∧ v_iv (n_v vs 14) ≤ 99999995 := tv_rng t14
  have hds : ∀ q ∈ ([(9, 10, -4294967296, -1)] : List of_T), n_iv vs q.2.1 + q.2.2.1 ≤ n_iv vs q.1 ∧ n_iv vs q.1 ≤ n_iv vs q.2.1 + q.2.2.2 := hds
  obtain ⟨d0, hds⟩ := List.forall_mem_cons.mp hds
  have d0 : v_iv (n_v vs 10) + (-4294967296) ≤ v_iv (n_v vs 9) ∧ v_iv (n_v vs 9) ≤ v_iv (n_v vs 10) + (-1) := d0
  have hf : fc_ok [(23, [14, 4, 9], [0, 1, -1, -31]), (24, [0, 5], []), (20, [5, 14], [30, 5, 1, 1, 12, -1, 0, 0]), (102, [14], [261336857795280739939871698507597986398208, 12012]), (23, [14, 4, 9], [0, 1, -1, -31]), (7, [9, 10], [2])] ta ws vs := hf
  obtain ⟨f0, hf⟩ := fc_un (show (23 : Nat) < 100 from by decide) hf
  have f0 : 1 * v_iv (n_v vs 14) + ((-1) * v_iv (n_v vs 4) + ((-31) * v_iv (n_v vs 9) + 0)) ≤ 0 := f0
  obtain ⟨f1, hf⟩ := fc_un (show (24 : Nat) < 100 from by decide) hf
  have f1 : n_v vs 0 = n_v vs 5 := f1
  obtain ⟨f2, hf⟩ := fc_un (show (20 : Nat) < 100 from by decide) hf
  have f2 : 1 * w_fi ws (n_v vs 5) 12 + ((-1) * v_iv (n_v vs 14) + 0) ≤ 5 := f2
  obtain ⟨ta1, w1, le1, ⟨_, s1⟩, hf⟩ := fc_us (show ¬ (102 : Nat) < 100 from by decide) hf
  obtain ⟨f4, hf⟩ := fc_un (show (23 : Nat) < 100 from by decide) hf
  have f4 : 1 * v_iv (n_v vs 14) + ((-1) * v_iv (n_v vs 4) + ((-31) * v_iv (n_v vs 9) + 0)) ≤ 0 := f4
  obtain ⟨f5, hf⟩ := fc_un (show (7 : Nat) < 100 from by decide) hf
  have f5 : v_iv (n_v vs 9) < v_iv (n_v vs 10) := f5
  have q5 : n_v vs 5 = n_v vs 0 := f1.symm
  rw [q5] at f2
  have kz_0_12 : 0 ≤ w_fi ws (n_v vs 0) 12 ∧ w_fi ws (n_v vs 0) 12 ≤ 100000000 := tv_rng (th_fd hD hth r0 (g := GG_12) rfl (k := 12) (t := (0, 0, 100000000, [])) rfl rfl)
  have kv0 : 0 ≤ w_fi ws (n_v vs 0) 12 ∧ w_fi ws (n_v vs 0) 12 ≤ 100000000 := tv_rng (th_fd hD hth r0 (g := GG_12) rfl (k := 12) (t := (0, 0, 100000000, [])) rfl rfl)
  obtain ⟨x, ex, hx⟩ := iv_ex (ta := ta) (lo := 0) (hi := 99999992) (z := w_fi ws (n_v vs 0) 12) (by omega) (by omega) (by omega) (by omega)
  have ex2 : v_iv (Value.int x) = w_fi ws (n_v vs 0) 12 := ex
  have ex3 : 0 ≤ v_iv (Value.int x) ∧ v_iv (Value.int x) ≤ 99999992 := tv_rng hx
  have e_4 : n_v (vs ++ [Value.int x]) 4 = n_v vs 4 := n_v_old (by rw [hl]; decide)
  have e_5 : n_v (vs ++ [Value.int x]) 5 = n_v vs 5 := n_v_old (by rw [hl]; decide)
  have e_9 : n_v (vs ++ [Value.int x]) 9 = n_v vs 9 := n_v_old (by rw [hl]; decide)
  have e_18 : n_v (vs ++ [Value.int x]) 18 = Value.int x := n_v_new hl
  have nf0 : fc_1 (20, [5, 18], [30, 0, 1, 1, 12, -1, 0, 0]) ws (vs ++ [Value.int x]) := by
    refine ⟨fun n hn => ?_, ?_⟩
    · have hn : n ∈ [5, 18] := hn
      rw [List.length_append, hl]
      simp only [List.mem_cons, List.not_mem_nil, or_false] at hn
      show n < 18 + 1; omega
    · show 1 * w_fi ws (n_v (vs ++ [Value.int x]) 5) 12 + ((-1) * v_iv (n_v (vs ++ [Value.int x]) 18) + 0) ≤ 0
      rw [e_5]
      rw [e_18]
      rw [q5]
      omega
  have nf1 : fc_1 (23, [18, 4, 9], [5, 1, -1, -31]) ws (vs ++ [Value.int x]) := by
    refine ⟨fun n hn => ?_, ?_⟩
    · have hn : n ∈ [18, 4, 9] := hn
      rw [List.length_append, hl]
      simp only [List.mem_cons, List.not_mem_nil, or_false] at hn
      show n < 18 + 1; omega
    · show 1 * v_iv (n_v (vs ++ [Value.int x]) 18) + ((-1) * v_iv (n_v (vs ++ [Value.int x]) 4) + ((-31) * v_iv (n_v (vs ++ [Value.int x]) 9) + 0)) ≤ 5
      rw [e_4]
      rw [e_9]
      rw [e_18]
      omega
  exact ⟨(fun _ h => (by cases h)), [Value.int x], ag_one hx, List.forall_mem_cons.mpr ⟨⟨show (20 : Nat) < 100 from by decide, nf0⟩, List.forall_mem_cons.mpr ⟨⟨show (23 : Nat) < 100 from by decide, nf1⟩, (fun _ h => (by cases h))⟩⟩, (fun _ h => (by cases h))⟩
def o_Ho_writeGroup_at_k0_5 : or_T := (86, 23, [(0, (2, 0, 0, [12])), (4, (0, 0, 71426432, [])), (5, (2, 0, 0, [12])), (9, (0, 0, 23, [])), (10, (0, 1, 24, [])), (14, (0, 0, 99999995, [])), (18, (0, 0, 99999992, []))], [(23, [18, 4, 9], [5, 1, -1, -31]), (23, [14, 4, 9], [0, 1, -1, -31]), (24, [0, 5], []), (20, [5, 18], [30, 8, 1, 1, 12, -1, 0, 0]), (102, [18], [261336857795280739939871698507597986398208, 12012]), (23, [18, 4, 9], [5, 1, -1, -31]), (23, [14, 4, 9], [0, 1, -1, -31]), (102, [14], [261336857795280739939871698507597986398208, 12012]), (23, [14, 4, 9], [0, 1, -1, -31]), (7, [9, 10], [2])], [], [(0, 0, 99999998, [])], [(20, [5, 23], [30, 0, 1, 1, 12, -1, 0, 0]), (23, [23, 4, 9], [29, 1, -1, -31])], [], [(9, 10, -4294967296, -1)])
theorem oo_Ho_writeGroup_at_k0_5 {kA : Nat → ClassId} : or_ok kA GG o_Ho_writeGroup_at_k0_5 := by
  intro A ta ws vs hD hth hl hk hds hf
  have hl : vs.length = 23 := hl
  have hk : ∀ q ∈ ([(0, (2, 0, 0, [12])), (4, (0, 0, 71426432, [])), (5, (2, 0, 0, [12])), (9, (0, 0, 23, [])), (10, (0, 1, 24, [])), (14, (0, 0, 99999995, [])), (18, (0, 0, 99999992, []))] : List (Nat × tv_T)), tv_ok ta q.2 (n_v vs q.1) := hk
  obtain ⟨t0, hk⟩ := List.forall_mem_cons.mp hk
  have t0 : tv_ok ta (2, 0, 0, [12]) (n_v vs 0) := t0
  have r0 : ta (v_ad (n_v vs 0)) = some 12 := tv_rg t0
  obtain ⟨t4, hk⟩ := List.forall_mem_cons.mp hk
  have t4 : tv_ok ta (0, 0, 71426432, []) (n_v vs 4) := t4
  have k4 : 0 ≤ v_iv (n_v vs 4) ∧ v_iv (n_v vs 4) ≤ 71426432 := tv_rng t4
  obtain ⟨t5, hk⟩ := List.forall_mem_cons.mp hk
  have t5 : tv_ok ta (2, 0, 0, [12]) (n_v vs 5) := t5
  have r5 : ta (v_ad (n_v vs 5)) = some 12 := tv_rg t5
  obtain ⟨t9, hk⟩ := List.forall_mem_cons.mp hk
  have t9 : tv_ok ta (0, 0, 23, []) (n_v vs 9) := t9
  have k9 : 0 ≤ v_iv (n_v vs 9) ∧ v_iv (n_v vs 9) ≤ 23 := tv_rng t9
  obtain ⟨t10, hk⟩ := List.forall_mem_cons.mp hk
  have t10 : tv_ok ta (0, 1, 24, []) (n_v vs 10) := t10
  have k10 : 1 ≤ v_iv (n_v vs 10) ∧ v_iv (n_v vs 10) ≤ 24 := tv_rng t10
  obtain ⟨t14, hk⟩ := List.forall_mem_cons.mp hk
  have t14 : tv_ok ta (0, 0, 99999995, []) (n_v vs 14) := t14
  have k14 : 0 ≤ v_iv (n_v vs 14) ∧ v_iv (n_v vs 14) ≤ 99999995 := tv_rng t14
  obtain ⟨t18, hk⟩ := List.forall_mem_cons.mp hk
  have t18 : tv_ok ta (0, 0, 99999992, []) (n_v vs 18) := t18
  have k18 : 0 ≤ v_iv (n_v vs 18) ∧ v_iv (n_v vs 18) ≤ 99999992 := tv_rng t18
  have hds : ∀ q ∈ ([(9, 10, -4294967296, -1)] : List of_T), n_iv vs q.2.1 + q.2.2.1 ≤ n_iv vs q.1 ∧ n_iv vs q.1 ≤ n_iv vs q.2.1 + q.2.2.2 := hds
  obtain ⟨d0, hds⟩ := List.forall_mem_cons.mp hds
  have d0 : v_iv (n_v vs 10) + (-4294967296) ≤ v_iv (n_v vs 9) ∧ v_iv (n_v vs 9) ≤ v_iv (n_v vs 10) + (-1) := d0
  have hf : fc_ok [(23, [18, 4, 9], [5, 1, -1, -31]), (23, [14, 4, 9], [0, 1, -1, -31]), (24, [0, 5], []), (20, [5, 18], [30, 8, 1, 1, 12, -1, 0, 0]), (102, [18], [261336857795280739939871698507597986398208, 12012]), (23, [18, 4, 9], [5, 1, -1, -31]), (23, [14, 4, 9], [0, 1, -1, -31]), (102, [14], [261336857795280739939871698507597986398208, 12012]), (23, [14, 4, 9], [0, 1, -1, -31]), (7, [9, 10], [2])] ta ws vs := hf
  obtain ⟨f0, hf⟩ := fc_un (show (23 : Nat) < 100 from by decide) hf
  have f0 : 1 * v_iv (n_v vs 18) + ((-1) * v_iv (n_v vs 4) + ((-31) * v_iv (n_v vs 9) + 0)) ≤ 5 := f0
  obtain ⟨f1, hf⟩ := fc_un (show (23 : Nat) < 100 from by decide) hf
  have f1 : 1 * v_iv (n_v vs 14) + ((-1) * v_iv (n_v vs 4) + ((-31) * v_iv (n_v vs 9) + 0)) ≤ 0 := f1
  obtain ⟨f2, hf⟩ := fc_un (show (24 : Nat) < 100 from by decide) hf
  have f2 : n_v vs 0 = n_v vs 5 := f2
  obtain ⟨f3, hf⟩ := fc_un (show (20 : Nat) < 100 from by decide) hf
  have f3 : 1 * w_fi ws (n_v vs 5) 12 + ((-1) * v_iv (n_v vs 18) + 0) ≤ 8 := f3
  obtain ⟨ta1, w1, le1, ⟨_, s1⟩, hf⟩ := fc_us (show ¬ (102 : Nat) < 100 from by decide) hf
  obtain ⟨f5, hf⟩ := fc_un (show (23 : Nat) < 100 from by decide) hf
  have f5 : 1 * v_iv (n_v vs 18) + ((-1) * v_iv (n_v vs 4) + ((-31) * v_iv (n_v vs 9) + 0)) ≤ 5 := f5
  obtain ⟨f6, hf⟩ := fc_un (show (23 : Nat) < 100 from by decide) hf
  have f6 : 1 * v_iv (n_v vs 14) + ((-1) * v_iv (n_v vs 4) + ((-31) * v_iv (n_v vs 9) + 0)) ≤ 0 := f6
  obtain ⟨ta2, w2, le2, ⟨_, s2⟩, hf⟩ := fc_us (show ¬ (102 : Nat) < 100 from by decide) hf
  obtain ⟨f8, hf⟩ := fc_un (show (23 : Nat) < 100 from by decide) hf
  have f8 : 1 * v_iv (n_v vs 14) + ((-1) * v_iv (n_v vs 4) + ((-31) * v_iv (n_v vs 9) + 0)) ≤ 0 := f8
  obtain ⟨f9, hf⟩ := fc_un (show (7 : Nat) < 100 from by decide) hf
  have f9 : v_iv (n_v vs 9) < v_iv (n_v vs 10) := f9
  have q5 : n_v vs 5 = n_v vs 0 := f2.symm
  rw [q5] at f3
  have kz_0_12 : 0 ≤ w_fi ws (n_v vs 0) 12 ∧ w_fi ws (n_v vs 0) 12 ≤ 100000000 := tv_rng (th_fd hD hth r0 (g := GG_12) rfl (k := 12) (t := (0, 0, 100000000, [])) rfl rfl)
  have kv0 : 0 ≤ w_fi ws (n_v vs 0) 12 ∧ w_fi ws (n_v vs 0) 12 ≤ 100000000 := tv_rng (th_fd hD hth r0 (g := GG_12) rfl (k := 12) (t := (0, 0, 100000000, [])) rfl rfl)
  obtain ⟨x, ex, hx⟩ := iv_ex (ta := ta) (lo := 0) (hi := 99999998) (z := w_fi ws (n_v vs 0) 12) (by omega) (by omega) (by omega) (by omega)
  have ex2 : v_iv (Value.int x) = w_fi ws (n_v vs 0) 12 := ex
  have ex3 : 0 ≤ v_iv (Value.int x) ∧ v_iv (Value.int x) ≤ 99999998 := tv_rng hx
  have e_4 : n_v (vs ++ [Value.int x]) 4 = n_v vs 4 := n_v_old (by rw [hl]; decide)
  have e_5 : n_v (vs ++ [Value.int x]) 5 = n_v vs 5 := n_v_old (by rw [hl]; decide)
  have e_9 : n_v (vs ++ [Value.int x]) 9 = n_v vs 9 := n_v_old (by rw [hl]; decide)
  have e_23 : n_v (vs ++ [Value.int x]) 23 = Value.int x := n_v_new hl
  have nf0 : fc_1 (20, [5, 23], [30, 0, 1, 1, 12, -1, 0, 0]) ws (vs ++ [Value.int x]) := by
    refine ⟨fun n hn => ?_, ?_⟩
    · have hn : n ∈ [5, 23] := hn
      rw [List.length_append, hl]
      simp only [List.mem_cons, List.not_mem_nil, or_false] at hn
      show n < 23 + 1; omega
    · show 1 * w_fi ws (n_v (vs ++ [Value.int x]) 5) 12 + ((-1) * v_iv (n_v (vs ++ [Value.int x]) 23) + 0) ≤ 0
      rw [e_5]
      rw [e_23]
      rw [q5]
      omega
  have nf1 : fc_1 (23, [23, 4, 9], [29, 1, -1, -31]) ws (vs ++ [Value.int x]) := by
    refine ⟨fun n hn => ?_, ?_⟩
    · have hn : n ∈ [23, 4, 9] := hn
      rw [List.length_append, hl]
      simp only [List.mem_cons, List.not_mem_nil, or_false] at hn
      show n < 23 + 1; omega
    · show 1 * v_iv (n_v (vs ++ [Value.int x]) 23) + ((-1) * v_iv (n_v (vs ++ [Value.int x]) 4) + ((-31) * v_iv (n_v (vs ++ [Value.int x]) 9) + 0)) ≤ 29
      rw [e_4]
      rw [e_9]
      rw [e_23]
      omega
  exact ⟨(fun _ h => (by cases h)), [Value.int x], ag_one hx, List.forall_mem_cons.mpr ⟨⟨show (20 : Nat) < 100 from by decide, nf0⟩, List.forall_mem_cons.mpr ⟨⟨show (23 : Nat) < 100 from by decide, nf1⟩, (fun _ h => (by cases h))⟩⟩, (fun _ h => (by cases h))⟩
def o_Ho_writeGroup_at_k0_6 : or_T := (3, 25, [(0, (2, 0, 0, [12])), (4, (0, 0, 71426432, [])), (5, (2, 0, 0, [12])), (9, (0, 0, 23, [])), (10, (0, 1, 24, [])), (14, (0, 0, 99999995, [])), (18, (0, 0, 99999992, [])), (23, (0, 0, 99999998, [])), (24, (0, 1, 24, []))], [(6, [24, 9], [1]), (23, [23, 4, 9], [29, 1, -1, -31]), (23, [18, 4, 9], [5, 1, -1, -31]), (23, [14, 4, 9], [0, 1, -1, -31]), (24, [0, 5], []), (20, [5, 23], [30, 2, 1, 1, 12, -1, 0, 0]), (102, [23], [261336857795280739939871698507597986398208, 12012]), (23, [23, 4, 9], [29, 1, -1, -31]), (23, [18, 4, 9], [5, 1, -1, -31]), (23, [14, 4, 9], [0, 1, -1, -31]), (102, [18], [261336857795280739939871698507597986398208, 12012]), (23, [18, 4, 9], [5, 1, -1, -31]), (23, [14, 4, 9], [0, 1, -1, -31]), (102, [14], [261336857795280739939871698507597986398208, 12012]), (23, [14, 4, 9], [0, 1, -1, -31]), (7, [9, 10], [2])], [], [], [(20, [5, 4, 24], [30, 0, 1, 1, 12, -1, 0, 0, -31, 0, 0])], [], [(24, 9, 1, 1), (24, 10, -4294967296, 0), (9, 10, -4294967296, -1)])
theorem oo_Ho_writeGroup_at_k0_6 {kA : Nat → ClassId} : or_ok kA GG o_Ho_writeGroup_at_k0_6 := by
  intro A ta ws vs hD hth hl hk hds hf
  have hl : vs.length = 25 := hl
  have hk : ∀ q ∈ ([(0, (2, 0, 0, [12])), (4, (0, 0, 71426432, [])), (5, (2, 0, 0, [12])), (9, (0, 0, 23, [])), (10, (0, 1, 24, [])), (14, (0, 0, 99999995, [])), (18, (0, 0, 99999992, [])), (23, (0, 0, 99999998, [])), (24, (0, 1, 24, []))] : List (Nat × tv_T)), tv_ok ta q.2 (n_v vs q.1) := hk
  obtain ⟨t0, hk⟩ := List.forall_mem_cons.mp hk
  have t0 : tv_ok ta (2, 0, 0, [12]) (n_v vs 0) := t0
  have r0 : ta (v_ad (n_v vs 0)) = some 12 := tv_rg t0
  obtain ⟨t4, hk⟩ := List.forall_mem_cons.mp hk
  have t4 : tv_ok ta (0, 0, 71426432, []) (n_v vs 4) := t4
  have k4 : 0 ≤ v_iv (n_v vs 4) ∧ v_iv (n_v vs 4) ≤ 71426432 := tv_rng t4
  obtain ⟨t5, hk⟩ := List.forall_mem_cons.mp hk
  have t5 : tv_ok ta (2, 0, 0, [12]) (n_v vs 5) := t5
  have r5 : ta (v_ad (n_v vs 5)) = some 12 := tv_rg t5
  obtain ⟨t9, hk⟩ := List.forall_mem_cons.mp hk
  have t9 : tv_ok ta (0, 0, 23, []) (n_v vs 9) := t9
  have k9 : 0 ≤ v_iv (n_v vs 9) ∧ v_iv (n_v vs 9) ≤ 23 := tv_rng t9
  obtain ⟨t10, hk⟩ := List.forall_mem_cons.mp hk
  have t10 : tv_ok ta (0, 1, 24, []) (n_v vs 10) := t10
  have k10 : 1 ≤ v_iv (n_v vs 10) ∧ v_iv (n_v vs 10) ≤ 24 := tv_rng t10
  obtain ⟨t14, hk⟩ := List.forall_mem_cons.mp hk
  have t14 : tv_ok ta (0, 0, 99999995, []) (n_v vs 14) := t14
  have k14 : 0 ≤ v_iv (n_v vs 14) ∧ v_iv (n_v vs 14) ≤ 99999995 := tv_rng t14
  obtain ⟨t18, hk⟩ := List.forall_mem_cons.mp hk
  have t18 : tv_ok ta (0, 0, 99999992, []) (n_v vs 18) := t18
  have k18 : 0 ≤ v_iv (n_v vs 18) ∧ v_iv (n_v vs 18) ≤ 99999992 := tv_rng t18
  obtain ⟨t23, hk⟩ := List.forall_mem_cons.mp hk
  have t23 : tv_ok ta (0, 0, 99999998, []) (n_v vs 23) := t23
  have k23 : 0 ≤ v_iv (n_v vs 23) ∧ v_iv (n_v vs 23) ≤ 99999998 := tv_rng t23
  obtain ⟨t24, hk⟩ := List.forall_mem_cons.mp hk
  have t24 : tv_ok ta (0, 1, 24, []) (n_v vs 24) := t24
  have k24 : 1 ≤ v_iv (n_v vs 24) ∧ v_iv (n_v vs 24) ≤ 24 := tv_rng t24
  have hds : ∀ q ∈ ([(24, 9, 1, 1), (24, 10, -4294967296, 0), (9, 10, -4294967296, -1)] : List of_T), n_iv vs q.2.1 + q.2.2.1 ≤ n_iv vs q.1 ∧ n_iv vs q.1 ≤ n_iv vs q.2.1 + q.2.2.2 := hds
  obtain ⟨d0, hds⟩ := List.forall_mem_cons.mp hds
  have d0 : v_iv (n_v vs 9) + 1 ≤ v_iv (n_v vs 24) ∧ v_iv (n_v vs 24) ≤ v_iv (n_v vs 9) + 1 := d0
  obtain ⟨d1, hds⟩ := List.forall_mem_cons.mp hds
  have d1 : v_iv (n_v vs 10) + (-4294967296) ≤ v_iv (n_v vs 24) ∧ v_iv (n_v vs 24) ≤ v_iv (n_v vs 10) + 0 := d1
  obtain ⟨d2, hds⟩ := List.forall_mem_cons.mp hds
  have d2 : v_iv (n_v vs 10) + (-4294967296) ≤ v_iv (n_v vs 9) ∧ v_iv (n_v vs 9) ≤ v_iv (n_v vs 10) + (-1) := d2
  have hf : fc_ok [(6, [24, 9], [1]), (23, [23, 4, 9], [29, 1, -1, -31]), (23, [18, 4, 9], [5, 1, -1, -31]), (23, [14, 4, 9], [0, 1, -1, -31]), (24, [0, 5], []), (20, [5, 23], [30, 2, 1, 1, 12, -1, 0, 0]), (102, [23], [261336857795280739939871698507597986398208, 12012]), (23, [23, 4, 9], [29, 1, -1, -31]), (23, [18, 4, 9], [5, 1, -1, -31]), (23, [14, 4, 9], [0, 1, -1, -31]), (102, [18], [261336857795280739939871698507597986398208, 12012]), (23, [18, 4, 9], [5, 1, -1, -31]), (23, [14, 4, 9], [0, 1, -1, -31]), (102, [14], [261336857795280739939871698507597986398208, 12012]), (23, [14, 4, 9], [0, 1, -1, -31]), (7, [9, 10], [2])] ta ws vs := hf
  obtain ⟨f0, hf⟩ := fc_un (show (6 : Nat) < 100 from by decide) hf
  have f0 : v_iv (n_v vs 24) = v_iv (n_v vs 9) + 1 := f0
  obtain ⟨f1, hf⟩ := fc_un (show (23 : Nat) < 100 from by decide) hf
  have f1 : 1 * v_iv (n_v vs 23) + ((-1) * v_iv (n_v vs 4) + ((-31) * v_iv (n_v vs 9) + 0)) ≤ 29 := f1
  obtain ⟨f2, hf⟩ := fc_un (show (23 : Nat) < 100 from by decide) hf
  have f2 : 1 * v_iv (n_v vs 18) + ((-1) * v_iv (n_v vs 4) + ((-31) * v_iv (n_v vs 9) + 0)) ≤ 5 := f2
  obtain ⟨f3, hf⟩ := fc_un (show (23 : Nat) < 100 from by decide) hf
  have f3 : 1 * v_iv (n_v vs 14) + ((-1) * v_iv (n_v vs 4) + ((-31) * v_iv (n_v vs 9) + 0)) ≤ 0 := f3
  obtain ⟨f4, hf⟩ := fc_un (show (24 : Nat) < 100 from by decide) hf
  have f4 : n_v vs 0 = n_v vs 5 := f4
  obtain ⟨f5, hf⟩ := fc_un (show (20 : Nat) < 100 from by decide) hf
  have f5 : 1 * w_fi ws (n_v vs 5) 12 + ((-1) * v_iv (n_v vs 23) + 0) ≤ 2 := f5
  obtain ⟨ta1, w1, le1, ⟨_, s1⟩, hf⟩ := fc_us (show ¬ (102 : Nat) < 100 from by decide) hf
  obtain ⟨f7, hf⟩ := fc_un (show (23 : Nat) < 100 from by decide) hf
  have f7 : 1 * v_iv (n_v vs 23) + ((-1) * v_iv (n_v vs 4) + ((-31) * v_iv (n_v vs 9) + 0)) ≤ 29 := f7
  obtain ⟨f8, hf⟩ := fc_un (show (23 : Nat) < 100 from by decide) hf
  have f8 : 1 * v_iv (n_v vs 18) + ((-1) * v_iv (n_v vs 4) + ((-31) * v_iv (n_v vs 9) + 0)) ≤ 5 := f8
  obtain ⟨f9, hf⟩ := fc_un (show (23 : Nat) < 100 from by decide) hf
  have f9 : 1 * v_iv (n_v vs 14) + ((-1) * v_iv (n_v vs 4) + ((-31) * v_iv (n_v vs 9) + 0)) ≤ 0 := f9
  obtain ⟨ta2, w2, le2, ⟨_, s2⟩, hf⟩ := fc_us (show ¬ (102 : Nat) < 100 from by decide) hf
  obtain ⟨f11, hf⟩ := fc_un (show (23 : Nat) < 100 from by decide) hf
  have f11 : 1 * v_iv (n_v vs 18) + ((-1) * v_iv (n_v vs 4) + ((-31) * v_iv (n_v vs 9) + 0)) ≤ 5 := f11
  obtain ⟨f12, hf⟩ := fc_un (show (23 : Nat) < 100 from by decide) hf
  have f12 : 1 * v_iv (n_v vs 14) + ((-1) * v_iv (n_v vs 4) + ((-31) * v_iv (n_v vs 9) + 0)) ≤ 0 := f12
  obtain ⟨ta3, w3, le3, ⟨_, s3⟩, hf⟩ := fc_us (show ¬ (102 : Nat) < 100 from by decide) hf
  obtain ⟨f14, hf⟩ := fc_un (show (23 : Nat) < 100 from by decide) hf
  have f14 : 1 * v_iv (n_v vs 14) + ((-1) * v_iv (n_v vs 4) + ((-31) * v_iv (n_v vs 9) + 0)) ≤ 0 := f14
  obtain ⟨f15, hf⟩ := fc_un (show (7 : Nat) < 100 from by decide) hf
  have f15 : v_iv (n_v vs 9) < v_iv (n_v vs 10) := f15
  have q5 : n_v vs 5 = n_v vs 0 := f4.symm
  rw [q5] at f5
  have kz_0_12 : 0 ≤ w_fi ws (n_v vs 0) 12 ∧ w_fi ws (n_v vs 0) 12 ≤ 100000000 := tv_rng (th_fd hD hth r0 (g := GG_12) rfl (k := 12) (t := (0, 0, 100000000, [])) rfl rfl)
  have nf0 : fc_1 (20, [5, 4, 24], [30, 0, 1, 1, 12, -1, 0, 0, -31, 0, 0]) ws (vs) := by
    refine ⟨fun n hn => ?_, ?_⟩
    · have hn : n ∈ [5, 4, 24] := hn
      rw [hl]
      simp only [List.mem_cons, List.not_mem_nil, or_false] at hn
      show n < 25; omega
    · show 1 * w_fi ws (n_v vs 5) 12 + ((-1) * v_iv (n_v vs 4) + ((-31) * v_iv (n_v vs 24) + 0)) ≤ 0
      rw [q5]
      omega
  refine ⟨(fun _ h => (by cases h)), [], trivial, ?_, (fun _ h => (by cases h))⟩
  rw [List.append_nil]
  exact List.forall_mem_cons.mpr ⟨⟨show (20 : Nat) < 100 from by decide, nf0⟩, (fun _ h => (by cases h))⟩
def o_Ho_writeGroup_at_k0_7 : or_T := (62, 23, [(0, (2, 0, 0, [12])), (4, (0, 0, 71426432, [])), (5, (2, 0, 0, [12])), (9, (0, 0, 23, [])), (10, (0, 1, 24, [])), (14, (0, 0, 99999995, [])), (18, (0, 0, 99999992, []))], [(23, [18, 4, 9], [5, 1, -1, -31]), (23, [14, 4, 9], [0, 1, -1, -31]), (24, [0, 5], []), (20, [5, 18], [30, 8, 1, 1, 12, -1, 0, 0]), (102, [18], [261336857795280739939871698507597986398208, 12012]), (23, [18, 4, 9], [5, 1, -1, -31]), (23, [14, 4, 9], [0, 1, -1, -31]), (102, [14], [261336857795280739939871698507597986398208, 12012]), (23, [14, 4, 9], [0, 1, -1, -31]), (7, [9, 10], [2])], [], [(0, 0, 99999993, [])], [(20, [5, 23], [30, 0, 1, 1, 12, -1, 0, 0]), (23, [23, 4, 9], [13, 1, -1, -31])], [], [(9, 10, -4294967296, -1)])
theorem oo_Ho_writeGroup_at_k0_7 {kA : Nat → ClassId} : or_ok kA GG o_Ho_writeGroup_at_k0_7 := by
  intro A ta ws vs hD hth hl hk hds hf
  have hl : vs.length = 23 := hl
  have hk : ∀ q ∈ ([(0, (2, 0, 0, [12])), (4, (0, 0, 71426432, [])), (5, (2, 0, 0, [12])), (9, (0, 0, 23, [])), (10, (0, 1, 24, [])), (14, (0, 0, 99999995, [])), (18, (0, 0, 99999992, []))] : List (Nat × tv_T)), tv_ok ta q.2 (n_v vs q.1) := hk
  obtain ⟨t0, hk⟩ := List.forall_mem_cons.mp hk
  have t0 : tv_ok ta (2, 0, 0, [12]) (n_v vs 0) := t0
  have r0 : ta (v_ad (n_v vs 0)) = some 12 := tv_rg t0
  obtain ⟨t4, hk⟩ := List.forall_mem_cons.mp hk
  have t4 : tv_ok ta (0, 0, 71426432, []) (n_v vs 4) := t4
  have k4 : 0 ≤ v_iv (n_v vs 4) ∧ v_iv (n_v vs 4) ≤ 71426432 := tv_rng t4
  obtain ⟨t5, hk⟩ := List.forall_mem_cons.mp hk
  have t5 : tv_ok ta (2, 0, 0, [12]) (n_v vs 5) := t5
  have r5 : ta (v_ad (n_v vs 5)) = some 12 := tv_rg t5
  obtain ⟨t9, hk⟩ := List.forall_mem_cons.mp hk
  have t9 : tv_ok ta (0, 0, 23, []) (n_v vs 9) := t9
  have k9 : 0 ≤ v_iv (n_v vs 9) ∧ v_iv (n_v vs 9) ≤ 23 := tv_rng t9
  obtain ⟨t10, hk⟩ := List.forall_mem_cons.mp hk
  have t10 : tv_ok ta (0, 1, 24, []) (n_v vs 10) := t10
  have k10 : 1 ≤ v_iv (n_v vs 10) ∧ v_iv (n_v vs 10) ≤ 24 := tv_rng t10
  obtain ⟨t14, hk⟩ := List.forall_mem_cons.mp hk
  have t14 : tv_ok ta (0, 0, 99999995, []) (n_v vs 14) := t14
  have k14 : 0 ≤ v_iv (n_v vs 14) ∧ v_iv (n_v vs 14) ≤ 99999995 := tv_rng t14
  obtain ⟨t18, hk⟩ := List.forall_mem_cons.mp hk
  have t18 : tv_ok ta (0, 0, 99999992, []) (n_v vs 18) := t18
  have k18 : 0 ≤ v_iv (n_v vs 18) ∧ v_iv (n_v vs 18) ≤ 99999992 := tv_rng t18
  have hds : ∀ q ∈ ([(9, 10, -4294967296, -1)] : List of_T), n_iv vs q.2.1 + q.2.2.1 ≤ n_iv vs q.1 ∧ n_iv vs q.1 ≤ n_iv vs q.2.1 + q.2.2.2 := hds
  obtain ⟨d0, hds⟩ := List.forall_mem_cons.mp hds
  have d0 : v_iv (n_v vs 10) + (-4294967296) ≤ v_iv (n_v vs 9) ∧ v_iv (n_v vs 9) ≤ v_iv (n_v vs 10) + (-1) := d0
  have hf : fc_ok [(23, [18, 4, 9], [5, 1, -1, -31]), (23, [14, 4, 9], [0, 1, -1, -31]), (24, [0, 5], []), (20, [5, 18], [30, 8, 1, 1, 12, -1, 0, 0]), (102, [18], [261336857795280739939871698507597986398208, 12012]), (23, [18, 4, 9], [5, 1, -1, -31]), (23, [14, 4, 9], [0, 1, -1, -31]), (102, [14], [261336857795280739939871698507597986398208, 12012]), (23, [14, 4, 9], [0, 1, -1, -31]), (7, [9, 10], [2])] ta ws vs := hf
  obtain ⟨f0, hf⟩ := fc_un (show (23 : Nat) < 100 from by decide) hf
  have f0 : 1 * v_iv (n_v vs 18) + ((-1) * v_iv (n_v vs 4) + ((-31) * v_iv (n_v vs 9) + 0)) ≤ 5 := f0
  obtain ⟨f1, hf⟩ := fc_un (show (23 : Nat) < 100 from by decide) hf
  have f1 : 1 * v_iv (n_v vs 14) + ((-1) * v_iv (n_v vs 4) + ((-31) * v_iv (n_v vs 9) + 0)) ≤ 0 := f1
  obtain ⟨f2, hf⟩ := fc_un (show (24 : Nat) < 100 from by decide) hf
  have f2 : n_v vs 0 = n_v vs 5 := f2
  obtain ⟨f3, hf⟩ := fc_un (show (20 : Nat) < 100 from by decide) hf
  have f3 : 1 * w_fi ws (n_v vs 5) 12 + ((-1) * v_iv (n_v vs 18) + 0) ≤ 8 := f3
  obtain ⟨ta1, w1, le1, ⟨_, s1⟩, hf⟩ := fc_us (show ¬ (102 : Nat) < 100 from by decide) hf
  obtain ⟨f5, hf⟩ := fc_un (show (23 : Nat) < 100 from by decide) hf
  have f5 : 1 * v_iv (n_v vs 18) + ((-1) * v_iv (n_v vs 4) + ((-31) * v_iv (n_v vs 9) + 0)) ≤ 5 := f5
  obtain ⟨f6, hf⟩ := fc_un (show (23 : Nat) < 100 from by decide) hf
  have f6 : 1 * v_iv (n_v vs 14) + ((-1) * v_iv (n_v vs 4) + ((-31) * v_iv (n_v vs 9) + 0)) ≤ 0 := f6
  obtain ⟨ta2, w2, le2, ⟨_, s2⟩, hf⟩ := fc_us (show ¬ (102 : Nat) < 100 from by decide) hf
  obtain ⟨f8, hf⟩ := fc_un (show (23 : Nat) < 100 from by decide) hf
  have f8 : 1 * v_iv (n_v vs 14) + ((-1) * v_iv (n_v vs 4) + ((-31) * v_iv (n_v vs 9) + 0)) ≤ 0 := f8
  obtain ⟨f9, hf⟩ := fc_un (show (7 : Nat) < 100 from by decide) hf
  have f9 : v_iv (n_v vs 9) < v_iv (n_v vs 10) := f9
  have q5 : n_v vs 5 = n_v vs 0 := f2.symm
  rw [q5] at f3
  have kz_0_12 : 0 ≤ w_fi ws (n_v vs 0) 12 ∧ w_fi ws (n_v vs 0) 12 ≤ 100000000 := tv_rng (th_fd hD hth r0 (g := GG_12) rfl (k := 12) (t := (0, 0, 100000000, [])) rfl rfl)
  have kv0 : 0 ≤ w_fi ws (n_v vs 0) 12 ∧ w_fi ws (n_v vs 0) 12 ≤ 100000000 := tv_rng (th_fd hD hth r0 (g := GG_12) rfl (k := 12) (t := (0, 0, 100000000, [])) rfl rfl)
  obtain ⟨x, ex, hx⟩ := iv_ex (ta := ta) (lo := 0) (hi := 99999993) (z := w_fi ws (n_v vs 0) 12) (by omega) (by omega) (by omega) (by omega)
  have ex2 : v_iv (Value.int x) = w_fi ws (n_v vs 0) 12 := ex
  have ex3 : 0 ≤ v_iv (Value.int x) ∧ v_iv (Value.int x) ≤ 99999993 := tv_rng hx
  have e_4 : n_v (vs ++ [Value.int x]) 4 = n_v vs 4 := n_v_old (by rw [hl]; decide)
  have e_5 : n_v (vs ++ [Value.int x]) 5 = n_v vs 5 := n_v_old (by rw [hl]; decide)
  have e_9 : n_v (vs ++ [Value.int x]) 9 = n_v vs 9 := n_v_old (by rw [hl]; decide)
  have e_23 : n_v (vs ++ [Value.int x]) 23 = Value.int x := n_v_new hl
  have nf0 : fc_1 (20, [5, 23], [30, 0, 1, 1, 12, -1, 0, 0]) ws (vs ++ [Value.int x]) := by
    refine ⟨fun n hn => ?_, ?_⟩
    · have hn : n ∈ [5, 23] := hn
      rw [List.length_append, hl]
      simp only [List.mem_cons, List.not_mem_nil, or_false] at hn
      show n < 23 + 1; omega
    · show 1 * w_fi ws (n_v (vs ++ [Value.int x]) 5) 12 + ((-1) * v_iv (n_v (vs ++ [Value.int x]) 23) + 0) ≤ 0
      rw [e_5]
      rw [e_23]
      rw [q5]
      omega
  have nf1 : fc_1 (23, [23, 4, 9], [13, 1, -1, -31]) ws (vs ++ [Value.int x]) := by
    refine ⟨fun n hn => ?_, ?_⟩
    · have hn : n ∈ [23, 4, 9] := hn
      rw [List.length_append, hl]
      simp only [List.mem_cons, List.not_mem_nil, or_false] at hn
      show n < 23 + 1; omega
    · show 1 * v_iv (n_v (vs ++ [Value.int x]) 23) + ((-1) * v_iv (n_v (vs ++ [Value.int x]) 4) + ((-31) * v_iv (n_v (vs ++ [Value.int x]) 9) + 0)) ≤ 13
      rw [e_4]
      rw [e_9]
      rw [e_23]
      omega
  exact ⟨(fun _ h => (by cases h)), [Value.int x], ag_one hx, List.forall_mem_cons.mpr ⟨⟨show (20 : Nat) < 100 from by decide, nf0⟩, List.forall_mem_cons.mpr ⟨⟨show (23 : Nat) < 100 from by decide, nf1⟩, (fun _ h => (by cases h))⟩⟩, (fun _ h => (by cases h))⟩
def o_Ho_writeGroup_at_k0_8 : or_T := (73, 25, [(0, (2, 0, 0, [12])), (4, (0, 0, 71426432, [])), (5, (2, 0, 0, [12])), (9, (0, 0, 23, [])), (10, (0, 1, 24, [])), (14, (0, 0, 99999995, [])), (18, (0, 0, 99999992, [])), (23, (0, 0, 99999993, []))], [(23, [23, 4, 9], [13, 1, -1, -31]), (23, [18, 4, 9], [5, 1, -1, -31]), (23, [14, 4, 9], [0, 1, -1, -31]), (24, [0, 5], []), (20, [5, 23], [30, 7, 1, 1, 12, -1, 0, 0]), (102, [23], [261336857795280739939871698507597986398208, 12012]), (23, [23, 4, 9], [13, 1, -1, -31]), (23, [18, 4, 9], [5, 1, -1, -31]), (23, [14, 4, 9], [0, 1, -1, -31]), (102, [18], [261336857795280739939871698507597986398208, 12012]), (23, [18, 4, 9], [5, 1, -1, -31]), (23, [14, 4, 9], [0, 1, -1, -31]), (102, [14], [261336857795280739939871698507597986398208, 12012]), (23, [14, 4, 9], [0, 1, -1, -31]), (7, [9, 10], [2])], [], [(0, 0, 99999992, [])], [(20, [5, 25], [30, 0, 1, 1, 12, -1, 0, 0]), (23, [25, 4, 9], [20, 1, -1, -31])], [], [(9, 10, -4294967296, -1)])
theorem oo_Ho_writeGroup_at_k0_8 {kA : Nat → ClassId} : or_ok kA GG o_Ho_writeGroup_at_k0_8 := by
  intro A ta ws vs hD hth hl hk hds hf
  have hl : vs.length = 25 := hl
  have hk : ∀ q ∈ ([(0, (2, 0, 0, [12])), (4, (0, 0, 71426432, [])), (5, (2, 0, 0, [12])), (9, (0, 0, 23, [])), (10, (0, 1, 24, [])), (14, (0, 0, 99999995, [])), (18, (0, 0, 99999992, [])), (23, (0, 0, 99999993, []))] : List (Nat × tv_T)), tv_ok ta q.2 (n_v vs q.1) := hk
  obtain ⟨t0, hk⟩ := List.forall_mem_cons.mp hk
  have t0 : tv_ok ta (2, 0, 0, [12]) (n_v vs 0) := t0
  have r0 : ta (v_ad (n_v vs 0)) = some 12 := tv_rg t0
  obtain ⟨t4, hk⟩ := List.forall_mem_cons.mp hk
  have t4 : tv_ok ta (0, 0, 71426432, []) (n_v vs 4) := t4
  have k4 : 0 ≤ v_iv (n_v vs 4) ∧ v_iv (n_v vs 4) ≤ 71426432 := tv_rng t4
  obtain ⟨t5, hk⟩ := List.forall_mem_cons.mp hk
  have t5 : tv_ok ta (2, 0, 0, [12]) (n_v vs 5) := t5
  have r5 : ta (v_ad (n_v vs 5)) = some 12 := tv_rg t5
  obtain ⟨t9, hk⟩ := List.forall_mem_cons.mp hk
  have t9 : tv_ok ta (0, 0, 23, []) (n_v vs 9) := t9
  have k9 : 0 ≤ v_iv (n_v vs 9) ∧ v_iv (n_v vs 9) ≤ 23 := tv_rng t9
  obtain ⟨t10, hk⟩ := List.forall_mem_cons.mp hk
  have t10 : tv_ok ta (0, 1, 24, []) (n_v vs 10) := t10
  have k10 : 1 ≤ v_iv (n_v vs 10) ∧ v_iv (n_v vs 10) ≤ 24 := tv_rng t10
  obtain ⟨t14, hk⟩ := List.forall_mem_cons.mp hk
  have t14 : tv_ok ta (0, 0, 99999995, []) (n_v vs 14) := t14
  have k14 : 0 ≤ v_iv (n_v vs 14) ∧ v_iv (n_v vs 14) ≤ 99999995 := tv_rng t14
  obtain ⟨t18, hk⟩ := List.forall_mem_cons.mp hk
  have t18 : tv_ok ta (0, 0, 99999992, []) (n_v vs 18) := t18
  have k18 : 0 ≤ v_iv (n_v vs 18) ∧ v_iv (n_v vs 18) ≤ 99999992 := tv_rng t18
  obtain ⟨t23, hk⟩ := List.forall_mem_cons.mp hk
  have t23 : tv_ok ta (0, 0, 99999993, []) (n_v vs 23) := t23
  have k23 : 0 ≤ v_iv (n_v vs 23) ∧ v_iv (n_v vs 23) ≤ 99999993 := tv_rng t23
  have hds : ∀ q ∈ ([(9, 10, -4294967296, -1)] : List of_T), n_iv vs q.2.1 + q.2.2.1 ≤ n_iv vs q.1 ∧ n_iv vs q.1 ≤ n_iv vs q.2.1 + q.2.2.2 := hds
  obtain ⟨d0, hds⟩ := List.forall_mem_cons.mp hds
  have d0 : v_iv (n_v vs 10) + (-4294967296) ≤ v_iv (n_v vs 9) ∧ v_iv (n_v vs 9) ≤ v_iv (n_v vs 10) + (-1) := d0
  have hf : fc_ok [(23, [23, 4, 9], [13, 1, -1, -31]), (23, [18, 4, 9], [5, 1, -1, -31]), (23, [14, 4, 9], [0, 1, -1, -31]), (24, [0, 5], []), (20, [5, 23], [30, 7, 1, 1, 12, -1, 0, 0]), (102, [23], [261336857795280739939871698507597986398208, 12012]), (23, [23, 4, 9], [13, 1, -1, -31]), (23, [18, 4, 9], [5, 1, -1, -31]), (23, [14, 4, 9], [0, 1, -1, -31]), (102, [18], [261336857795280739939871698507597986398208, 12012]), (23, [18, 4, 9], [5, 1, -1, -31]), (23, [14, 4, 9], [0, 1, -1, -31]), (102, [14], [261336857795280739939871698507597986398208, 12012]), (23, [14, 4, 9], [0, 1, -1, -31]), (7, [9, 10], [2])] ta ws vs := hf
  obtain ⟨f0, hf⟩ := fc_un (show (23 : Nat) < 100 from by decide) hf
  have f0 : 1 * v_iv (n_v vs 23) + ((-1) * v_iv (n_v vs 4) + ((-31) * v_iv (n_v vs 9) + 0)) ≤ 13 := f0
  obtain ⟨f1, hf⟩ := fc_un (show (23 : Nat) < 100 from by decide) hf
  have f1 : 1 * v_iv (n_v vs 18) + ((-1) * v_iv (n_v vs 4) + ((-31) * v_iv (n_v vs 9) + 0)) ≤ 5 := f1
  obtain ⟨f2, hf⟩ := fc_un (show (23 : Nat) < 100 from by decide) hf
  have f2 : 1 * v_iv (n_v vs 14) + ((-1) * v_iv (n_v vs 4) + ((-31) * v_iv (n_v vs 9) + 0)) ≤ 0 := f2
  obtain ⟨f3, hf⟩ := fc_un (show (24 : Nat) < 100 from by decide) hf
  have f3 : n_v vs 0 = n_v vs 5 := f3
  obtain ⟨f4, hf⟩ := fc_un (show (20 : Nat) < 100 from by decide) hf
  have f4 : 1 * w_fi ws (n_v vs 5) 12 + ((-1) * v_iv (n_v vs 23) + 0) ≤ 7 := f4
  obtain ⟨ta1, w1, le1, ⟨_, s1⟩, hf⟩ := fc_us (show ¬ (102 : Nat) < 100 from by decide) hf
  obtain ⟨f6, hf⟩ := fc_un (show (23 : Nat) < 100 from by decide) hf
  have f6 : 1 * v_iv (n_v vs 23) + ((-1) * v_iv (n_v vs 4) + ((-31) * v_iv (n_v vs 9) + 0)) ≤ 13 := f6
  obtain ⟨f7, hf⟩ := fc_un (show (23 : Nat) < 100 from by decide) hf
  have f7 : 1 * v_iv (n_v vs 18) + ((-1) * v_iv (n_v vs 4) + ((-31) * v_iv (n_v vs 9) + 0)) ≤ 5 := f7
  obtain ⟨f8, hf⟩ := fc_un (show (23 : Nat) < 100 from by decide) hf
  have f8 : 1 * v_iv (n_v vs 14) + ((-1) * v_iv (n_v vs 4) + ((-31) * v_iv (n_v vs 9) + 0)) ≤ 0 := f8
  obtain ⟨ta2, w2, le2, ⟨_, s2⟩, hf⟩ := fc_us (show ¬ (102 : Nat) < 100 from by decide) hf
  obtain ⟨f10, hf⟩ := fc_un (show (23 : Nat) < 100 from by decide) hf
  have f10 : 1 * v_iv (n_v vs 18) + ((-1) * v_iv (n_v vs 4) + ((-31) * v_iv (n_v vs 9) + 0)) ≤ 5 := f10
  obtain ⟨f11, hf⟩ := fc_un (show (23 : Nat) < 100 from by decide) hf
  have f11 : 1 * v_iv (n_v vs 14) + ((-1) * v_iv (n_v vs 4) + ((-31) * v_iv (n_v vs 9) + 0)) ≤ 0 := f11
  obtain ⟨ta3, w3, le3, ⟨_, s3⟩, hf⟩ := fc_us (show ¬ (102 : Nat) < 100 from by decide) hf
  obtain ⟨f13, hf⟩ := fc_un (show (23 : Nat) < 100 from by decide) hf
  have f13 : 1 * v_iv (n_v vs 14) + ((-1) * v_iv (n_v vs 4) + ((-31) * v_iv (n_v vs 9) + 0)) ≤ 0 := f13
  obtain ⟨f14, hf⟩ := fc_un (show (7 : Nat) < 100 from by decide) hf
  have f14 : v_iv (n_v vs 9) < v_iv (n_v vs 10) := f14
  have q5 : n_v vs 5 = n_v vs 0 := f3.symm
  rw [q5] at f4
  have kz_0_12 : 0 ≤ w_fi ws (n_v vs 0) 12 ∧ w_fi ws (n_v vs 0) 12 ≤ 100000000 := tv_rng (th_fd hD hth r0 (g := GG_12) rfl (k := 12) (t := (0, 0, 100000000, [])) rfl rfl)
  have kv0 : 0 ≤ w_fi ws (n_v vs 0) 12 ∧ w_fi ws (n_v vs 0) 12 ≤ 100000000 := tv_rng (th_fd hD hth r0 (g := GG_12) rfl (k := 12) (t := (0, 0, 100000000, [])) rfl rfl)
  obtain ⟨x, ex, hx⟩ := iv_ex (ta := ta) (lo := 0) (hi := 99999992) (z := w_fi ws (n_v vs 0) 12) (by omega) (by omega) (by omega) (by omega)
  have ex2 : v_iv (Value.int x) = w_fi ws (n_v vs 0) 12 := ex
  have ex3 : 0 ≤ v_iv (Value.int x) ∧ v_iv (Value.int x) ≤ 99999992 := tv_rng hx
  have e_4 : n_v (vs ++ [Value.int x]) 4 = n_v vs 4 := n_v_old (by rw [hl]; decide)
  have e_5 : n_v (vs ++ [Value.int x]) 5 = n_v vs 5 := n_v_old (by rw [hl]; decide)
  have e_9 : n_v (vs ++ [Value.int x]) 9 = n_v vs 9 := n_v_old (by rw [hl]; decide)
  have e_25 : n_v (vs ++ [Value.int x]) 25 = Value.int x := n_v_new hl
  have nf0 : fc_1 (20, [5, 25], [30, 0, 1, 1, 12, -1, 0, 0]) ws (vs ++ [Value.int x]) := by
    refine ⟨fun n hn => ?_, ?_⟩
    · have hn : n ∈ [5, 25] := hn
      rw [List.length_append, hl]
      simp only [List.mem_cons, List.not_mem_nil, or_false] at hn
      show n < 25 + 1; omega
    · show 1 * w_fi ws (n_v (vs ++ [Value.int x]) 5) 12 + ((-1) * v_iv (n_v (vs ++ [Value.int x]) 25) + 0) ≤ 0
      rw [e_5]
      rw [e_25]
      rw [q5]
      omega
  have nf1 : fc_1 (23, [25, 4, 9], [20, 1, -1, -31]) ws (vs ++ [Value.int x]) := by
    refine ⟨fun n hn => ?_, ?_⟩
    · have hn : n ∈ [25, 4, 9] := hn
      rw [List.length_append, hl]
      simp only [List.mem_cons, List.not_mem_nil, or_false] at hn
      show n < 25 + 1; omega
    · show 1 * v_iv (n_v (vs ++ [Value.int x]) 25) + ((-1) * v_iv (n_v (vs ++ [Value.int x]) 4) + ((-31) * v_iv (n_v (vs ++ [Value.int x]) 9) + 0)) ≤ 20
      rw [e_4]
      rw [e_9]
      rw [e_25]
      omega
  exact ⟨(fun _ h => (by cases h)), [Value.int x], ag_one hx, List.forall_mem_cons.mpr ⟨⟨show (20 : Nat) < 100 from by decide, nf0⟩, List.forall_mem_cons.mpr ⟨⟨show (23 : Nat) < 100 from by decide, nf1⟩, (fun _ h => (by cases h))⟩⟩, (fun _ h => (by cases h))⟩
def o_Ho_writeGroup_at_k0_9 : or_T := (79, 27, [(0, (2, 0, 0, [12])), (4, (0, 0, 71426432, [])), (5, (2, 0, 0, [12])), (9, (0, 0, 23, [])), (10, (0, 1, 24, [])), (14, (0, 0, 99999995, [])), (18, (0, 0, 99999992, [])), (23, (0, 0, 99999993, [])), (25, (0, 0, 99999992, []))], [(23, [25, 4, 9], [20, 1, -1, -31]), (23, [23, 4, 9], [13, 1, -1, -31]), (23, [18, 4, 9], [5, 1, -1, -31]), (23, [14, 4, 9], [0, 1, -1, -31]), (24, [0, 5], []), (20, [5, 25], [30, 8, 1, 1, 12, -1, 0, 0]), (102, [25], [261336857795280739939871698507597986398208, 12012]), (23, [25, 4, 9], [20, 1, -1, -31]), (23, [23, 4, 9], [13, 1, -1, -31]), (23, [18, 4, 9], [5, 1, -1, -31]), (23, [14, 4, 9], [0, 1, -1, -31]), (102, [23], [261336857795280739939871698507597986398208, 12012]), (23, [23, 4, 9], [13, 1, -1, -31]), (23, [18, 4, 9], [5, 1, -1, -31]), (23, [14, 4, 9], [0, 1, -1, -31]), (102, [18], [261336857795280739939871698507597986398208, 12012]), (23, [18, 4, 9], [5, 1, -1, -31]), (23, [14, 4, 9], [0, 1, -1, -31]), (102, [14], [261336857795280739939871698507597986398208, 12012]), (23, [14, 4, 9], [0, 1, -1, -31]), (7, [9, 10], [2])], [], [(0, 0, 99999999, [])], [(20, [5, 27], [30, 0, 1, 1, 12, -1, 0, 0]), (23, [27, 4, 9], [28, 1, -1, -31])], [], [(9, 10, -4294967296, -1)])
theorem oo_Ho_writeGroup_at_k0_9 {kA : Nat → ClassId} : or_ok kA GG o_Ho_writeGroup_at_k0_9 := by
  intro A ta ws vs hD hth hl hk hds hf
  have hl : vs.length = 27 := hl
  have hk : ∀ q ∈ ([(0, (2, 0, 0, [12])), (4, (0, 0, 71426432, [])), (5, (2, 0, 0, [12])), (9, (0, 0, 23, [])), (10, (0, 1, 24, [])), (14, (0, 0, 99999995, [])), (18, (0, 0, 99999992, [])), (23, (0, 0, 99999993, [])), (25, (0, 0, 99999992, []))] : List (Nat × tv_T)), tv_ok ta q.2 (n_v vs q.1) := hk
  obtain ⟨t0, hk⟩ := List.forall_mem_cons.mp hk
  have t0 : tv_ok ta (2, 0, 0, [12]) (n_v vs 0) := t0
  have r0 : ta (v_ad (n_v vs 0)) = some 12 := tv_rg t0
  obtain ⟨t4, hk⟩ := List.forall_mem_cons.mp hk
  have t4 : tv_ok ta (0, 0, 71426432, []) (n_v vs 4) := t4
  have k4 : 0 ≤ v_iv (n_v vs 4) ∧ v_iv (n_v vs 4) ≤ 71426432 := tv_rng t4
  obtain ⟨t5, hk⟩ := List.forall_mem_cons.mp hk
  have t5 : tv_ok ta (2, 0, 0, [12]) (n_v vs 5) := t5
  have r5 : ta (v_ad (n_v vs 5)) = some 12 := tv_rg t5
  obtain ⟨t9, hk⟩ := List.forall_mem_cons.mp hk
  have t9 : tv_ok ta (0, 0, 23, []) (n_v vs 9) := t9
  have k9 : 0 ≤ v_iv (n_v vs 9) ∧ v_iv (n_v vs 9) ≤ 23 := tv_rng t9
  obtain ⟨t10, hk⟩ := List.forall_mem_cons.mp hk
  have t10 : tv_ok ta (0, 1, 24, []) (n_v vs 10) := t10
  have k10 : 1 ≤ v_iv (n_v vs 10) ∧ v_iv (n_v vs 10) ≤ 24 := tv_rng t10
  obtain ⟨t14, hk⟩ := List.forall_mem_cons.mp hk
  have t14 : tv_ok ta (0, 0, 99999995, []) (n_v vs 14) := t14
  have k14 : 0 ≤ v_iv (n_v vs 14) ∧ v_iv (n_v vs 14) ≤ 99999995 := tv_rng t14
  obtain ⟨t18, hk⟩ := List.forall_mem_cons.mp hk
  have t18 : tv_ok ta (0, 0, 99999992, []) (n_v vs 18) := t18
  have k18 : 0 ≤ v_iv (n_v vs 18) ∧ v_iv (n_v vs 18) ≤ 99999992 := tv_rng t18
  obtain ⟨t23, hk⟩ := List.forall_mem_cons.mp hk
  have t23 : tv_ok ta (0, 0, 99999993, []) (n_v vs 23) := t23
  have k23 : 0 ≤ v_iv (n_v vs 23) ∧ v_iv (n_v vs 23) ≤ 99999993 := tv_rng t23
  obtain ⟨t25, hk⟩ := List.forall_mem_cons.mp hk
  have t25 : tv_ok ta (0, 0, 99999992, []) (n_v vs 25) := t25
  have k25 : 0 ≤ v_iv (n_v vs 25) ∧ v_iv (n_v vs 25) ≤ 99999992 := tv_rng t25
  have hds : ∀ q ∈ ([(9, 10, -4294967296, -1)] : List of_T), n_iv vs q.2.1 + q.2.2.1 ≤ n_iv vs q.1 ∧ n_iv vs q.1 ≤ n_iv vs q.2.1 + q.2.2.2 := hds
  obtain ⟨d0, hds⟩ := List.forall_mem_cons.mp hds
  have d0 : v_iv (n_v vs 10) + (-4294967296) ≤ v_iv (n_v vs 9) ∧ v_iv (n_v vs 9) ≤ v_iv (n_v vs 10) + (-1) := d0
  have hf : fc_ok [(23, [25, 4, 9], [20, 1, -1, -31]), (23, [23, 4, 9], [13, 1, -1, -31]), (23, [18, 4, 9], [5, 1, -1, -31]), (23, [14, 4, 9], [0, 1, -1, -31]), (24, [0, 5], []), (20, [5, 25], [30, 8, 1, 1, 12, -1, 0, 0]), (102, [25], [261336857795280739939871698507597986398208, 12012]), (23, [25, 4, 9], [20, 1, -1, -31]), (23, [23, 4, 9], [13, 1, -1, -31]), (23, [18, 4, 9], [5, 1, -1, -31]), (23, [14, 4, 9], [0, 1, -1, -31]), (102, [23], [261336857795280739939871698507597986398208, 12012]), (23, [23, 4, 9], [13, 1, -1, -31]), (23, [18, 4, 9], [5, 1, -1, -31]), (23, [14, 4, 9], [0, 1, -1, -31]), (102, [18], [261336857795280739939871698507597986398208, 12012]), (23, [18, 4, 9], [5, 1, -1, -31]), (23, [14, 4, 9], [0, 1, -1, -31]), (102, [14], [261336857795280739939871698507597986398208, 12012]), (23, [14, 4, 9], [0, 1, -1, -31]), (7, [9, 10], [2])] ta ws vs := hf
  obtain ⟨f0, hf⟩ := fc_un (show (23 : Nat) < 100 from by decide) hf
  have f0 : 1 * v_iv (n_v vs 25) + ((-1) * v_iv (n_v vs 4) + ((-31) * v_iv (n_v vs 9) + 0)) ≤ 20 := f0
  obtain ⟨f1, hf⟩ := fc_un (show (23 : Nat) < 100 from by decide) hf
  have f1 : 1 * v_iv (n_v vs 23) + ((-1) * v_iv (n_v vs 4) + ((-31) * v_iv (n_v vs 9) + 0)) ≤ 13 := f1
  obtain ⟨f2, hf⟩ := fc_un (show (23 : Nat) < 100 from by decide) hf
  have f2 : 1 * v_iv (n_v vs 18) + ((-1) * v_iv (n_v vs 4) + ((-31) * v_iv (n_v vs 9) + 0)) ≤ 5 := f2
  obtain ⟨f3, hf⟩ := fc_un (show (23 : Nat) < 100 from by decide) hf
  have f3 : 1 * v_iv (n_v vs 14) + ((-1) * v_iv (n_v vs 4) + ((-31) * v_iv (n_v vs 9) + 0)) ≤ 0 := f3
  obtain ⟨f4, hf⟩ := fc_un (show (24 : Nat) < 100 from by decide) hf
  have f4 : n_v vs 0 = n_v vs 5 := f4
  obtain ⟨f5, hf⟩ := fc_un (show (20 : Nat) < 100 from by decide) hf
  have f5 : 1 * w_fi ws (n_v vs 5) 12 + ((-1) * v_iv (n_v vs 25) + 0) ≤ 8 := f5
  obtain ⟨ta1, w1, le1, ⟨_, s1⟩, hf⟩ := fc_us (show ¬ (102 : Nat) < 100 from by decide) hf
  obtain ⟨f7, hf⟩ := fc_un (show (23 : Nat) < 100 from by decide) hf
  have f7 : 1 * v_iv (n_v vs 25) + ((-1) * v_iv (n_v vs 4) + ((-31) * v_iv (n_v vs 9) + 0)) ≤ 20 := f7
  obtain ⟨f8, hf⟩ := fc_un (show (23 : Nat) < 100 from by decide) hf
  have f8 : 1 * v_iv (n_v vs 23) + ((-1) * v_iv (n_v vs 4) + ((-31) * v_iv (n_v vs 9) + 0)) ≤ 13 := f8
  obtain ⟨f9, hf⟩ := fc_un (show (23 : Nat) < 100 from by decide) hf
  have f9 : 1 * v_iv (n_v vs 18) + ((-1) * v_iv (n_v vs 4) + ((-31) * v_iv (n_v vs 9) + 0)) ≤ 5 := f9
  obtain ⟨f10, hf⟩ := fc_un (show (23 : Nat) < 100 from by decide) hf
  have f10 : 1 * v_iv (n_v vs 14) + ((-1) * v_iv (n_v vs 4) + ((-31) * v_iv (n_v vs 9) + 0)) ≤ 0 := f10
  obtain ⟨ta2, w2, le2, ⟨_, s2⟩, hf⟩ := fc_us (show ¬ (102 : Nat) < 100 from by decide) hf
  obtain ⟨f12, hf⟩ := fc_un (show (23 : Nat) < 100 from by decide) hf
  have f12 : 1 * v_iv (n_v vs 23) + ((-1) * v_iv (n_v vs 4) + ((-31) * v_iv (n_v vs 9) + 0)) ≤ 13 := f12
  obtain ⟨f13, hf⟩ := fc_un (show (23 : Nat) < 100 from by decide) hf
  have f13 : 1 * v_iv (n_v vs 18) + ((-1) * v_iv (n_v vs 4) + ((-31) * v_iv (n_v vs 9) + 0)) ≤ 5 := f13
  obtain ⟨f14, hf⟩ := fc_un (show (23 : Nat) < 100 from by decide) hf
  have f14 : 1 * v_iv (n_v vs 14) + ((-1) * v_iv (n_v vs 4) + ((-31) * v_iv (n_v vs 9) + 0)) ≤ 0 := f14
  obtain ⟨ta3, w3, le3, ⟨_, s3⟩, hf⟩ := fc_us (show ¬ (102 : Nat) < 100 from by decide) hf
  obtain ⟨f16, hf⟩ := fc_un (show (23 : Nat) < 100 from by decide) hf
  have f16 : 1 * v_iv (n_v vs 18) + ((-1) * v_iv (n_v vs 4) + ((-31) * v_iv (n_v vs 9) + 0)) ≤ 5 := f16
  obtain ⟨f17, hf⟩ := fc_un (show (23 : Nat) < 100 from by decide) hf
  have f17 : 1 * v_iv (n_v vs 14) + ((-1) * v_iv (n_v vs 4) + ((-31) * v_iv (n_v vs 9) + 0)) ≤ 0 := f17
  obtain ⟨ta4, w4, le4, ⟨_, s4⟩, hf⟩ := fc_us (show ¬ (102 : Nat) < 100 from by decide) hf
  obtain ⟨f19, hf⟩ := fc_un (show (23 : Nat) < 100 from by decide) hf
  have f19 : 1 * v_iv (n_v vs 14) + ((-1) * v_iv (n_v vs 4) + ((-31) * v_iv (n_v vs 9) + 0)) ≤ 0 := f19
  obtain ⟨f20, hf⟩ := fc_un (show (7 : Nat) < 100 from by decide) hf
  have f20 : v_iv (n_v vs 9) < v_iv (n_v vs 10) := f20
  have q5 : n_v vs 5 = n_v vs 0 := f4.symm
  rw [q5] at f5
  have kz_0_12 : 0 ≤ w_fi ws (n_v vs 0) 12 ∧ w_fi ws (n_v vs 0) 12 ≤ 100000000 := tv_rng (th_fd hD hth r0 (g := GG_12) rfl (k := 12) (t := (0, 0, 100000000, [])) rfl rfl)
  have kv0 : 0 ≤ w_fi ws (n_v vs 0) 12 ∧ w_fi ws (n_v vs 0) 12 ≤ 100000000 := tv_rng (th_fd hD hth r0 (g := GG_12) rfl (k := 12) (t := (0, 0, 100000000, [])) rfl rfl)
  obtain ⟨x, ex, hx⟩ := iv_ex (ta := ta) (lo := 0) (hi := 99999999) (z := w_fi ws (n_v vs 0) 12) (by omega) (by omega) (by omega) (by omega)
  have ex2 : v_iv (Value.int x) = w_fi ws (n_v vs 0) 12 := ex
  have ex3 : 0 ≤ v_iv (Value.int x) ∧ v_iv (Value.int x) ≤ 99999999 := tv_rng hx
  have e_4 : n_v (vs ++ [Value.int x]) 4 = n_v vs 4 := n_v_old (by rw [hl]; decide)
  have e_5 : n_v (vs ++ [Value.int x]) 5 = n_v vs 5 := n_v_old (by rw [hl]; decide)
  have e_9 : n_v (vs ++ [Value.int x]) 9 = n_v vs 9 := n_v_old (by rw [hl]; decide)
  have e_27 : n_v (vs ++ [Value.int x]) 27 = Value.int x := n_v_new hl
  have nf0 : fc_1 (20, [5, 27], [30, 0, 1, 1, 12, -1, 0, 0]) ws (vs ++ [Value.int x]) := by
    refine ⟨fun n hn => ?_, ?_⟩
    · have hn : n ∈ [5, 27] := hn
      rw [List.length_append, hl]
      simp only [List.mem_cons, List.not_mem_nil, or_false] at hn
      show n < 27 + 1; omega
    · show 1 * w_fi ws (n_v (vs ++ [Value.int x]) 5) 12 + ((-1) * v_iv (n_v (vs ++ [Value.int x]) 27) + 0) ≤ 0
      rw [e_5]
      rw [e_27]
      rw [q5]
      omega
  have nf1 : fc_1 (23, [27, 4, 9], [28, 1, -1, -31]) ws (vs ++ [Value.int x]) := by
    refine ⟨fun n hn => ?_, ?_⟩
    · have hn : n ∈ [27, 4, 9] := hn
      rw [List.length_append, hl]
      simp only [List.mem_cons, List.not_mem_nil, or_false] at hn
      show n < 27 + 1; omega
    · show 1 * v_iv (n_v (vs ++ [Value.int x]) 27) + ((-1) * v_iv (n_v (vs ++ [Value.int x]) 4) + ((-31) * v_iv (n_v (vs ++ [Value.int x]) 9) + 0)) ≤ 28
      rw [e_4]
      rw [e_9]
      rw [e_27]
      omega
  exact ⟨(fun _ h => (by cases h)), [Value.int x], ag_one hx, List.forall_mem_cons.mpr ⟨⟨show (20 : Nat) < 100 from by decide, nf0⟩, List.forall_mem_cons.mpr ⟨⟨show (23 : Nat) < 100 from by decide, nf1⟩, (fun _ h => (by cases h))⟩⟩, (fun _ h => (by cases h))⟩
def o_Ho_writeGroup_at_k0_10 : or_T := (86, 29, [(0, (2, 0, 0, [12])), (4, (0, 0, 71426432, [])), (5, (2, 0, 0, [12])), (9, (0, 0, 23, [])), (10, (0, 1, 24, [])), (14, (0, 0, 99999995, [])), (18, (0, 0, 99999992, [])), (23, (0, 0, 99999993, [])), (25, (0, 0, 99999992, [])), (27, (0, 0, 99999999, []))], [(23, [27, 4, 9], [28, 1, -1, -31]), (23, [25, 4, 9], [20, 1, -1, -31]), (23, [23, 4, 9], [13, 1, -1, -31]), (23, [18, 4, 9], [5, 1, -1, -31]), (23, [14, 4, 9], [0, 1, -1, -31]), (24, [0, 5], []), (20, [5, 27], [30, 1, 1, 1, 12, -1, 0, 0]), (102, [27], [261336857795280739939871698507597986398208, 12012]), (23, [27, 4, 9], [28, 1, -1, -31]), (23, [25, 4, 9], [20, 1, -1, -31]), (23, [23, 4, 9], [13, 1, -1, -31]), (23, [18, 4, 9], [5, 1, -1, -31]), (23, [14, 4, 9], [0, 1, -1, -31]), (102, [25], [261336857795280739939871698507597986398208, 12012]), (23, [25, 4, 9], [20, 1, -1, -31]), (23, [23, 4, 9], [13, 1, -1, -31]), (23, [18, 4, 9], [5, 1, -1, -31]), (23, [14, 4, 9], [0, 1, -1, -31]), (102, [23], [261336857795280739939871698507597986398208, 12012]), (23, [23, 4, 9], [13, 1, -1, -31]), (23, [18, 4, 9], [5, 1, -1, -31]), (23, [14, 4, 9], [0, 1, -1, -31]), (102, [18], [261336857795280739939871698507597986398208, 12012]), (23, [18, 4, 9], [5, 1, -1, -31]), (23, [14, 4, 9], [0, 1, -1, -31]), (102, [14], [261336857795280739939871698507597986398208, 12012]), (23, [14, 4, 9], [0, 1, -1, -31]), (7, [9, 10], [2])], [], [(0, 0, 99999998, [])], [(20, [5, 29], [30, 0, 1, 1, 12, -1, 0, 0]), (23, [29, 4, 9], [29, 1, -1, -31])], [], [(9, 10, -4294967296, -1)])
theorem oo_Ho_writeGroup_at_k0_10 {kA : Nat → ClassId} : or_ok kA GG o_Ho_writeGroup_at_k0_10 := by
  intro A ta ws vs hD hth hl hk hds hf
  have hl : vs.length = 29 := hl
  have hk : ∀ q ∈ ([(0, (2, 0, 0, [12])), (4, (0, 0, 71426432, [])), (5, (2, 0, 0, [12])), (9, (0, 0, 23, [])), (10, (0, 1, 24, [])), (14, (0, 0, 99999995, [])), (18, (0, 0, 99999992, [])), (23, (0, 0, 99999993, [])), (25, (0, 0, 99999992, [])), (27, (0, 0, 99999999, []))] : List (Nat × tv_T)), tv_ok ta q.2 (n_v vs q.1) := hk
  obtain ⟨t0, hk⟩ := List.forall_mem_cons.mp hk
  have t0 : tv_ok ta (2, 0, 0, [12]) (n_v vs 0) := t0
  have r0 : ta (v_ad (n_v vs 0)) = some 12 := tv_rg t0
  obtain ⟨t4, hk⟩ := List.forall_mem_cons.mp hk
  have t4 : tv_ok ta (0, 0, 71426432, []) (n_v vs 4) := t4
  have k4 : 0 ≤ v_iv (n_v vs 4) ∧ v_iv (n_v vs 4) ≤ 71426432 := tv_rng t4
  obtain ⟨t5, hk⟩ := List.forall_mem_cons.mp hk
  have t5 : tv_ok ta (2, 0, 0, [12]) (n_v vs 5) := t5
  have r5 : ta (v_ad (n_v vs 5)) = some 12 := tv_rg t5
  obtain ⟨t9, hk⟩ := List.forall_mem_cons.mp hk
  have t9 : tv_ok ta (0, 0, 23, []) (n_v vs 9) := t9
  have k9 : 0 ≤ v_iv (n_v vs 9) ∧ v_iv (n_v vs 9) ≤ 23 := tv_rng t9
  obtain ⟨t10, hk⟩ := List.forall_mem_cons.mp hk
  have t10 : tv_ok ta (0, 1, 24, []) (n_v vs 10) := t10
  have k10 : 1 ≤ v_iv (n_v vs 10) ∧ v_iv (n_v vs 10) ≤ 24 := tv_rng t10
  obtain ⟨t14, hk⟩ := List.forall_mem_cons.mp hk
  have t14 : tv_ok ta (0, 0, 99999995, []) (n_v vs 14) := t14
  have k14 : 0 ≤ v_iv (n_v vs 14) ∧ v_iv (n_v vs 14) ≤ 99999995 := tv_rng t14
  obtain ⟨t18, hk⟩ := List.forall_mem_cons.mp hk
  have t18 : tv_ok ta (0, 0, 99999992, []) (n_v vs 18) := t18
  have k18 : 0 ≤ v_iv (n_v vs 18) ∧ v_iv (n_v vs 18) ≤ 99999992 := tv_rng t18
  obtain ⟨t23, hk⟩ := List.forall_mem_cons.mp hk
  have t23 : tv_ok ta (0, 0, 99999993, []) (n_v vs 23) := t23
  have k23 : 0 ≤ v_iv (n_v vs 23) ∧ v_iv (n_v vs 23) ≤ 99999993 := tv_rng t23
  obtain ⟨t25, hk⟩ := List.forall_mem_cons.mp hk
  have t25 : tv_ok ta (0, 0, 99999992, []) (n_v vs 25) := t25
  have k25 : 0 ≤ v_iv (n_v vs 25) ∧ v_iv (n_v vs 25) ≤ 99999992 := tv_rng t25
  obtain ⟨t27, hk⟩ := List.forall_mem_cons.mp hk
  have t27 : tv_ok ta (0, 0, 99999999, []) (n_v vs 27) := t27
  have k27 : 0 ≤ v_iv (n_v vs 27) ∧ v_iv (n_v vs 27) ≤ 99999999 := tv_rng t27
  have hds : ∀ q ∈ ([(9, 10, -4294967296, -1)] : List of_T), n_iv vs q.2.1 + q.2.2.1 ≤ n_iv vs q.1 ∧ n_iv vs q.1 ≤ n_iv vs q.2.1 + q.2.2.2 := hds
  obtain ⟨d0, hds⟩ := List.forall_mem_cons.mp hds
  have d0 : v_iv (n_v vs 10) + (-4294967296) ≤ v_iv (n_v vs 9) ∧ v_iv (n_v vs 9) ≤ v_iv (n_v vs 10) + (-1) := d0
  have hf : fc_ok [(23, [27, 4, 9], [28, 1, -1, -31]), (23, [25, 4, 9], [20, 1, -1, -31]), (23, [23, 4, 9], [13, 1, -1, -31]), (23, [18, 4, 9], [5, 1, -1, -31]), (23, [14, 4, 9], [0, 1, -1, -31]), (24, [0, 5], []), (20, [5, 27], [30, 1, 1, 1, 12, -1, 0, 0]), (102, [27], [261336857795280739939871698507597986398208, 12012]), (23, [27, 4, 9], [28, 1, -1, -31]), (23, [25, 4, 9], [20, 1, -1, -31]), (23, [23, 4, 9], [13, 1, -1, -31]), (23, [18, 4, 9], [5, 1, -1, -31]), (23, [14, 4, 9], [0, 1, -1, -31]), (102, [25], [261336857795280739939871698507597986398208, 12012]), (23, [25, 4, 9], [20, 1, -1, -31]), (23, [23, 4, 9], [13, 1, -1, -31]), (23, [18, 4, 9], [5, 1, -1, -31]), (23, [14, 4, 9], [0, 1, -1, -31]), (102, [23], [261336857795280739939871698507597986398208, 12012]), (23, [23, 4, 9], [13, 1, -1, -31]), (23, [18, 4, 9], [5, 1, -1, -31]), (23, [14, 4, 9], [0, 1, -1, -31]), (102, [18], [261336857795280739939871698507597986398208, 12012]), (23, [18, 4, 9], [5, 1, -1, -31]), (23, [14, 4, 9], [0, 1, -1, -31]), (102, [14], [261336857795280739939871698507597986398208, 12012]), (23, [14, 4, 9], [0, 1, -1, -31]), (7, [9, 10], [2])] ta ws vs := hf
  obtain ⟨f0, hf⟩ := fc_un (show (23 : Nat) < 100 from by decide) hf
  have f0 : 1 * v_iv (n_v vs 27) + ((-1) * v_iv (n_v vs 4) + ((-31) * v_iv (n_v vs 9) + 0)) ≤ 28 := f0
  obtain ⟨f1, hf⟩ := fc_un (show (23 : Nat) < 100 from by decide) hf
  have f1 : 1 * v_iv (n_v vs 25) + ((-1) * v_iv (n_v vs 4) + ((-31) * v_iv (n_v vs 9) + 0)) ≤ 20 := f1
  obtain ⟨f2, hf⟩ := fc_un (show (23 : Nat) < 100 from by decide) hf
  have f2 : 1 * v_iv (n_v vs 23) + ((-1) * v_iv (n_v vs 4) + ((-31) * v_iv (n_v vs 9) + 0)) ≤ 13 := f2
  obtain ⟨f3, hf⟩ := fc_un (show (23 : Nat) < 100 from by decide) hf
  have f3 : 1 * v_iv (n_v vs 18) + ((-1) * v_iv (n_v vs 4) + ((-31) * v_iv (n_v vs 9) + 0)) ≤ 5 := f3
  obtain ⟨f4, hf⟩ := fc_un (show (23 : Nat) < 100 from by decide) hf
  have f4 : 1 * v_iv (n_v vs 14) + ((-1) * v_iv (n_v vs 4) + ((-31) * v_iv (n_v vs 9) + 0)) ≤ 0 := f4
  obtain ⟨f5, hf⟩ := fc_un (show (24 : Nat) < 100 from by decide) hf
  have f5 : n_v vs 0 = n_v vs 5 := f5
  obtain ⟨f6, hf⟩ := fc_un (show (20 : Nat) < 100 from by decide) hf
  have f6 : 1 * w_fi ws (n_v vs 5) 12 + ((-1) * v_iv (n_v vs 27) + 0) ≤ 1 := f6
  obtain ⟨ta1, w1, le1, ⟨_, s1⟩, hf⟩ := fc_us (show ¬ (102 : Nat) < 100 from by decide) hf
  obtain ⟨f8, hf⟩ := fc_un (show (23 : Nat) < 100 from by decide) hf
  have f8 : 1 * v_iv (n_v vs 27) + ((-1) * v_iv (n_v vs 4) + ((-31) * v_iv (n_v vs 9) + 0)) ≤ 28 := f8
  obtain ⟨f9, hf⟩ := fc_un (show (23 : Nat) < 100 from by decide) hf
  have f9 : 1 * v_iv (n_v vs 25) + ((-1) * v_iv (n_v vs 4) + ((-31) * v_iv (n_v vs 9) + 0)) ≤ 20 := f9
  obtain ⟨f10, hf⟩ := fc_un (show (23 : Nat) < 100 from by decide) hf
  have f10 : 1 * v_iv (n_v vs 23) + ((-1) * v_iv (n_v vs 4) + ((-31) * v_iv (n_v vs 9) + 0)) ≤ 13 := f10
  obtain ⟨f11, hf⟩ := fc_un (show (23 : Nat) < 100 from by decide) hf
  have f11 : 1 * v_iv (n_v vs 18) + ((-1) * v_iv (n_v vs 4) + ((-31) * v_iv (n_v vs 9) + 0)) ≤ 5 := f11
  obtain ⟨f12, hf⟩ := fc_un (show (23 : Nat) < 100 from by decide) hf
  have f12 : 1 * v_iv (n_v vs 14) + ((-1) * v_iv (n_v vs 4) + ((-31) * v_iv (n_v vs 9) + 0)) ≤ 0 := f12
  obtain ⟨ta2, w2, le2, ⟨_, s2⟩, hf⟩ := fc_us (show ¬ (102 : Nat) < 100 from by decide) hf
  obtain ⟨f14, hf⟩ := fc_un (show (23 : Nat) < 100 from by decide) hf
  have f14 : 1 * v_iv (n_v vs 25) + ((-1) * v_iv (n_v vs 4) + ((-31) * v_iv (n_v vs 9) + 0)) ≤ 20 := f14
  obtain ⟨f15, hf⟩ := fc_un (show (23 : Nat) < 100 from by decide) hf
  have f15 : 1 * v_iv (n_v vs 23) + ((-1) * v_iv (n_v vs 4) + ((-31) * v_iv (n_v vs 9) + 0)) ≤ 13 := f15
  obtain ⟨f16, hf⟩ := fc_un (show (23 : Nat) < 100 from by decide) hf
  have f16 : 1 * v_iv (n_v vs 18) + ((-1) * v_iv (n_v vs 4) + ((-31) * v_iv (n_v vs 9) + 0)) ≤ 5 := f16
  obtain ⟨f17, hf⟩ := fc_un (show (23 : Nat) < 100 from by decide) hf
  have f17 : 1 * v_iv (n_v vs 14) + ((-1) * v_iv (n_v vs 4) + ((-31) * v_iv (n_v vs 9) + 0)) ≤ 0 := f17
  obtain ⟨ta3, w3, le3, ⟨_, s3⟩, hf⟩ := fc_us (show ¬ (102 : Nat) < 100 from by decide) hf
  obtain ⟨f19, hf⟩ := fc_un (show (23 : Nat) < 100 from by decide) hf
  have f19 : 1 * v_iv (n_v vs 23) + ((-1) * v_iv (n_v vs 4) + ((-31) * v_iv (n_v vs 9) + 0)) ≤ 13 := f19
  obtain ⟨f20, hf⟩ := fc_un (show (23 : Nat) < 100 from by decide) hf
  have f20 : 1 * v_iv (n_v vs 18) + ((-1) * v_iv (n_v vs 4) + ((-31) * v_iv (n_v vs 9) + 0)) ≤ 5 := f20
  obtain ⟨f21, hf⟩ := fc_un (show (23 : Nat) < 100 from by decide) hf
  have f21 : 1 * v_iv (n_v vs 14) + ((-1) * v_iv (n_v vs 4) + ((-31) * v_iv (n_v vs 9) + 0)) ≤ 0 := f21
  obtain ⟨ta4, w4, le4, ⟨_, s4⟩, hf⟩ := fc_us (show ¬ (102 : Nat) < 100 from by decide) hf
  obtain ⟨f23, hf⟩ := fc_un (show (23 : Nat) < 100 from by decide) hf
  have f23 : 1 * v_iv (n_v vs 18) + ((-1) * v_iv (n_v vs 4) + ((-31) * v_iv (n_v vs 9) + 0)) ≤ 5 := f23
  obtain ⟨f24, hf⟩ := fc_un (show (23 : Nat) < 100 from by decide) hf
  have f24 : 1 * v_iv (n_v vs 14) + ((-1) * v_iv (n_v vs 4) + ((-31) * v_iv (n_v vs 9) + 0)) ≤ 0 := f24
  obtain ⟨ta5, w5, le5, ⟨_, s5⟩, hf⟩ := fc_us (show ¬ (102 : Nat) < 100 from by decide) hf
  obtain ⟨f26, hf⟩ := fc_un (show (23 : Nat) < 100 from by decide) hf
  have f26 : 1 * v_iv (n_v vs 14) + ((-1) * v_iv (n_v vs 4) + ((-31) * v_iv (n_v vs 9) + 0)) ≤ 0 := f26
  obtain ⟨f27, hf⟩ := fc_un (show (7 : Nat) < 100 from by decide) hf
  have f27 : v_iv (n_v vs 9) < v_iv (n_v vs 10) := f27
  have q5 : n_v vs 5 = n_v vs 0 := f5.symm
  rw [q5] at f6
  have kz_0_12 : 0 ≤ w_fi ws (n_v vs 0) 12 ∧ w_fi ws (n_v vs 0) 12 ≤ 100000000 := tv_rng (th_fd hD hth r0 (g := GG_12) rfl (k := 12) (t := (0, 0, 100000000, [])) rfl rfl)
  have kv0 : 0 ≤ w_fi ws (n_v vs 0) 12 ∧ w_fi ws (n_v vs 0) 12 ≤ 100000000 := tv_rng (th_fd hD hth r0 (g := GG_12) rfl (k := 12) (t := (0, 0, 100000000, [])) rfl rfl)
  obtain ⟨x, ex, hx⟩ := iv_ex (ta := ta) (lo := 0) (hi := 99999998) (z := w_fi ws (n_v vs 0) 12) (by omega) (by omega) (by omega) (by omega)
  have ex2 : v_iv (Value.int x) = w_fi ws (n_v vs 0) 12 := ex
  have ex3 : 0 ≤ v_iv (Value.int x) ∧ v_iv (Value.int x) ≤ 99999998 := tv_rng hx
  have e_4 : n_v (vs ++ [Value.int x]) 4 = n_v vs 4 := n_v_old (by rw [hl]; decide)
  have e_5 : n_v (vs ++ [Value.int x]) 5 = n_v vs 5 := n_v_old (by rw [hl]; decide)
  have e_9 : n_v (vs ++ [Value.int x]) 9 = n_v vs 9 := n_v_old (by rw [hl]; decide)
  have e_29 : n_v (vs ++ [Value.int x]) 29 = Value.int x := n_v_new hl
  have nf0 : fc_1 (20, [5, 29], [30, 0, 1, 1, 12, -1, 0, 0]) ws (vs ++ [Value.int x]) := by
    refine ⟨fun n hn => ?_, ?_⟩
    · have hn : n ∈ [5, 29] := hn
      rw [List.length_append, hl]
      simp only [List.mem_cons, List.not_mem_nil, or_false] at hn
      show n < 29 + 1; omega
    · show 1 * w_fi ws (n_v (vs ++ [Value.int x]) 5) 12 + ((-1) * v_iv (n_v (vs ++ [Value.int x]) 29) + 0) ≤ 0
      rw [e_5]
      rw [e_29]
      rw [q5]
      omega
  have nf1 : fc_1 (23, [29, 4, 9], [29, 1, -1, -31]) ws (vs ++ [Value.int x]) := by
    refine ⟨fun n hn => ?_, ?_⟩
    · have hn : n ∈ [29, 4, 9] := hn
      rw [List.length_append, hl]
      simp only [List.mem_cons, List.not_mem_nil, or_false] at hn
      show n < 29 + 1; omega
    · show 1 * v_iv (n_v (vs ++ [Value.int x]) 29) + ((-1) * v_iv (n_v (vs ++ [Value.int x]) 4) + ((-31) * v_iv (n_v (vs ++ [Value.int x]) 9) + 0)) ≤ 29
      rw [e_4]
      rw [e_9]
      rw [e_29]
      omega
  exact ⟨(fun _ h => (by cases h)), [Value.int x], ag_one hx, List.forall_mem_cons.mpr ⟨⟨show (20 : Nat) < 100 from by decide, nf0⟩, List.forall_mem_cons.mpr ⟨⟨show (23 : Nat) < 100 from by decide, nf1⟩, (fun _ h => (by cases h))⟩⟩, (fun _ h => (by cases h))⟩
def o_Ho_writeGroup_at_k0_11 : or_T := (3, 31, [(0, (2, 0, 0, [12])), (4, (0, 0, 71426432, [])), (5, (2, 0, 0, [12])), (9, (0, 0, 23, [])), (10, (0, 1, 24, [])), (14, (0, 0, 99999995, [])), (18, (0, 0, 99999992, [])), (23, (0, 0, 99999993, [])), (25, (0, 0, 99999992, [])), (27, (0, 0, 99999999, [])), (29, (0, 0, 99999998, [])), (30, (0, 1, 24, []))], [(6, [30, 9], [1]), (23, [29, 4, 9], [29, 1, -1, -31]), (23, [27, 4, 9], [28, 1, -1, -31]), (23, [25, 4, 9], [20, 1, -1, -31]), (23, [23, 4, 9], [13, 1, -1, -31]), (23, [18, 4, 9], [5, 1, -1, -31]), (23, [14, 4, 9], [0, 1, -1, -31]), (24, [0, 5], []), (20, [5, 29], [30, 2, 1, 1, 12, -1, 0, 0]), (102, [29], [261336857795280739939871698507597986398208, 12012]), (23, [29, 4, 9], [29, 1, -1, -31]), (23, [27, 4, 9], [28, 1, -1, -31]), (23, [25, 4, 9], [20, 1, -1, -31]), (23, [23, 4, 9], [13, 1, -1, -31]), (23, [18, 4, 9], [5, 1, -1, -31]), (23, [14, 4, 9], [0, 1, -1, -31]), (102, [27], [261336857795280739939871698507597986398208, 12012]), (23, [27, 4, 9], [28, 1, -1, -31]), (23, [25, 4, 9], [20, 1, -1, -31]), (23, [23, 4, 9], [13, 1, -1, -31]), (23, [18, 4, 9], [5, 1, -1, -31]), (23, [14, 4, 9], [0, 1, -1, -31]), (102, [25], [261336857795280739939871698507597986398208, 12012]), (23, [25, 4, 9], [20, 1, -1, -31]), (23, [23, 4, 9], [13, 1, -1, -31]), (23, [18, 4, 9], [5, 1, -1, -31]), (23, [14, 4, 9], [0, 1, -1, -31]), (102, [23], [261336857795280739939871698507597986398208, 12012]), (23, [23, 4, 9], [13, 1, -1, -31]), (23, [18, 4, 9], [5, 1, -1, -31]), (23, [14, 4, 9], [0, 1, -1, -31]), (102, [18], [261336857795280739939871698507597986398208, 12012]), (23, [18, 4, 9], [5, 1, -1, -31]), (23, [14, 4, 9], [0, 1, -1, -31]), (102, [14], [261336857795280739939871698507597986398208, 12012]), (23, [14, 4, 9], [0, 1, -1, -31]), (7, [9, 10], [2])], [], [], [(20, [5, 4, 30], [30, 0, 1, 1, 12, -1, 0, 0, -31, 0, 0])], [], [(30, 9, 1, 1), (30, 10, -4294967296, 0), (9, 10, -4294967296, -1)])
theorem oo_Ho_writeGroup_at_k0_11 {kA : Nat → ClassId} : or_ok kA GG o_Ho_writeGroup_at_k0_11 := by
  intro A ta ws vs hD hth hl hk hds hf
  have hl : vs.length = 31 := hl
  have hk : ∀ q ∈ ([(0, (2, 0, 0, [12])), (4, (0, 0, 71426432, [])), (5, (2, 0, 0, [12])), (9, (0, 0, 23, [])), (10, (0, 1, 24, [])), (14, (0, 0, 99999995, [])), (18, (0, 0, 99999992, [])), (23, (0, 0, 99999993, [])), (25, (0, 0, 99999992, [])), (27, (0, 0, 99999999, [])), (29, (0, 0, 99999998, [])), (30, (0, 1, 24, []))] : List (Nat × tv_T)), tv_ok ta q.2 (n_v vs q.1) := hk
  obtain ⟨t0, hk⟩ := List.forall_mem_cons.mp hk
  have t0 : tv_ok ta (2, 0, 0, [12]) (n_v vs 0) := t0
  have r0 : ta (v_ad (n_v vs 0)) = some 12 := tv_rg t0
  obtain ⟨t4, hk⟩ := List.forall_mem_cons.mp hk
  have t4 : tv_ok ta (0, 0, 71426432, []) (n_v vs 4) := t4
  have k4 : 0 ≤ v_iv (n_v vs 4) ∧ v_iv (n_v vs 4) ≤ 71426432 := tv_rng t4
  obtain ⟨t5, hk⟩ := List.forall_mem_cons.mp hk
  have t5 : tv_ok ta (2, 0, 0, [12]) (n_v vs 5) := t5
  have r5 : ta (v_ad (n_v vs 5)) = some 12 := tv_rg t5
  obtain ⟨t9, hk⟩ := List.forall_mem_cons.mp hk
  have t9 : tv_ok ta (0, 0, 23, []) (n_v vs 9) := t9
  have k9 : 0 ≤ v_iv (n_v vs 9) ∧ v_iv (n_v vs 9) ≤ 23 := tv_rng t9
  obtain ⟨t10, hk⟩ := List.forall_mem_cons.mp hk
  have t10 : tv_ok ta (0, 1, 24, []) (n_v vs 10) := t10
  have k10 : 1 ≤ v_iv (n_v vs 10) ∧ v_iv (n_v vs 10) ≤ 24 := tv_rng t10
  obtain ⟨t14, hk⟩ := List.forall_mem_cons.mp hk
  have t14 : tv_ok ta (0, 0, 99999995, []) (n_v vs 14) := t14
  have k14 : 0 ≤ v_iv (n_v vs 14) ∧ v_iv (n_v vs 14) ≤ 99999995 := tv_rng t14
  obtain ⟨t18, hk⟩ := List.forall_mem_cons.mp hk
  have t18 : tv_ok ta (0, 0, 99999992, []) (n_v vs 18) := t18
  have k18 : 0 ≤ v_iv (n_v vs 18) ∧ v_iv (n_v vs 18) ≤ 99999992 := tv_rng t18
  obtain ⟨t23, hk⟩ := List.forall_mem_cons.mp hk
  have t23 : tv_ok ta (0, 0, 99999993, []) (n_v vs 23) := t23
  have k23 : 0 ≤ v_iv (n_v vs 23) ∧ v_iv (n_v vs 23) ≤ 99999993 := tv_rng t23
  obtain ⟨t25, hk⟩ := List.forall_mem_cons.mp hk
  have t25 : tv_ok ta (0, 0, 99999992, []) (n_v vs 25) := t25
  have k25 : 0 ≤ v_iv (n_v vs 25) ∧ v_iv (n_v vs 25) ≤ 99999992 := tv_rng t25
  obtain ⟨t27, hk⟩ := List.forall_mem_cons.mp hk
  have t27 : tv_ok ta (0, 0, 99999999, []) (n_v vs 27) := t27
  have k27 : 0 ≤ v_iv (n_v vs 27) ∧ v_iv (n_v vs 27) ≤ 99999999 := tv_rng t27
  obtain ⟨t29, hk⟩ := List.forall_mem_cons.mp hk
  have t29 : tv_ok ta (0, 0, 99999998, []) (n_v vs 29) := t29
  have k29 : 0 ≤ v_iv (n_v vs 29) ∧ v_iv (n_v vs 29) ≤ 99999998 := tv_rng t29
  obtain ⟨t30, hk⟩ := List.forall_mem_cons.mp hk
  have t30 : tv_ok ta (0, 1, 24, []) (n_v vs 30) := t30
  have k30 : 1 ≤ v_iv (n_v vs 30) ∧ v_iv (n_v vs 30) ≤ 24 := tv_rng t30
  have hds : ∀ q ∈ ([(30, 9, 1, 1), (30, 10, -4294967296, 0), (9, 10, -4294967296, -1)] : List of_T), n_iv vs q.2.1 + q.2.2.1 ≤ n_iv vs q.1 ∧ n_iv vs q.1 ≤ n_iv vs q.2.1 + q.2.2.2 := hds
  obtain ⟨d0, hds⟩ := List.forall_mem_cons.mp hds
  have d0 : v_iv (n_v vs 9) + 1 ≤ v_iv (n_v vs 30) ∧ v_iv (n_v vs 30) ≤ v_iv (n_v vs 9) + 1 := d0
  obtain ⟨d1, hds⟩ := List.forall_mem_cons.mp hds
  have d1 : v_iv (n_v vs 10) + (-4294967296) ≤ v_iv (n_v vs 30) ∧ v_iv (n_v vs 30) ≤ v_iv (n_v vs 10) + 0 := d1
  obtain ⟨d2, hds⟩ := List.forall_mem_cons.mp hds
  have d2 : v_iv (n_v vs 10) + (-4294967296) ≤ v_iv (n_v vs 9) ∧ v_iv (n_v vs 9) ≤ v_iv (n_v vs 10) + (-1) := d2
  have hf : fc_ok [(6, [30, 9], [1]), (23, [29, 4, 9], [29, 1, -1, -31]), (23, [27, 4, 9], [28, 1, -1, -31]), (23, [25, 4, 9], [20, 1, -1, -31]), (23, [23, 4, 9], [13, 1, -1, -31]), (23, [18, 4, 9], [5, 1, -1, -31]), (23, [14, 4, 9], [0, 1, -1, -31]), (24, [0, 5], []), (20, [5, 29], [30, 2, 1, 1, 12, -1, 0, 0]), (102, [29], [261336857795280739939871698507597986398208, 12012]), (23, [29, 4, 9], [29, 1, -1, -31]), (23, [27, 4, 9], [28, 1, -1, -31]), (23, [25, 4, 9], [20, 1, -1, -31]), (23, [23, 4, 9], [13, 1, -1, -31]), (23, [18, 4, 9], [5, 1, -1, -31]), (23, [14, 4, 9], [0, 1, -1, -31]), (102, [27], [261336857795280739939871698507597986398208, 12012]), (23, [27, 4, 9], [28, 1, -1, -31]), (23, [25, 4, 9], [20, 1, -1, -31]), (23, [23, 4, 9], [13, 1, -1, -31]), (23, [18, 4, 9], [5, 1, -1, -31]), (23, [14, 4, 9], [0, 1, -1, -31]), (102, [25], [261336857795280739939871698507597986398208, 12012]), (23, [25, 4, 9], [20, 1, -1, -31]), (23, [23, 4, 9], [13, 1, -1, -31]), (23, [18, 4, 9], [5, 1, -1, -31]), (23, [14, 4, 9], [0, 1, -1, -31]), (102, [23], [261336857795280739939871698507597986398208, 12012]), (23, [23, 4, 9], [13, 1, -1, -31]), (23, [18, 4, 9], [5, 1, -1, -31]), (23, [14, 4, 9], [0, 1, -1, -31]), (102, [18], [261336857795280739939871698507597986398208, 12012]), (23, [18, 4, 9], [5, 1, -1, -31]), (23, [14, 4, 9], [0, 1, -1, -31]), (102, [14], [261336857795280739939871698507597986398208, 12012]), (23, [14, 4, 9], [0, 1, -1, -31]), (7, [9, 10], [2])] ta ws vs := hf
  obtain ⟨f0, hf⟩ := fc_un (show (6 : Nat) < 100 from by decide) hf
  have f0 : v_iv (n_v vs 30) = v_iv (n_v vs 9) + 1 := f0
  obtain ⟨f1, hf⟩ := fc_un (show (23 : Nat) < 100 from by decide) hf
  have f1 : 1 * v_iv (n_v vs 29) + ((-1) * v_iv (n_v vs 4) + ((-31) * v_iv (n_v vs 9) + 0)) ≤ 29 := f1
  obtain ⟨f2, hf⟩ := fc_un (show (23 : Nat) < 100 from by decide) hf
  have f2 : 1 * v_iv (n_v vs 27) + ((-1) * v_iv (n_v vs 4) + ((-31) * v_iv (n_v vs 9) + 0)) ≤ 28 := f2
  obtain ⟨f3, hf⟩ := fc_un (show (23 : Nat) < 100 from by decide) hf
  have f3 : 1 * v_iv (n_v vs 25) + ((-1) * v_iv (n_v vs 4) + ((-31) * v_iv (n_v vs 9) + 0)) ≤ 20 := f3
  obtain ⟨f4, hf⟩ := fc_un (show (23 : Nat) < 100 from by decide) hf
  have f4 : 1 * v_iv (n_v vs 23) + ((-1) * v_iv (n_v vs 4) + ((-31) * v_iv (n_v vs 9) + 0)) ≤ 13 := f4
  obtain ⟨f5, hf⟩ := fc_un (show (23 : Nat) < 100 from by decide) hf
  have f5 : 1 * v_iv (n_v vs 18) + ((-1) * v_iv (n_v vs 4) + ((-31) * v_iv (n_v vs 9) + 0)) ≤ 5 := f5
  obtain ⟨f6, hf⟩ := fc_un (show (23 : Nat) < 100 from by decide) hf
  have f6 : 1 * v_iv (n_v vs 14) + ((-1) * v_iv (n_v vs 4) + ((-31) * v_iv (n_v vs 9) + 0)) ≤ 0 := f6
  obtain ⟨f7, hf⟩ := fc_un (show (24 : Nat) < 100 from by decide) hf
  have f7 : n_v vs 0 = n_v vs 5 := f7
  obtain ⟨f8, hf⟩ := fc_un (show (20 : Nat) < 100 from by decide) hf
  have f8 : 1 * w_fi ws (n_v vs 5) 12 + ((-1) * v_iv (n_v vs 29) + 0) ≤ 2 := f8
  obtain ⟨ta1, w1, le1, ⟨_, s1⟩, hf⟩ := fc_us (show ¬ (102 : Nat) < 100 from by decide) hf
  obtain ⟨f10, hf⟩ := fc_un (show (23 : Nat) < 100 from by decide) hf
  have f10 : 1 * v_iv (n_v vs 29) + ((-1) * v_iv (n_v vs 4) + ((-31) * v_iv (n_v vs 9) + 0)) ≤ 29 := f10
  obtain ⟨f11, hf⟩ := fc_un (show (23 : Nat) < 100 from by decide) hf
  have f11 : 1 * v_iv (n_v vs 27) + ((-1) * v_iv (n_v vs 4) + ((-31) * v_iv (n_v vs 9) + 0)) ≤ 28 := f11
  obtain ⟨f12, hf⟩ := fc_un (show (23 : Nat) < 100 from by decide) hf
  have f12 : 1 * v_iv (n_v vs 25) + ((-1) * v_iv (n_v vs 4) + ((-31) * v_iv (n_v vs 9) + 0)) ≤ 20 := f12
  obtain ⟨f13, hf⟩ := fc_un (show (23 : Nat) < 100 from by decide) hf
  have f13 : 1 * v_iv (n_v vs 23) + ((-1) * v_iv (n_v vs 4) + ((-31) * v_iv (n_v vs 9) + 0)) ≤ 13 := f13
  obtain ⟨f14, hf⟩ := fc_un (show (23 : Nat) < 100 from by decide) hf
  have f14 : 1 * v_iv (n_v vs 18) + ((-1) * v_iv (n_v vs 4) + ((-31) * v_iv (n_v vs 9) + 0)) ≤ 5 := f14
  obtain ⟨f15, hf⟩ := fc_un (show (23 : Nat) < 100 from by decide) hf
  have f15 : 1 * v_iv (n_v vs 14) + ((-1) * v_iv (n_v vs 4) + ((-31) * v_iv (n_v vs 9) + 0)) ≤ 0 := f15
  obtain ⟨ta2, w2, le2, ⟨_, s2⟩, hf⟩ := fc_us (show ¬ (102 : Nat) < 100 from by decide) hf
  obtain ⟨f17, hf⟩ := fc_un (show (23 : Nat) < 100 from by decide) hf
  have f17 : 1 * v_iv (n_v vs 27) + ((-1) * v_iv (n_v vs 4) + ((-31) * v_iv (n_v vs 9) + 0)) ≤ 28 := f17
  obtain ⟨f18, hf⟩ := fc_un (show (23 : Nat) < 100 from by decide) hf
  have f18 : 1 * v_iv (n_v vs 25) + ((-1) * v_iv (n_v vs 4) + ((-31) * v_iv (n_v vs 9) + 0)) ≤ 20 := f18
  obtain ⟨f19, hf⟩ := fc_un (show (23 : Nat) < 100 from by decide) hf
  have f19 : 1 * v_iv (n_v vs 23) + ((-1) * v_iv (n_v vs 4) + ((-31) * v_iv (n_v vs 9) + 0)) ≤ 13 := f19
  obtain ⟨f20, hf⟩ := fc_un (show (23 : Nat) < 100 from by decide) hf
  have f20 : 1 * v_iv (n_v vs 18) + ((-1) * v_iv (n_v vs 4) + ((-31) * v_iv (n_v vs 9) + 0)) ≤ 5 := f20
  obtain ⟨f21, hf⟩ := fc_un (show (23 : Nat) < 100 from by decide) hf
  have f21 : 1 * v_iv (n_v vs 14) + ((-1) * v_iv (n_v vs 4) + ((-31) * v_iv (n_v vs 9) + 0)) ≤ 0 := f21
  obtain ⟨ta3, w3, le3, ⟨_, s3⟩, hf⟩ := fc_us (show ¬ (102 : Nat) < 100 from by decide) hf
  obtain ⟨f23, hf⟩ := fc_un (show (23 : Nat) < 100 from by decide) hf
  have f23 : 1 * v_iv (n_v vs 25) + ((-1) * v_iv (n_v vs 4) + ((-31) * v_iv (n_v vs 9) + 0)) ≤ 20 := f23
  obtain ⟨f24, hf⟩ := fc_un (show (23 : Nat) < 100 from by decide) hf
  have f24 : 1 * v_iv (n_v vs 23) + ((-1) * v_iv (n_v vs 4) + ((-31) * v_iv (n_v vs 9) + 0)) ≤ 13 := f24
  obtain ⟨f25, hf⟩ := fc_un (show (23 : Nat) < 100 from by decide) hf
  have f25 : 1 * v_iv (n_v vs 18) + ((-1) * v_iv (n_v vs 4) + ((-31) * v_iv (n_v vs 9) + 0)) ≤ 5 := f25
  obtain ⟨f26, hf⟩ := fc_un (show (23 : Nat) < 100 from by decide) hf
  have f26 : 1 * v_iv (n_v vs 14) + ((-1) * v_iv (n_v vs 4) + ((-31) * v_iv (n_v vs 9) + 0)) ≤ 0 := f26
  obtain ⟨ta4, w4, le4, ⟨_, s4⟩, hf⟩ := fc_us (show ¬ (102 : Nat) < 100 from by decide) hf
  obtain ⟨f28, hf⟩ := fc_un (show (23 : Nat) < 100 from by decide) hf
  have f28 : 1 * v_iv (n_v vs 23) + ((-1) * v_iv (n_v vs 4) + ((-31) * v_iv (n_v vs 9) + 0)) ≤ 13 := f28
  obtain ⟨f29, hf⟩ := fc_un (show (23 : Nat) < 100 from by decide) hf
  have f29 : 1 * v_iv (n_v vs 18) + ((-1) * v_iv (n_v vs 4) + ((-31) * v_iv (n_v vs 9) + 0)) ≤ 5 := f29
  obtain ⟨f30, hf⟩ := fc_un (show (23 : Nat) < 100 from by decide) hf
  have f30 : 1 * v_iv (n_v vs 14) + ((-1) * v_iv (n_v vs 4) + ((-31) * v_iv (n_v vs 9) + 0)) ≤ 0 := f30
  obtain ⟨ta5, w5, le5, ⟨_, s5⟩, hf⟩ := fc_us (show ¬ (102 : Nat) < 100 from by decide) hf
  obtain ⟨f32, hf⟩ := fc_un (show (23 : Nat) < 100 from by decide) hf
  have f32 : 1 * v_iv (n_v vs 18) + ((-1) * v_iv (n_v vs 4) + ((-31) * v_iv (n_v vs 9) + 0)) ≤ 5 := f32
  obtain ⟨f33, hf⟩ := fc_un (show (23 : Nat) < 100 from by decide) hf
  have f33 : 1 * v_iv (n_v vs 14) + ((-1) * v_iv (n_v vs 4) + ((-31) * v_iv (n_v vs 9) + 0)) ≤ 0 := f33
  obtain ⟨ta6, w6, le6, ⟨_, s6⟩, hf⟩ := fc_us (show ¬ (102 : Nat) < 100 from by decide) hf
  obtain ⟨f35, hf⟩ := fc_un (show (23 : Nat) < 100 from by decide) hf
  have f35 : 1 * v_iv (n_v vs 14) + ((-1) * v_iv (n_v vs 4) + ((-31) * v_iv (n_v vs 9) + 0)) ≤ 0 := f35
  obtain ⟨f36, hf⟩ := fc_un (show (7 : Nat) < 100 from by decide) hf
  have f36 : v_iv (n_v vs 9) < v_iv (n_v vs 10) := f36
  have q5 : n_v vs 5 = n_v vs 0 := f7.symm
  rw [q5] at f8
  have kz_0_12 : 0 ≤ w_fi ws (n_v vs 0) 12 ∧ w_fi ws (n_v vs 0) 12 ≤ 100000000 := tv_rng (th_fd hD hth r0 (g := GG_12) rfl (k := 12) (t := (0, 0, 100000000, [])) rfl rfl)
  have nf0 : fc_1 (20, [5, 4, 30], [30, 0, 1, 1, 12, -1, 0, 0, -31, 0, 0]) ws (vs) := by
    refine ⟨fun n hn => ?_, ?_⟩
    · have hn : n ∈ [5, 4, 30] := hn
      rw [hl]
      simp only [List.mem_cons, List.not_mem_nil, or_false] at hn
      show n < 31; omega
    · show 1 * w_fi ws (n_v vs 5) 12 + ((-1) * v_iv (n_v vs 4) + ((-31) * v_iv (n_v vs 30) + 0)) ≤ 0
      rw [q5]
      omega
  refine ⟨(fun _ h => (by cases h)), [], trivial, ?_, (fun _ h => (by cases h))⟩
  rw [List.append_nil]
  exact List.forall_mem_cons.mpr ⟨⟨show (20 : Nat) < 100 from by decide, nf0⟩, (fun _ h => (by cases h))⟩
def o_Ho_writeGroup_at_k0_12 : or_T := (179, 11, [(0, (2, 0, 0, [12])), (4, (0, 0, 71426432, [])), (5, (2, 0, 0, [12])), (6, (2, 0, 0, [3])), (7, (0, 0, 0, [])), (9, (0, 1, 8, [])), (10, (0, 0, 8, []))], [(7, [9, 10], [3]), (9, [10, 6], [2]), (20, [5, 4, 9, 7], [30, -3570859, 1, 1, 12, -1, 0, 0, -3571603, 0, 0, 3571603, 0, 0]), (24, [0, 5], [])], [], [], [(20, [0, 4], [30, 28573568, 1, 1, 12, -1, 0, 0])], [], [(9, 10, 0, 4294967296), (7, 4, -4294967296, 0), (7, 9, -4294967296, -1)])
theorem oo_Ho_writeGroup_at_k0_12 {kA : Nat → ClassId} : or_ok kA GG o_Ho_writeGroup_at_k0_12 := by
  intro A ta ws vs hD hth hl hk hds hf
  have hl : vs.length = 11 := hl
  have hk : ∀ q ∈ ([(0, (2, 0, 0, [12])), (4, (0, 0, 71426432, [])), (5, (2, 0, 0, [12])), (6, (2, 0, 0, [3])), (7, (0, 0, 0, [])), (9, (0, 1, 8, [])), (10, (0, 0, 8, []))] : List (Nat × tv_T)), tv_ok ta q.2 (n_v vs q.1) := hk
  obtain ⟨t0, hk⟩ := List.forall_mem_cons.mp hk
  have t0 : tv_ok ta (2, 0, 0, [12]) (n_v vs 0) := t0
  have r0 : ta (v_ad (n_v vs 0)) = some 12 := tv_rg t0
  obtain ⟨t4, hk⟩ := List.forall_mem_cons.mp hk
  have t4 : tv_ok ta (0, 0, 71426432, []) (n_v vs 4) := t4
  have k4 : 0 ≤ v_iv (n_v vs 4) ∧ v_iv (n_v vs 4) ≤ 71426432 := tv_rng t4
  obtain ⟨t5, hk⟩ := List.forall_mem_cons.mp hk
  have t5 : tv_ok ta (2, 0, 0, [12]) (n_v vs 5) := t5
  have r5 : ta (v_ad (n_v vs 5)) = some 12 := tv_rg t5
  obtain ⟨t6, hk⟩ := List.forall_mem_cons.mp hk
  have t6 : tv_ok ta (2, 0, 0, [3]) (n_v vs 6) := t6
  have r6 : ta (v_ad (n_v vs 6)) = some 3 := tv_rg t6
  obtain ⟨t7, hk⟩ := List.forall_mem_cons.mp hk
  have t7 : tv_ok ta (0, 0, 0, []) (n_v vs 7) := t7
  have k7 : 0 ≤ v_iv (n_v vs 7) ∧ v_iv (n_v vs 7) ≤ 0 := tv_rng t7
  obtain ⟨t9, hk⟩ := List.forall_mem_cons.mp hk
  have t9 : tv_ok ta (0, 1, 8, []) (n_v vs 9) := t9
  have k9 : 1 ≤ v_iv (n_v vs 9) ∧ v_iv (n_v vs 9) ≤ 8 := tv_rng t9
  obtain ⟨t10, hk⟩ := List.forall_mem_cons.mp hk
  have t10 : tv_ok ta (0, 0, 8, []) (n_v vs 10) := t10
  have k10 : 0 ≤ v_iv (n_v vs 10) ∧ v_iv (n_v vs 10) ≤ 8 := tv_rng t10
  have hds : ∀ q ∈ ([(9, 10, 0, 4294967296), (7, 4, -4294967296, 0), (7, 9, -4294967296, -1)] : List of_T), n_iv vs q.2.1 + q.2.2.1 ≤ n_iv vs q.1 ∧ n_iv vs q.1 ≤ n_iv vs q.2.1 + q.2.2.2 := hds
  obtain ⟨d0, hds⟩ := List.forall_mem_cons.mp hds
  have d0 : v_iv (n_v vs 10) + 0 ≤ v_iv (n_v vs 9) ∧ v_iv (n_v vs 9) ≤ v_iv (n_v vs 10) + 4294967296 := d0
  obtain ⟨d1, hds⟩ := List.forall_mem_cons.mp hds
  have d1 : v_iv (n_v vs 4) + (-4294967296) ≤ v_iv (n_v vs 7) ∧ v_iv (n_v vs 7) ≤ v_iv (n_v vs 4) + 0 := d1
  obtain ⟨d2, hds⟩ := List.forall_mem_cons.mp hds
  have d2 : v_iv (n_v vs 9) + (-4294967296) ≤ v_iv (n_v vs 7) ∧ v_iv (n_v vs 7) ≤ v_iv (n_v vs 9) + (-1) := d2
  have hf : fc_ok [(7, [9, 10], [3]), (9, [10, 6], [2]), (20, [5, 4, 9, 7], [30, -3570859, 1, 1, 12, -1, 0, 0, -3571603, 0, 0, 3571603, 0, 0]), (24, [0, 5], [])] ta ws vs := hf
  obtain ⟨f0, hf⟩ := fc_un (show (7 : Nat) < 100 from by decide) hf
  have f0 : v_iv (n_v vs 10) ≤ v_iv (n_v vs 9) := f0
  obtain ⟨f1, hf⟩ := fc_un (show (9 : Nat) < 100 from by decide) hf
  have f1 : n_v vs 10 = w_fd ws (v_ad (n_v vs 6)) 2 := f1
  obtain ⟨f2, hf⟩ := fc_un (show (20 : Nat) < 100 from by decide) hf
  have f2 : 1 * w_fi ws (n_v vs 5) 12 + ((-1) * v_iv (n_v vs 4) + ((-3571603) * v_iv (n_v vs 9) + (3571603 * v_iv (n_v vs 7) + 0))) ≤ (-3570859) := f2
  obtain ⟨f3, hf⟩ := fc_un (show (24 : Nat) < 100 from by decide) hf
  have f3 : n_v vs 0 = n_v vs 5 := f3
  have q5 : n_v vs 5 = n_v vs 0 := f3.symm
  rw [q5] at f2
  have g1 : v_iv (n_v vs 10) = w_fi ws (n_v vs 6) 2 := congrArg v_iv f1
  have kz_0_12 : 0 ≤ w_fi ws (n_v vs 0) 12 ∧ w_fi ws (n_v vs 0) 12 ≤ 100000000 := tv_rng (th_fd hD hth r0 (g := GG_12) rfl (k := 12) (t := (0, 0, 100000000, [])) rfl rfl)
  have kz_6_2 : 0 ≤ w_fi ws (n_v vs 6) 2 ∧ w_fi ws (n_v vs 6) 2 ≤ 8 := tv_rng (th_fd hD hth r6 (g := GG_3) rfl (k := 2) (t := (0, 0, 8, [])) rfl rfl)
  have nf0 : fc_1 (20, [0, 4], [30, 28573568, 1, 1, 12, -1, 0, 0]) ws (vs) := by
    refine ⟨fun n hn => ?_, ?_⟩
    · have hn : n ∈ [0, 4] := hn
      rw [hl]
      simp only [List.mem_cons, List.not_mem_nil, or_false] at hn
      show n < 11; omega
    · show 1 * w_fi ws (n_v vs 0) 12 + ((-1) * v_iv (n_v vs 4) + 0) ≤ 28573568
      omega
  refine ⟨(fun _ h => (by cases h)), [], trivial, ?_, (fun _ h => (by cases h))⟩
  rw [List.append_nil]
  exact List.forall_mem_cons.mpr ⟨⟨show (20 : Nat) < 100 from by decide, nf0⟩, (fun _ h => (by cases h))⟩
def o_Ho_writeGroup_at_k0_13 : or_T := (100, 14, [(0, (2, 0, 0, [12])), (4, (0, 0, 71426432, [])), (5, (2, 0, 0, [12])), (6, (2, 0, 0, [3])), (7, (0, 0, 0, [])), (9, (0, 1, 7, [])), (10, (0, 2, 8, [])), (11, (2, 0, 0, [56])), (12, (0, -1, 7, [])), (13, (0, 2, 8, []))], [(6, [13, 9], [1]), (7, [12, 7], [1]), (10, [12, 11, 9], []), (9, [11, 6], [11]), (7, [9, 10], [2]), (9, [10, 6], [2]), (20, [5, 4, 9, 7], [30, -3570859, 1, 1, 12, -1, 0, 0, -3571603, 0, 0, 3571603, 0, 0]), (24, [0, 5], [])], [], [], [(20, [5, 4, 13, 7], [30, -3570859, 1, 1, 12, -1, 0, 0, -3571603, 0, 0, 3571603, 0, 0])], [], [(13, 9, 1, 1), (13, 10, -4294967296, 0), (9, 10, -4294967296, -1), (7, 4, -4294967296, 0), (7, 9, -4294967296, -1)])
theorem oo_Ho_writeGroup_at_k0_13 {kA : Nat → ClassId} : or_ok kA GG o_Ho_writeGroup_at_k0_13 := by
  intro A ta ws vs hD hth hl hk hds hf
  have hl : vs.length = 14 := hl
  have hk : ∀ q ∈ ([(0, (2, 0, 0, [12])), (4, (0, 0, 71426432, [])), (5, (2, 0, 0, [12])), (6, (2, 0, 0, [3])), (7, (0, 0, 0, [])), (9, (0, 1, 7, [])), (10, (0, 2, 8, [])), (11, (2, 0, 0, [56])), (12, (0, -1, 7, [])), (13, (0, 2, 8, []))] : List (Nat × tv_T)), tv_ok ta q.2 (n_v vs q.1) := hk
  obtain ⟨t0, hk⟩ := List.forall_mem_cons.mp hk
  have t0 : tv_ok ta (2, 0, 0, [12]) (n_v vs 0) := t0
  have r0 : ta (v_ad (n_v vs 0)) = some 12 := tv_rg t0
  obtain ⟨t4, hk⟩ := List.forall_mem_cons.mp hk
  have t4 : tv_ok ta (0, 0, 71426432, []) (n_v vs 4) := t4
  have k4 : 0 ≤ v_iv (n_v vs 4) ∧ v_iv (n_v vs 4) ≤ 71426432 := tv_rng t4
  obtain ⟨t5, hk⟩ := List.forall_mem_cons.mp hk
  have t5 : tv_ok ta (2, 0, 0, [12]) (n_v vs 5) := t5
  have r5 : ta (v_ad (n_v vs 5)) = some 12 := tv_rg t5
  obtain ⟨t6, hk⟩ := List.forall_mem_cons.mp hk
  have t6 : tv_ok ta (2, 0, 0, [3]) (n_v vs 6) := t6
  have r6 : ta (v_ad (n_v vs 6)) = some 3 := tv_rg t6
  obtain ⟨t7, hk⟩ := List.forall_mem_cons.mp hk
  have t7 : tv_ok ta (0, 0, 0, []) (n_v vs 7) := t7
  have k7 : 0 ≤ v_iv (n_v vs 7) ∧ v_iv (n_v vs 7) ≤ 0 := tv_rng t7
  obtain ⟨t9, hk⟩ := List.forall_mem_cons.mp hk
  have t9 : tv_ok ta (0, 1, 7, []) (n_v vs 9) := t9
  have k9 : 1 ≤ v_iv (n_v vs 9) ∧ v_iv (n_v vs 9) ≤ 7 := tv_rng t9
  obtain ⟨t10, hk⟩ := List.forall_mem_cons.mp hk
  have t10 : tv_ok ta (0, 2, 8, []) (n_v vs 10) := t10
  have k10 : 2 ≤ v_iv (n_v vs 10) ∧ v_iv (n_v vs 10) ≤ 8 := tv_rng t10
  obtain ⟨t11, hk⟩ := List.forall_mem_cons.mp hk
  have t11 : tv_ok ta (2, 0, 0, [56]) (n_v vs 11) := t11
  have r11 : ta (v_ad (n_v vs 11)) = some 56 := tv_rg t11
  obtain ⟨t12, hk⟩ := List.forall_mem_cons.mp hk
  have t12 : tv_ok ta (0, -1, 7, []) (n_v vs 12) := t12
  have k12 : (-1) ≤ v_iv (n_v vs 12) ∧ v_iv (n_v vs 12) ≤ 7 := tv_rng t12
  obtain ⟨t13, hk⟩ := List.forall_mem_cons.mp hk
  have t13 : tv_ok ta (0, 2, 8, []) (n_v vs 13) := t13
  have k13 : 2 ≤ v_iv (n_v vs 13) ∧ v_iv (n_v vs 13) ≤ 8 := tv_rng t13
  have hds : ∀ q ∈ ([(13, 9, 1, 1), (13, 10, -4294967296, 0), (9, 10, -4294967296, -1), (7, 4, -4294967296, 0), (7, 9, -4294967296, -1)] : List of_T), n_iv vs q.2.1 + q.2.2.1 ≤ n_iv vs q.1 ∧ n_iv vs q.1 ≤ n_iv vs q.2.1 + q.2.2.2 := hds
  obtain ⟨d0, hds⟩ := List.forall_mem_cons.mp hds
  have d0 : v_iv (n_v vs 9) + 1 ≤ v_iv (n_v vs 13) ∧ v_iv (n_v vs 13) ≤ v_iv (n_v vs 9) + 1 := d0
  obtain ⟨d1, hds⟩ := List.forall_mem_cons.mp hds
  have d1 : v_iv (n_v vs 10) + (-4294967296) ≤ v_iv (n_v vs 13) ∧ v_iv (n_v vs 13) ≤ v_iv (n_v vs 10) + 0 := d1
  obtain ⟨d2, hds⟩ := List.forall_mem_cons.mp hds
  have d2 : v_iv (n_v vs 10) + (-4294967296) ≤ v_iv (n_v vs 9) ∧ v_iv (n_v vs 9) ≤ v_iv (n_v vs 10) + (-1) := d2
  obtain ⟨d3, hds⟩ := List.forall_mem_cons.mp hds
  have d3 : v_iv (n_v vs 4) + (-4294967296) ≤ v_iv (n_v vs 7) ∧ v_iv (n_v vs 7) ≤ v_iv (n_v vs 4) + 0 := d3
  obtain ⟨d4, hds⟩ := List.forall_mem_cons.mp hds
  have d4 : v_iv (n_v vs 9) + (-4294967296) ≤ v_iv (n_v vs 7) ∧ v_iv (n_v vs 7) ≤ v_iv (n_v vs 9) + (-1) := d4
  have hf : fc_ok [(6, [13, 9], [1]), (7, [12, 7], [1]), (10, [12, 11, 9], []), (9, [11, 6], [11]), (7, [9, 10], [2]), (9, [10, 6], [2]), (20, [5, 4, 9, 7], [30, -3570859, 1, 1, 12, -1, 0, 0, -3571603, 0, 0, 3571603, 0, 0]), (24, [0, 5], [])] ta ws vs := hf
  obtain ⟨f0, hf⟩ := fc_un (show (6 : Nat) < 100 from by decide) hf
  have f0 : v_iv (n_v vs 13) = v_iv (n_v vs 9) + 1 := f0
  obtain ⟨f1, hf⟩ := fc_un (show (7 : Nat) < 100 from by decide) hf
  have f1 : v_iv (n_v vs 12) ≠ v_iv (n_v vs 7) := f1
  obtain ⟨f2, hf⟩ := fc_un (show (10 : Nat) < 100 from by decide) hf
  have f2 : v_iv (n_v vs 12) = w_el ws (v_ad (n_v vs 11)) (v_iv (n_v vs 9)).toNat := f2
  obtain ⟨f3, hf⟩ := fc_un (show (9 : Nat) < 100 from by decide) hf
  have f3 : n_v vs 11 = w_fd ws (v_ad (n_v vs 6)) 11 := f3
  obtain ⟨f4, hf⟩ := fc_un (show (7 : Nat) < 100 from by decide) hf
  have f4 : v_iv (n_v vs 9) < v_iv (n_v vs 10) := f4
  obtain ⟨f5, hf⟩ := fc_un (show (9 : Nat) < 100 from by decide) hf
  have f5 : n_v vs 10 = w_fd ws (v_ad (n_v vs 6)) 2 := f5
  obtain ⟨f6, hf⟩ := fc_un (show (20 : Nat) < 100 from by decide) hf
  have f6 : 1 * w_fi ws (n_v vs 5) 12 + ((-1) * v_iv (n_v vs 4) + ((-3571603) * v_iv (n_v vs 9) + (3571603 * v_iv (n_v vs 7) + 0))) ≤ (-3570859) := f6
  obtain ⟨f7, hf⟩ := fc_un (show (24 : Nat) < 100 from by decide) hf
  have f7 : n_v vs 0 = n_v vs 5 := f7
  have q5 : n_v vs 5 = n_v vs 0 := f7.symm
  rw [q5] at f6
  have cr_6_11 : ta (w_ar ws (n_v vs 6) 11) = some 56 := tv_rg (th_fd hD hth r6 (g := GG_3) rfl (k := 11) (t := (2, 0, 0, [56])) rfl rfl)
  have ad_11 : v_ad (n_v vs 11) = w_ar ws (n_v vs 6) 11 := congrArg v_ad f3
  rw [ad_11] at f2
  have g5 : v_iv (n_v vs 10) = w_fi ws (n_v vs 6) 2 := congrArg v_iv f5
  have kz_0_12 : 0 ≤ w_fi ws (n_v vs 0) 12 ∧ w_fi ws (n_v vs 0) 12 ≤ 100000000 := tv_rng (th_fd hD hth r0 (g := GG_12) rfl (k := 12) (t := (0, 0, 100000000, [])) rfl rfl)
  have kz_6_2 : 0 ≤ w_fi ws (n_v vs 6) 2 ∧ w_fi ws (n_v vs 6) 2 ≤ 8 := tv_rng (th_fd hD hth r6 (g := GG_3) rfl (k := 2) (t := (0, 0, 8, [])) rfl rfl)
  have nf0 : fc_1 (20, [5, 4, 13, 7], [30, -3570859, 1, 1, 12, -1, 0, 0, -3571603, 0, 0, 3571603, 0, 0]) ws (vs) := by
    refine ⟨fun n hn => ?_, ?_⟩
    · have hn : n ∈ [5, 4, 13, 7] := hn
      rw [hl]
      simp only [List.mem_cons, List.not_mem_nil, or_false] at hn
      show n < 14; omega
    · show 1 * w_fi ws (n_v vs 5) 12 + ((-1) * v_iv (n_v vs 4) + ((-3571603) * v_iv (n_v vs 13) + (3571603 * v_iv (n_v vs 7) + 0))) ≤ (-3570859)
      rw [q5]
      omega
  refine ⟨(fun _ h => (by cases h)), [], trivial, ?_, (fun _ h => (by cases h))⟩
  rw [List.append_nil]
  exact List.forall_mem_cons.mpr ⟨⟨show (20 : Nat) < 100 from by decide, nf0⟩, (fun _ h => (by cases h))⟩
def o_Ho_writeGroup_at_k0_14 : or_T := (129, 15, [(0, (2, 0, 0, [12])), (4, (0, 0, 71426432, [])), (5, (2, 0, 0, [12])), (6, (2, 0, 0, [3])), (7, (0, 0, 0, [])), (9, (0, 1, 7, [])), (10, (0, 2, 8, [])), (11, (2, 0, 0, [56])), (12, (0, 0, 0, []))], [(7, [12, 7], [0]), (10, [12, 11, 9], []), (9, [11, 6], [11]), (7, [9, 10], [2]), (9, [10, 6], [2]), (20, [5, 4, 9, 7], [30, -3570859, 1, 1, 12, -1, 0, 0, -3571603, 0, 0, 3571603, 0, 0]), (24, [0, 5], [])], [], [(0, 0, 99999994, [])], [(20, [5, 15], [30, 0, 1, 1, 12, -1, 0, 0]), (23, [15, 4, 9, 7], [-3570859, 1, -1, -3571603, 3571603])], [], [(9, 10, -4294967296, -1), (7, 4, -4294967296, 0), (7, 9, -4294967296, -1)])
theorem oo_Ho_writeGroup_at_k0_14 {kA : Nat → ClassId} : or_ok kA GG o_Ho_writeGroup_at_k0_14 := by
  intro A ta ws vs hD hth hl hk hds hf
  have hl : vs.length = 15 := hl
  have hk : ∀ q ∈ ([(0, (2, 0, 0, [12])), (4, (0, 0, 71426432, [])), (5, (2, 0, 0, [12])), (6, (2, 0, 0, [3])), (7, (0, 0, 0, [])), (9, (0, 1, 7, [])), (10, (0, 2, 8, [])), (11, (2, 0, 0, [56])), (12, (0, 0, 0, []))] : List (Nat × tv_T)), tv_ok ta q.2 (n_v vs q.1) := hk
  obtain ⟨t0, hk⟩ := List.forall_mem_cons.mp hk
  have t0 : tv_ok ta (2, 0, 0, [12]) (n_v vs 0) := t0
  have r0 : ta (v_ad (n_v vs 0)) = some 12 := tv_rg t0
  obtain ⟨t4, hk⟩ := List.forall_mem_cons.mp hk
  have t4 : tv_ok ta (0, 0, 71426432, []) (n_v vs 4) := t4
  have k4 : 0 ≤ v_iv (n_v vs 4) ∧ v_iv (n_v vs 4) ≤ 71426432 := tv_rng t4
  obtain ⟨t5, hk⟩ := List.forall_mem_cons.mp hk
  have t5 : tv_ok ta (2, 0, 0, [12]) (n_v vs 5) := t5
  have r5 : ta (v_ad (n_v vs 5)) = some 12 := tv_rg t5
  obtain ⟨t6, hk⟩ := List.forall_mem_cons.mp hk
  have t6 : tv_ok ta (2, 0, 0, [3]) (n_v vs 6) := t6
  have r6 : ta (v_ad (n_v vs 6)) = some 3 := tv_rg t6
  obtain ⟨t7, hk⟩ := List.forall_mem_cons.mp hk
  have t7 : tv_ok ta (0, 0, 0, []) (n_v vs 7) := t7
  have k7 : 0 ≤ v_iv (n_v vs 7) ∧ v_iv (n_v vs 7) ≤ 0 := tv_rng t7
  obtain ⟨t9, hk⟩ := List.forall_mem_cons.mp hk
  have t9 : tv_ok ta (0, 1, 7, []) (n_v vs 9) := t9
  have k9 : 1 ≤ v_iv (n_v vs 9) ∧ v_iv (n_v vs 9) ≤ 7 := tv_rng t9
  obtain ⟨t10, hk⟩ := List.forall_mem_cons.mp hk
  have t10 : tv_ok ta (0, 2, 8, []) (n_v vs 10) := t10
  have k10 : 2 ≤ v_iv (n_v vs 10) ∧ v_iv (n_v vs 10) ≤ 8 := tv_rng t10
  obtain ⟨t11, hk⟩ := List.forall_mem_cons.mp hk
  have t11 : tv_ok ta (2, 0, 0, [56]) (n_v vs 11) := t11
  have r11 : ta (v_ad (n_v vs 11)) = some 56 := tv_rg t11
  obtain ⟨t12, hk⟩ := List.forall_mem_cons.mp hk
  have t12 : tv_ok ta (0, 0, 0, []) (n_v vs 12) := t12
  have k12 : 0 ≤ v_iv (n_v vs 12) ∧ v_iv (n_v vs 12) ≤ 0 := tv_rng t12
  have hds : ∀ q ∈ ([(9, 10, -4294967296, -1), (7, 4, -4294967296, 0), (7, 9, -4294967296, -1)] : List of_T), n_iv vs q.2.1 + q.2.2.1 ≤ n_iv vs q.1 ∧ n_iv vs q.1 ≤ n_iv vs q.2.1 + q.2.2.2 := hds
  obtain ⟨d0, hds⟩ := List.forall_mem_cons.mp hds
  have d0 : v_iv (n_v vs 10) + (-4294967296) ≤ v_iv (n_v vs 9) ∧ v_iv (n_v vs 9) ≤ v_iv (n_v vs 10) + (-1) := d0
  obtain ⟨d1, hds⟩ := List.forall_mem_cons.mp hds
  have d1 : v_iv (n_v vs 4) + (-4294967296) ≤ v_iv (n_v vs 7) ∧ v_iv (n_v vs 7) ≤ v_iv (n_v vs 4) + 0 := d1
  obtain ⟨d2, hds⟩ := List.forall_mem_cons.mp hds
  have d2 : v_iv (n_v vs 9) + (-4294967296) ≤ v_iv (n_v vs 7) ∧ v_iv (n_v vs 7) ≤ v_iv (n_v vs 9) + (-1) := d2
  have hf : fc_ok [(7, [12, 7], [0]), (10, [12, 11, 9], []), (9, [11, 6], [11]), (7, [9, 10], [2]), (9, [10, 6], [2]), (20, [5, 4, 9, 7], [30, -3570859, 1, 1, 12, -1, 0, 0, -3571603, 0, 0, 3571603, 0, 0]), (24, [0, 5], [])] ta ws vs := hf
  obtain ⟨f0, hf⟩ := fc_un (show (7 : Nat) < 100 from by decide) hf
  have f0 : v_iv (n_v vs 12) = v_iv (n_v vs 7) := f0
  obtain ⟨f1, hf⟩ := fc_un (show (10 : Nat) < 100 from by decide) hf
  have f1 : v_iv (n_v vs 12) = w_el ws (v_ad (n_v vs 11)) (v_iv (n_v vs 9)).toNat := f1
  obtain ⟨f2, hf⟩ := fc_un (show (9 : Nat) < 100 from by decide) hf
  have f2 : n_v vs 11 = w_fd ws (v_ad (n_v vs 6)) 11 := f2
  obtain ⟨f3, hf⟩ := fc_un (show (7 : Nat) < 100 from by decide) hf
  have f3 : v_iv (n_v vs 9) < v_iv (n_v vs 10) := f3
  obtain ⟨f4, hf⟩ := fc_un (show (9 : Nat) < 100 from by decide) hf
  have f4 : n_v vs 10 = w_fd ws (v_ad (n_v vs 6)) 2 := f4
  obtain ⟨f5, hf⟩ := fc_un (show (20 : Nat) < 100 from by decide) hf
  have f5 : 1 * w_fi ws (n_v vs 5) 12 + ((-1) * v_iv (n_v vs 4) + ((-3571603) * v_iv (n_v vs 9) + (3571603 * v_iv (n_v vs 7) + 0))) ≤ (-3570859) := f5
  obtain ⟨f6, hf⟩ := fc_un (show (24 : Nat) < 100 from by decide) hf
  have f6 : n_v vs 0 = n_v vs 5 := f6
  have q5 : n_v vs 5 = n_v vs 0 := f6.symm
  rw [q5] at f5
  have cr_6_11 : ta (w_ar ws (n_v vs 6) 11) = some 56 := tv_rg (th_fd hD hth r6 (g := GG_3) rfl (k := 11) (t := (2, 0, 0, [56])) rfl rfl)
  have ad_11 : v_ad (n_v vs 11) = w_ar ws (n_v vs 6) 11 := congrArg v_ad f2
  rw [ad_11] at f1
  have g4 : v_iv (n_v vs 10) = w_fi ws (n_v vs 6) 2 := congrArg v_iv f4
  have kz_0_12 : 0 ≤ w_fi ws (n_v vs 0) 12 ∧ w_fi ws (n_v vs 0) 12 ≤ 100000000 := tv_rng (th_fd hD hth r0 (g := GG_12) rfl (k := 12) (t := (0, 0, 100000000, [])) rfl rfl)
  have kz_6_2 : 0 ≤ w_fi ws (n_v vs 6) 2 ∧ w_fi ws (n_v vs 6) 2 ≤ 8 := tv_rng (th_fd hD hth r6 (g := GG_3) rfl (k := 2) (t := (0, 0, 8, [])) rfl rfl)
  have kv0 : 0 ≤ w_fi ws (n_v vs 0) 12 ∧ w_fi ws (n_v vs 0) 12 ≤ 100000000 := tv_rng (th_fd hD hth r0 (g := GG_12) rfl (k := 12) (t := (0, 0, 100000000, [])) rfl rfl)
  obtain ⟨x, ex, hx⟩ := iv_ex (ta := ta) (lo := 0) (hi := 99999994) (z := w_fi ws (n_v vs 0) 12) (by omega) (by omega) (by omega) (by omega)
  have ex2 : v_iv (Value.int x) = w_fi ws (n_v vs 0) 12 := ex
  have ex3 : 0 ≤ v_iv (Value.int x) ∧ v_iv (Value.int x) ≤ 99999994 := tv_rng hx
  have e_4 : n_v (vs ++ [Value.int x]) 4 = n_v vs 4 := n_v_old (by rw [hl]; decide)
  have e_5 : n_v (vs ++ [Value.int x]) 5 = n_v vs 5 := n_v_old (by rw [hl]; decide)
  have e_7 : n_v (vs ++ [Value.int x]) 7 = n_v vs 7 := n_v_old (by rw [hl]; decide)
  have e_9 : n_v (vs ++ [Value.int x]) 9 = n_v vs 9 := n_v_old (by rw [hl]; decide)
  have e_15 : n_v (vs ++ [Value.int x]) 15 = Value.int x := n_v_new hl
  have nf0 : fc_1 (20, [5, 15], [30, 0, 1, 1, 12, -1, 0, 0]) ws (vs ++ [Value.int x]) := by
    refine ⟨fun n hn => ?_, ?_⟩
    · have hn : n ∈ [5, 15] := hn
      rw [List.length_append, hl]
      simp only [List.mem_cons, List.not_mem_nil, or_false] at hn
      show n < 15 + 1; omega
    · show 1 * w_fi ws (n_v (vs ++ [Value.int x]) 5) 12 + ((-1) * v_iv (n_v (vs ++ [Value.int x]) 15) + 0) ≤ 0
      rw [e_5]
      rw [e_15]
      rw [q5]
      omega
  have nf1 : fc_1 (23, [15, 4, 9, 7], [-3570859, 1, -1, -3571603, 3571603]) ws (vs ++ [Value.int x]) := by
    refine ⟨fun n hn => ?_, ?_⟩
    · have hn : n ∈ [15, 4, 9, 7] := hn
      rw [List.length_append, hl]
      simp only [List.mem_cons, List.not_mem_nil, or_false] at hn
      show n < 15 + 1; omega
    · show 1 * v_iv (n_v (vs ++ [Value.int x]) 15) + ((-1) * v_iv (n_v (vs ++ [Value.int x]) 4) + ((-3571603) * v_iv (n_v (vs ++ [Value.int x]) 9) + (3571603 * v_iv (n_v (vs ++ [Value.int x]) 7) + 0))) ≤ (-3570859)
      rw [e_4]
      rw [e_7]
      rw [e_9]
      rw [e_15]
      omega
  exact ⟨(fun _ h => (by cases h)), [Value.int x], ag_one hx, List.forall_mem_cons.mpr ⟨⟨show (20 : Nat) < 100 from by decide, nf0⟩, List.forall_mem_cons.mpr ⟨⟨show (23 : Nat) < 100 from by decide, nf1⟩, (fun _ h => (by cases h))⟩⟩, (fun _ h => (by cases h))⟩
def o_Ho_writeGroup_at_k0_15 : or_T := (146, 19, [(0, (2, 0, 0, [12])), (4, (0, 0, 71426432, [])), (5, (2, 0, 0, [12])), (7, (0, 0, 0, [])), (9, (0, 1, 7, [])), (10, (0, 2, 8, [])), (12, (0, 0, 0, [])), (15, (0, 0, 99999994, []))], [(23, [15, 4, 9, 7], [-3570859, 1, -1, -3571603, 3571603]), (24, [0, 5], []), (20, [5, 15], [30, 6, 1, 1, 12, -1, 0, 0]), (102, [15], [261336857795280739939871698507597986398208, 12012]), (23, [15, 4, 9, 7], [-3570859, 1, -1, -3571603, 3571603]), (7, [12, 7], [0]), (7, [9, 10], [2])], [], [(0, 0, 99999992, [])], [(20, [5, 19], [30, 0, 1, 1, 12, -1, 0, 0]), (23, [19, 4, 9, 7], [-3570853, 1, -1, -3571603, 3571603])], [], [(9, 10, -4294967296, -1), (7, 4, -4294967296, 0), (7, 9, -4294967296, -1)])
theorem oo_Ho_writeGroup_at_k0_15 {kA : Nat → ClassId} : or_ok kA GG o_Ho_writeGroup_at_k0_15 := by
  intro A ta ws vs hD hth hl hk hds hf
  have hl : vs.length = 19 := hl
  have hk : ∀ q ∈ ([(0, (2, 0, 0, [12])), (4, (0, 0, 71426432, [])), (5, (2, 0, 0, [12])), (7, (0, 0, 0, [])), (9, (0, 1, 7, [])), (10, (0, 2, 8, [])), (12, (0, 0, 0, [])), (15, (0, 0, 99999994, []))] : List (Nat × tv_T)), tv_ok ta q.2 (n_v vs q.1) := hk
  obtain ⟨t0, hk⟩ := List.forall_mem_cons.mp hk
  have t0 : tv_ok ta (2, 0, 0, [12]) (n_v vs 0) := t0
  have r0 : ta (v_ad (n_v vs 0)) = some 12 := tv_rg t0
  obtain ⟨t4, hk⟩ := List.forall_mem_cons.mp hk
  have t4 : tv_ok ta (0, 0, 71426432, []) (n_v vs 4) := t4
  have k4 : 0 ≤ v_iv (n_v vs 4) ∧ v_iv (n_v vs 4) ≤ 71426432 := tv_rng t4
  obtain ⟨t5, hk⟩ := List.forall_mem_cons.mp hk
  have t5 : tv_ok ta (2, 0, 0, [12]) (n_v vs 5) := t5
  have r5 : ta (v_ad (n_v vs 5)) = some 12 := tv_rg t5
  obtain ⟨t7, hk⟩ := List.forall_mem_cons.mp hk
  have t7 : tv_ok ta (0, 0, 0, []) (n_v vs 7) := t7
  have k7 : 0 ≤ v_iv (n_v vs 7) ∧ v_iv (n_v vs 7) ≤ 0 := tv_rng t7
  obtain ⟨t9, hk⟩ := List.forall_mem_cons.mp hk
  have t9 : tv_ok ta (0, 1, 7, []) (n_v vs 9) := t9
  have k9 : 1 ≤ v_iv (n_v vs 9) ∧ v_iv (n_v vs 9) ≤ 7 := tv_rng t9
  obtain ⟨t10, hk⟩ := List.forall_mem_cons.mp hk
  have t10 : tv_ok ta (0, 2, 8, []) (n_v vs 10) := t10
  have k10 : 2 ≤ v_iv (n_v vs 10) ∧ v_iv (n_v vs 10) ≤ 8 := tv_rng t10
  obtain ⟨t12, hk⟩ := List.forall_mem_cons.mp hk
  have t12 : tv_ok ta (0, 0, 0, []) (n_v vs 12) := t12
  have k12 : 0 ≤ v_iv (n_v vs 12) ∧ v_iv (n_v vs 12) ≤ 0 := tv_rng t12
  obtain ⟨t15, hk⟩ := List.forall_mem_cons.mp hk
  have t15 : tv_ok ta (0, 0, 99999994, []) (n_v vs 15) := t15
  have k15 : 0 ≤ v_iv (n_v vs 15) ∧ v_iv (n_v vs 15) ≤ 99999994 := tv_rng t15
  have hds : ∀ q ∈ ([(9, 10, -4294967296, -1), (7, 4, -4294967296, 0), (7, 9, -4294967296, -1)] : List of_T), n_iv vs q.2.1 + q.2.2.1 ≤ n_iv vs q.1 ∧ n_iv vs q.1 ≤ n_iv vs q.2.1 + q.2.2.2 := hds
  obtain ⟨d0, hds⟩ := List.forall_mem_cons.mp hds
  have d0 : v_iv (n_v vs 10) + (-4294967296) ≤ v_iv (n_v vs 9) ∧ v_iv (n_v vs 9) ≤ v_iv (n_v vs 10) + (-1) := d0
  obtain ⟨d1, hds⟩ := List.forall_mem_cons.mp hds
  have d1 : v_iv (n_v vs 4) + (-4294967296) ≤ v_iv (n_v vs 7) ∧ v_iv (n_v vs 7) ≤ v_iv (n_v vs 4) + 0 := d1
  obtain ⟨d2, hds⟩ := List.forall_mem_cons.mp hds
  have d2 : v_iv (n_v vs 9) + (-4294967296) ≤ v_iv (n_v vs 7) ∧ v_iv (n_v vs 7) ≤ v_iv (n_v vs 9) + (-1) := d2
  have hf : fc_ok [(23, [15, 4, 9, 7], [-3570859, 1, -1, -3571603, 3571603]), (24, [0, 5], []), (20, [5, 15], [30, 6, 1, 1, 12, -1, 0, 0]), (102, [15], [261336857795280739939871698507597986398208, 12012]), (23, [15, 4, 9, 7], [-3570859, 1, -1, -3571603, 3571603]), (7, [12, 7], [0]), (7, [9, 10], [2])] ta ws vs := hf
  obtain ⟨f0, hf⟩ := fc_un (show (23 : Nat) < 100 from by decide) hf
  have f0 : 1 * v_iv (n_v vs 15) + ((-1) * v_iv (n_v vs 4) + ((-3571603) * v_iv (n_v vs 9) + (3571603 * v_iv (n_v vs 7) + 0))) ≤ (-3570859) := f0
  obtain ⟨f1, hf⟩ := fc_un (show (24 : Nat) < 100 from by decide) hf
  have f1 : n_v vs 0 = n_v vs 5 := f1
  obtain ⟨f2, hf⟩ := fc_un (show (20 : Nat) < 100 from by decide) hf
  have f2 : 1 * w_fi ws (n_v vs 5) 12 + ((-1) * v_iv (n_v vs 15) + 0) ≤ 6 := f2
  obtain ⟨ta1, w1, le1, ⟨_, s1⟩, hf⟩ := fc_us (show ¬ (102 : Nat) < 100 from by decide) hf
  obtain ⟨f4, hf⟩ := fc_un (show (23 : Nat) < 100 from by decide) hf
  have f4 : 1 * v_iv (n_v vs 15) + ((-1) * v_iv (n_v vs 4) + ((-3571603) * v_iv (n_v vs 9) + (3571603 * v_iv (n_v vs 7) + 0))) ≤ (-3570859) := f4
  obtain ⟨f5, hf⟩ := fc_un (show (7 : Nat) < 100 from by decide) hf
  have f5 : v_iv (n_v vs 12) = v_iv (n_v vs 7) := f5
  obtain ⟨f6, hf⟩ := fc_un (show (7 : Nat) < 100 from by decide) hf
  have f6 : v_iv (n_v vs 9) < v_iv (n_v vs 10) := f6
  have q5 : n_v vs 5 = n_v vs 0 := f1.symm
  rw [q5] at f2
  have kz_0_12 : 0 ≤ w_fi ws (n_v vs 0) 12 ∧ w_fi ws (n_v vs 0) 12 ≤ 100000000 := tv_rng (th_fd hD hth r0 (g := GG_12) rfl (k := 12) (t := (0, 0, 100000000, [])) rfl rfl)
  have kv0 : 0 ≤ w_fi ws (n_v vs 0) 12 ∧ w_fi ws (n_v vs 0) 12 ≤ 100000000 := tv_rng (th_fd hD hth r0 (g := GG_12) rfl (k := 12) (t := (0, 0, 100000000, [])) rfl rfl)
  obtain ⟨x, ex, hx⟩ := iv_ex (ta := ta) (lo := 0) (hi := 99999992) (z := w_fi ws (n_v vs 0) 12) (by omega) (by omega) (by omega) (by omega)
  have ex2 : v_iv (Value.int x) = w_fi ws (n_v vs 0) 12 := ex
  have ex3 : 0 ≤ v_iv (Value.int x) ∧ v_iv (Value.int x) ≤ 99999992 := tv_rng hx
  have e_4 : n_v (vs ++ [Value.int x]) 4 = n_v vs 4 := n_v_old (by rw [hl]; decide)
  have e_5 : n_v (vs ++ [Value.int x]) 5 = n_v vs 5 := n_v_old (by rw [hl]; decide)
  have e_7 : n_v (vs ++ [Value.int x]) 7 = n_v vs 7 := n_v_old (by rw [hl]; decide)
  have e_9 : n_v (vs ++ [Value.int x]) 9 = n_v vs 9 := n_v_old (by rw [hl]; decide)
  have e_19 : n_v (vs ++ [Value.int x]) 19 = Value.int x := n_v_new hl
  have nf0 : fc_1 (20, [5, 19], [30, 0, 1, 1, 12, -1, 0, 0]) ws (vs ++ [Value.int x]) := by
    refine ⟨fun n hn => ?_, ?_⟩
    · have hn : n ∈ [5, 19] := hn
      rw [List.length_append, hl]
      simp only [List.mem_cons, List.not_mem_nil, or_false] at hn
      show n < 19 + 1; omega
    · show 1 * w_fi ws (n_v (vs ++ [Value.int x]) 5) 12 + ((-1) * v_iv (n_v (vs ++ [Value.int x]) 19) + 0) ≤ 0
      rw [e_5]
      rw [e_19]
      rw [q5]
      omega
  have nf1 : fc_1 (23, [19, 4, 9, 7], [-3570853, 1, -1, -3571603, 3571603]) ws (vs ++ [Value.int x]) := by
    refine ⟨fun n hn => ?_, ?_⟩
    · have hn : n ∈ [19, 4, 9, 7] := hn
      rw [List.length_append, hl]
      simp only [List.mem_cons, List.not_mem_nil, or_false] at hn
      show n < 19 + 1; omega
    · show 1 * v_iv (n_v (vs ++ [Value.int x]) 19) + ((-1) * v_iv (n_v (vs ++ [Value.int x]) 4) + ((-3571603) * v_iv (n_v (vs ++ [Value.int x]) 9) + (3571603 * v_iv (n_v (vs ++ [Value.int x]) 7) + 0))) ≤ (-3570853)
      rw [e_4]
      rw [e_7]
      rw [e_9]
      rw [e_19]
      omega
  exact ⟨(fun _ h => (by cases h)), [Value.int x], ag_one hx, List.forall_mem_cons.mpr ⟨⟨show (20 : Nat) < 100 from by decide, nf0⟩, List.forall_mem_cons.mpr ⟨⟨show (23 : Nat) < 100 from by decide, nf1⟩, (fun _ h => (by cases h))⟩⟩, (fun _ h => (by cases h))⟩
def o_Ho_writeGroup_at_k0_16 : or_T := (153, 21, [(0, (2, 0, 0, [12])), (4, (0, 0, 71426432, [])), (5, (2, 0, 0, [12])), (7, (0, 0, 0, [])), (9, (0, 1, 7, [])), (10, (0, 2, 8, [])), (12, (0, 0, 0, [])), (15, (0, 0, 99999994, [])), (19, (0, 0, 99999992, []))], [(23, [19, 4, 9, 7], [-3570853, 1, -1, -3571603, 3571603]), (23, [15, 4, 9, 7], [-3570859, 1, -1, -3571603, 3571603]), (24, [0, 5], []), (20, [5, 19], [30, 8, 1, 1, 12, -1, 0, 0]), (102, [19], [261336857795280739939871698507597986398208, 12012]), (23, [19, 4, 9, 7], [-3570853, 1, -1, -3571603, 3571603]), (23, [15, 4, 9, 7], [-3570859, 1, -1, -3571603, 3571603]), (102, [15], [261336857795280739939871698507597986398208, 12012]), (23, [15, 4, 9, 7], [-3570859, 1, -1, -3571603, 3571603]), (7, [12, 7], [0]), (7, [9, 10], [2])], [], [(0, 0, 99999997, [])], [(20, [5, 21], [30, 0, 1, 1, 12, -1, 0, 0]), (23, [21, 4, 9, 7], [-3570845, 1, -1, -3571603, 3571603])], [], [(9, 10, -4294967296, -1), (7, 4, -4294967296, 0), (7, 9, -4294967296, -1)])
theorem oo_Ho_writeGroup_at_k0_16 {kA : Nat → ClassId} : or_ok kA GG o_Ho_writeGroup_at_k0_16 := by
  intro A ta ws vs hD hth hl hk hds hf
  have hl : vs.length = 21 := hl
  have hk : ∀ q ∈ ([(0, (2, 0, 0, [12])), (4, (0, 0, 71426432, [])), (5, (2, 0, 0, [12])), (7, (0, 0, 0, [])), (9, (0, 1, 7, [])), (10, (0, 2, 8, [])), (12, (0, 0, 0, [])), (15, (0, 0, 99999994, [])), (19, (0, 0, 99999992, []))] : List (Nat × tv_T)), tv_ok ta q.2 (n_v vs q.1) := hk
  obtain ⟨t0, hk⟩ := List.forall_mem_cons.mp hk
  have t0 : tv_ok ta (2, 0, 0, [12]) (n_v vs 0) := t0
  have r0 : ta (v_ad (n_v vs 0)) = some 12 := tv_rg t0
  obtain ⟨t4, hk⟩ := List.forall_mem_cons.mp hk
  have t4 : tv_ok ta (0, 0, 71426432, []) (n_v vs 4) := t4
  have k4 : 0 ≤ v_iv (n_v vs 4) ∧ v_iv (n_v vs 4) ≤ 71426432 := tv_rng t4
  obtain ⟨t5, hk⟩ := List.forall_mem_cons.mp hk
  have t5 : tv_ok ta (2, 0, 0, [12]) (n_v vs 5) := t5
  have r5 : ta (v_ad (n_v vs 5)) = some 12 := tv_rg t5
  obtain ⟨t7, hk⟩ := List.forall_mem_cons.mp hk
  have t7 : tv_ok ta (0, 0, 0, []) (n_v vs 7) := t7
  have k7 : 0 ≤ v_iv (n_v vs 7) ∧ v_iv (n_v vs 7) ≤ 0 := tv_rng t7
  obtain ⟨t9, hk⟩ := List.forall_mem_cons.mp hk
  have t9 : tv_ok ta (0, 1, 7, []) (n_v vs 9) := t9
  have k9 : 1 ≤ v_iv (n_v vs 9) ∧ v_iv (n_v vs 9) ≤ 7 := tv_rng t9
  obtain ⟨t10, hk⟩ := List.forall_mem_cons.mp hk
  have t10 : tv_ok ta (0, 2, 8, []) (n_v vs 10) := t10
  have k10 : 2 ≤ v_iv (n_v vs 10) ∧ v_iv (n_v vs 10) ≤ 8 := tv_rng t10
  obtain ⟨t12, hk⟩ := List.forall_mem_cons.mp hk
  have t12 : tv_ok ta (0, 0, 0, []) (n_v vs 12) := t12
  have k12 : 0 ≤ v_iv (n_v vs 12) ∧ v_iv (n_v vs 12) ≤ 0 := tv_rng t12
  obtain ⟨t15, hk⟩ := List.forall_mem_cons.mp hk
  have t15 : tv_ok ta (0, 0, 99999994, []) (n_v vs 15) := t15
  have k15 : 0 ≤ v_iv (n_v vs 15) ∧ v_iv (n_v vs 15) ≤ 99999994 := tv_rng t15
  obtain ⟨t19, hk⟩ := List.forall_mem_cons.mp hk
  have t19 : tv_ok ta (0, 0, 99999992, []) (n_v vs 19) := t19
  have k19 : 0 ≤ v_iv (n_v vs 19) ∧ v_iv (n_v vs 19) ≤ 99999992 := tv_rng t19
  have hds : ∀ q ∈ ([(9, 10, -4294967296, -1), (7, 4, -4294967296, 0), (7, 9, -4294967296, -1)] : List of_T), n_iv vs q.2.1 + q.2.2.1 ≤ n_iv vs q.1 ∧ n_iv vs q.1 ≤ n_iv vs q.2.1 + q.2.2.2 := hds
  obtain ⟨d0, hds⟩ := List.forall_mem_cons.mp hds
  have d0 : v_iv (n_v vs 10) + (-4294967296) ≤ v_iv (n_v vs 9) ∧ v_iv (n_v vs 9) ≤ v_iv (n_v vs 10) + (-1) := d0
  obtain ⟨d1, hds⟩ := List.forall_mem_cons.mp hds
  have d1 : v_iv (n_v vs 4) + (-4294967296) ≤ v_iv (n_v vs 7) ∧ v_iv (n_v vs 7) ≤ v_iv (n_v vs 4) + 0 := d1
  obtain ⟨d2, hds⟩ := List.forall_mem_cons.mp hds
  have d2 : v_iv (n_v vs 9) + (-4294967296) ≤ v_iv (n_v vs 7) ∧ v_iv (n_v vs 7) ≤ v_iv (n_v vs 9) + (-1) := d2
  have hf : fc_ok [(23, [19, 4, 9, 7], [-3570853, 1, -1, -3571603, 3571603]), (23, [15, 4, 9, 7], [-3570859, 1, -1, -3571603, 3571603]), (24, [0, 5], []), (20, [5, 19], [30, 8, 1, 1, 12, -1, 0, 0]), (102, [19], [261336857795280739939871698507597986398208, 12012]), (23, [19, 4, 9, 7], [-3570853, 1, -1, -3571603, 3571603]), (23, [15, 4, 9, 7], [-3570859, 1, -1, -3571603, 3571603]), (102, [15], [261336857795280739939871698507597986398208, 12012]), (23, [15, 4, 9, 7], [-3570859, 1, -1, -3571603, 3571603]), (7, [12, 7], [0]), (7, [9, 10], [2])] ta ws vs := hf
  obtain ⟨f0, hf⟩ := fc_un (show (23 : Nat) < 100 from by decide) hf
  have f0 : 1 * v_iv (n_v vs 19) + ((-1) * v_iv (n_v vs 4) + ((-3571603) * v_iv (n_v vs 9) + (3571603 * v_iv (n_v vs 7) + 0))) ≤ (-3570853) := f0
  obtain ⟨f1, hf⟩ := fc_un (show (23 : Nat) < 100 from by decide) hf
  have f1 : 1 * v_iv (n_v vs 15) + ((-1) * v_iv (n_v vs 4) + ((-3571603) * v_iv (n_v vs 9) + (3571603 * v_iv (n_v vs 7) + 0))) ≤ (-3570859) := f1
  obtain ⟨f2, hf⟩ := fc_un (show (24 : Nat) < 100 from by decide) hf
  have f2 : n_v vs 0 = n_v vs 5 := f2
  obtain ⟨f3, hf⟩ := fc_un (show (20 : Nat) < 100 from by decide) hf
  have f3 : 1 * w_fi ws (n_v vs 5) 12 + ((-1) * v_iv (n_v vs 19) + 0) ≤ 8 := f3
  obtain ⟨ta1, w1, le1, ⟨_, s1⟩, hf⟩ := fc_us (show ¬ (102 : Nat) < 100 from by decide) hf
  obtain ⟨f5, hf⟩ := fc_un (show (23 : Nat) < 100 from by decide) hf
  have f5 : 1 * v_iv (n_v vs 19) + ((-1) * v_iv (n_v vs 4) + ((-3571603) * v_iv (n_v vs 9) + (3571603 * v_iv (n_v vs 7) + 0))) ≤ (-3570853) := f5
  obtain ⟨f6, hf⟩ := fc_un (show (23 : Nat) < 100 from by decide) hf
  have f6 : 1 * v_iv (n_v vs 15) + ((-1) * v_iv (n_v vs 4) + ((-3571603) * v_iv (n_v vs 9) + (3571603 * v_iv (n_v vs 7) + 0))) ≤ (-3570859) := f6
  obtain ⟨ta2, w2, le2, ⟨_, s2⟩, hf⟩ := fc_us (show ¬ (102 : Nat) < 100 from by decide) hf
  obtain ⟨f8, hf⟩ := fc_un (show (23 : Nat) < 100 from by decide) hf
  have f8 : 1 * v_iv (n_v vs 15) + ((-1) * v_iv (n_v vs 4) + ((-3571603) * v_iv (n_v vs 9) + (3571603 * v_iv (n_v vs 7) + 0))) ≤ (-3570859) := f8
  obtain ⟨f9, hf⟩ := fc_un (show (7 : Nat) < 100 from by decide) hf
  have f9 : v_iv (n_v vs 12) = v_iv (n_v vs 7) := f9
  obtain ⟨f10, hf⟩ := fc_un (show (7 : Nat) < 100 from by decide) hf
  have f10 : v_iv (n_v vs 9) < v_iv (n_v vs 10) := f10
  have q5 : n_v vs 5 = n_v vs 0 := f2.symm
  rw [q5] at f3
  have kz_0_12 : 0 ≤ w_fi ws (n_v vs 0) 12 ∧ w_fi ws (n_v vs 0) 12 ≤ 100000000 := tv_rng (th_fd hD hth r0 (g := GG_12) rfl (k := 12) (t := (0, 0, 100000000, [])) rfl rfl)
  have kv0 : 0 ≤ w_fi ws (n_v vs 0) 12 ∧ w_fi ws (n_v vs 0) 12 ≤ 100000000 := tv_rng (th_fd hD hth r0 (g := GG_12) rfl (k := 12) (t := (0, 0, 100000000, [])) rfl rfl)
  obtain ⟨x, ex, hx⟩ := iv_ex (ta := ta) (lo := 0) (hi := 99999997) (z := w_fi ws (n_v vs 0) 12) (by omega) (by omega) (by omega) (by omega)
  have ex2 : v_iv (Value.int x) = w_fi ws (n_v vs 0) 12 := ex
  have ex3 : 0 ≤ v_iv (Value.int x) ∧ v_iv (Value.int x) ≤ 99999997 := tv_rng hx
  have e_4 : n_v (vs ++ [Value.int x]) 4 = n_v vs 4 := n_v_old (by rw [hl]; decide)
  have e_5 : n_v (vs ++ [Value.int x]) 5 = n_v vs 5 := n_v_old (by rw [hl]; decide)
  have e_7 : n_v (vs ++ [Value.int x]) 7 = n_v vs 7 := n_v_old (by rw [hl]; decide)
  have e_9 : n_v (vs ++ [Value.int x]) 9 = n_v vs 9 := n_v_old (by rw [hl]; decide)
  have e_21 : n_v (vs ++ [Value.int x]) 21 = Value.int x := n_v_new hl
  have nf0 : fc_1 (20, [5, 21], [30, 0, 1, 1, 12, -1, 0, 0]) ws (vs ++ [Value.int x]) := by
    refine ⟨fun n hn => ?_, ?_⟩
    · have hn : n ∈ [5, 21] := hn
      rw [List.length_append, hl]
      simp only [List.mem_cons, List.not_mem_nil, or_false] at hn
      show n < 21 + 1; omega
    · show 1 * w_fi ws (n_v (vs ++ [Value.int x]) 5) 12 + ((-1) * v_iv (n_v (vs ++ [Value.int x]) 21) + 0) ≤ 0
      rw [e_5]
      rw [e_21]
      rw [q5]
      omega
  have nf1 : fc_1 (23, [21, 4, 9, 7], [-3570845, 1, -1, -3571603, 3571603]) ws (vs ++ [Value.int x]) := by
    refine ⟨fun n hn => ?_, ?_⟩
    · have hn : n ∈ [21, 4, 9, 7] := hn
      rw [List.length_append, hl]
      simp only [List.mem_cons, List.not_mem_nil, or_false] at hn
      show n < 21 + 1; omega
    · show 1 * v_iv (n_v (vs ++ [Value.int x]) 21) + ((-1) * v_iv (n_v (vs ++ [Value.int x]) 4) + ((-3571603) * v_iv (n_v (vs ++ [Value.int x]) 9) + (3571603 * v_iv (n_v (vs ++ [Value.int x]) 7) + 0))) ≤ (-3570845)
      rw [e_4]
      rw [e_7]
      rw [e_9]
      rw [e_21]
      omega
  exact ⟨(fun _ h => (by cases h)), [Value.int x], ag_one hx, List.forall_mem_cons.mpr ⟨⟨show (20 : Nat) < 100 from by decide, nf0⟩, List.forall_mem_cons.mpr ⟨⟨show (23 : Nat) < 100 from by decide, nf1⟩, (fun _ h => (by cases h))⟩⟩, (fun _ h => (by cases h))⟩
def o_Ho_writeGroup_at_k0_17 : or_T := (163, 24, [(0, (2, 0, 0, [12])), (4, (0, 0, 71426432, [])), (5, (2, 0, 0, [12])), (7, (0, 0, 0, [])), (9, (0, 1, 7, [])), (10, (0, 2, 8, [])), (12, (0, 0, 0, [])), (15, (0, 0, 99999994, [])), (19, (0, 0, 99999992, [])), (21, (0, 0, 99999997, []))], [(23, [21, 4, 9, 7], [-3570845, 1, -1, -3571603, 3571603]), (23, [19, 4, 9, 7], [-3570853, 1, -1, -3571603, 3571603]), (23, [15, 4, 9, 7], [-3570859, 1, -1, -3571603, 3571603]), (24, [0, 5], []), (20, [5, 21], [30, 3, 1, 1, 12, -1, 0, 0]), (102, [21], [261336857795280739939871698507597986398208, 12012]), (23, [21, 4, 9, 7], [-3570845, 1, -1, -3571603, 3571603]), (23, [19, 4, 9, 7], [-3570853, 1, -1, -3571603, 3571603]), (23, [15, 4, 9, 7], [-3570859, 1, -1, -3571603, 3571603]), (102, [19], [261336857795280739939871698507597986398208, 12012]), (23, [19, 4, 9, 7], [-3570853, 1, -1, -3571603, 3571603]), (23, [15, 4, 9, 7], [-3570859, 1, -1, -3571603, 3571603]), (102, [15], [261336857795280739939871698507597986398208, 12012]), (23, [15, 4, 9, 7], [-3570859, 1, -1, -3571603, 3571603]), (7, [12, 7], [0]), (7, [9, 10], [2])], [], [(0, 0, 96428416, [])], [(20, [5, 24], [30, 0, 1, 1, 12, -1, 0, 0]), (23, [24, 4, 9, 7], [-3570842, 1, -1, -3571603, 3571603])], [], [(9, 10, -4294967296, -1), (7, 4, -4294967296, 0), (7, 9, -4294967296, -1)])
theorem oo_Ho_writeGroup_at_k0_17 {kA : Nat → ClassId} : or_ok kA GG o_Ho_writeGroup_at_k0_17 := by
  intro A ta ws vs hD hth hl hk hds hf
  have hl : vs.length = 24 := hl
  have hk : ∀ q ∈ ([(0, (2, 0, 0, [12])), (4, (0, 0, 71426432, [])), (5, (2, 0, 0, [12])), (7, (0, 0, 0, [])), (9, (0, 1, 7, [])), (10, (0, 2, 8, [])), (12, (0, 0, 0, [])), (15, (0, 0, 99999994, [])), (19, (0, 0, 99999992, [])), (21, (0, 0, 99999997, []))] : List (Nat × tv_T)), tv_ok ta q.2 (n_v vs q.1) := hk
  obtain ⟨t0, hk⟩ := List.forall_mem_cons.mp hk
  have t0 : tv_ok ta (2, 0, 0, [12]) (n_v vs 0) := t0
  have r0 : ta (v_ad (n_v vs 0)) = some 12 := tv_rg t0
  obtain ⟨t4, hk⟩ := List.forall_mem_cons.mp hk
  have t4 : tv_ok ta (0, 0, 71426432, []) (n_v vs 4) := t4
  have k4 : 0 ≤ v_iv (n_v vs 4) ∧ v_iv (n_v vs 4) ≤ 71426432 := tv_rng t4
  obtain ⟨t5, hk⟩ := List.forall_mem_cons.mp hk
  have t5 : tv_ok ta (2, 0, 0, [12]) (n_v vs 5) := t5
  have r5 : ta (v_ad (n_v vs 5)) = some 12 := tv_rg t5
  obtain ⟨t7, hk⟩ := List.forall_mem_cons.mp hk
  have t7 : tv_ok ta (0, 0, 0, []) (n_v vs 7) := t7
  have k7 : 0 ≤ v_iv (n_v vs 7) ∧ v_iv (n_v vs 7) ≤ 0 := tv_rng t7
  obtain ⟨t9, hk⟩ := List.forall_mem_cons.mp hk
  have t9 : tv_ok ta (0, 1, 7, []) (n_v vs 9) := t9
  have k9 : 1 ≤ v_iv (n_v vs 9) ∧ v_iv (n_v vs 9) ≤ 7 := tv_rng t9
  obtain ⟨t10, hk⟩ := List.forall_mem_cons.mp hk
  have t10 : tv_ok ta (0, 2, 8, []) (n_v vs 10) := t10
  have k10 : 2 ≤ v_iv (n_v vs 10) ∧ v_iv (n_v vs 10) ≤ 8 := tv_rng t10
  obtain ⟨t12, hk⟩ := List.forall_mem_cons.mp hk
  have t12 : tv_ok ta (0, 0, 0, []) (n_v vs 12) := t12
  have k12 : 0 ≤ v_iv (n_v vs 12) ∧ v_iv (n_v vs 12) ≤ 0 := tv_rng t12
  obtain ⟨t15, hk⟩ := List.forall_mem_cons.mp hk
  have t15 : tv_ok ta (0, 0, 99999994, []) (n_v vs 15) := t15
  have k15 : 0 ≤ v_iv (n_v vs 15) ∧ v_iv (n_v vs 15) ≤ 99999994 := tv_rng t15
  obtain ⟨t19, hk⟩ := List.forall_mem_cons.mp hk
  have t19 : tv_ok ta (0, 0, 99999992, []) (n_v vs 19) := t19
  have k19 : 0 ≤ v_iv (n_v vs 19) ∧ v_iv (n_v vs 19) ≤ 99999992 := tv_rng t19
  obtain ⟨t21, hk⟩ := List.forall_mem_cons.mp hk
  have t21 : tv_ok ta (0, 0, 99999997, []) (n_v vs 21) := t21
  have k21 : 0 ≤ v_iv (n_v vs 21) ∧ v_iv (n_v vs 21) ≤ 99999997 := tv_rng t21
  have hds : ∀ q ∈ ([(9, 10, -4294967296, -1), (7, 4, -4294967296, 0), (7, 9, -4294967296, -1)] : List of_T), n_iv vs q.2.1 + q.2.2.1 ≤ n_iv vs q.1 ∧ n_iv vs q.1 ≤ n_iv vs q.2.1 + q.2.2.2 := hds
  obtain ⟨d0, hds⟩ := List.forall_mem_cons.mp hds
  have d0 : v_iv (n_v vs 10) + (-4294967296) ≤ v_iv (n_v vs 9) ∧ v_iv (n_v vs 9) ≤ v_iv (n_v vs 10) + (-1) := d0
  obtain ⟨d1, hds⟩ := List.forall_mem_cons.mp hds
  have d1 : v_iv (n_v vs 4) + (-4294967296) ≤ v_iv (n_v vs 7) ∧ v_iv (n_v vs 7) ≤ v_iv (n_v vs 4) + 0 := d1
  obtain ⟨d2, hds⟩ := List.forall_mem_cons.mp hds
  have d2 : v_iv (n_v vs 9) + (-4294967296) ≤ v_iv (n_v vs 7) ∧ v_iv (n_v vs 7) ≤ v_iv (n_v vs 9) + (-1) := d2
  have hf : fc_ok [(23, [21, 4, 9, 7], [-3570845, 1, -1, -3571603, 3571603]), (23, [19, 4, 9, 7], [-3570853, 1, -1, -3571603, 3571603]), (23, [15, 4, 9, 7], [-3570859, 1, -1, -3571603, 3571603]), (24, [0, 5], []), (20, [5, 21], [30, 3, 1, 1, 12, -1, 0, 0]), (102, [21], [261336857795280739939871698507597986398208, 12012]), (23, [21, 4, 9, 7], [-3570845, 1, -1, -3571603, 3571603]), (23, [19, 4, 9, 7], [-3570853, 1, -1, -3571603, 3571603]), (23, [15, 4, 9, 7], [-3570859, 1, -1, -3571603, 3571603]), (102, [19], [261336857795280739939871698507597986398208, 12012]), (23, [19, 4, 9, 7], [-3570853, 1, -1, -3571603, 3571603]), (23, [15, 4, 9, 7], [-3570859, 1, -1, -3571603, 3571603]), (102, [15], [261336857795280739939871698507597986398208, 12012]), (23, [15, 4, 9, 7], [-3570859, 1, -1, -3571603, 3571603]), (7, [12, 7], [0]), (7, [9, 10], [2])] ta ws vs := hf
  obtain ⟨f0, hf⟩ := fc_un (show (23 : Nat) < 100 from by decide) hf
  have f0 : 1 * v_iv (n_v vs 21) + ((-1) * v_iv (n_v vs 4) + ((-3571603) * v_iv (n_v vs 9) + (3571603 * v_iv (n_v vs 7) + 0))) ≤ (-3570845) := f0
  obtain ⟨f1, hf⟩ := fc_un (show (23 : Nat) < 100 from by decide) hf
  have f1 : 1 * v_iv (n_v vs 19) + ((-1) * v_iv (n_v vs 4) + ((-3571603) * v_iv (n_v vs 9) + (3571603 * v_iv (n_v vs 7) + 0))) ≤ (-3570853) := f1
  obtain ⟨f2, hf⟩ := fc_un (show (23 : Nat) < 100 from by decide) hf
  have f2 : 1 * v_iv (n_v vs 15) + ((-1) * v_iv (n_v vs 4) + ((-3571603) * v_iv (n_v vs 9) + (3571603 * v_iv (n_v vs 7) + 0))) ≤ (-3570859) := f2
  obtain ⟨f3, hf⟩ := fc_un (show (24 : Nat) < 100 from by decide) hf
  have f3 : n_v vs 0 = n_v vs 5 := f3
  obtain ⟨f4, hf⟩ := fc_un (show (20 : Nat) < 100 from by decide) hf
  have f4 : 1 * w_fi ws (n_v vs 5) 12 + ((-1) * v_iv (n_v vs 21) + 0) ≤ 3 := f4
  obtain ⟨ta1, w1, le1, ⟨_, s1⟩, hf⟩ := fc_us (show ¬ (102 : Nat) < 100 from by decide) hf
  obtain ⟨f6, hf⟩ := fc_un (show (23 : Nat) < 100 from by decide) hf
  have f6 : 1 * v_iv (n_v vs 21) + ((-1) * v_iv (n_v vs 4) + ((-3571603) * v_iv (n_v vs 9) + (3571603 * v_iv (n_v vs 7) + 0))) ≤ (-3570845) := f6
  obtain ⟨f7, hf⟩ := fc_un (show (23 : Nat) < 100 from by decide) hf
  have f7 : 1 * v_iv (n_v vs 19) + ((-1) * v_iv (n_v vs 4) + ((-3571603) * v_iv (n_v vs 9) + (3571603 * v_iv (n_v vs 7) + 0))) ≤ (-3570853) := f7
  obtain ⟨f8, hf⟩ := fc_un (show (23 : Nat) < 100 from by decide) hf
  have f8 : 1 * v_iv (n_v vs 15) + ((-1) * v_iv (n_v vs 4) + ((-3571603) * v_iv (n_v vs 9) + (3571603 * v_iv (n_v vs 7) + 0))) ≤ (-3570859) := f8
  obtain ⟨ta2, w2, le2, ⟨_, s2⟩, hf⟩ := fc_us (show ¬ (102 : Nat) < 100 from by decide) hf
  obtain ⟨f10, hf⟩ := fc_un (show (23 : Nat) < 100 from by decide) hf
  have f10 : 1 * v_iv (n_v vs 19) + ((-1) * v_iv (n_v vs 4) + ((-3571603) * v_iv (n_v vs 9) + (3571603 * v_iv (n_v vs 7) + 0))) ≤ (-3570853) := f10
  obtain ⟨f11, hf⟩ := fc_un (show (23 : Nat) < 100 from by decide) hf
  have f11 : 1 * v_iv (n_v vs 15) + ((-1) * v_iv (n_v vs 4) + ((-3571603) * v_iv (n_v vs 9) + (3571603 * v_iv (n_v vs 7) + 0))) ≤ (-3570859) := f11
  obtain ⟨ta3, w3, le3, ⟨_, s3⟩, hf⟩ := fc_us (show ¬ (102 : Nat) < 100 from by decide) hf
  obtain ⟨f13, hf⟩ := fc_un (show (23 : Nat) < 100 from by decide) hf
  have f13 : 1 * v_iv (n_v vs 15) + ((-1) * v_iv (n_v vs 4) + ((-3571603) * v_iv (n_v vs 9) + (3571603 * v_iv (n_v vs 7) + 0))) ≤ (-3570859) := f13
  obtain ⟨f14, hf⟩ := fc_un (show (7 : Nat) < 100 from by decide) hf
  have f14 : v_iv (n_v vs 12) = v_iv (n_v vs 7) := f14
  obtain ⟨f15, hf⟩ := fc_un (show (7 : Nat) < 100 from by decide) hf
  have f15 : v_iv (n_v vs 9) < v_iv (n_v vs 10) := f15
  have q5 : n_v vs 5 = n_v vs 0 := f3.symm
  rw [q5] at f4
  have kz_0_12 : 0 ≤ w_fi ws (n_v vs 0) 12 ∧ w_fi ws (n_v vs 0) 12 ≤ 100000000 := tv_rng (th_fd hD hth r0 (g := GG_12) rfl (k := 12) (t := (0, 0, 100000000, [])) rfl rfl)
  have kv0 : 0 ≤ w_fi ws (n_v vs 0) 12 ∧ w_fi ws (n_v vs 0) 12 ≤ 100000000 := tv_rng (th_fd hD hth r0 (g := GG_12) rfl (k := 12) (t := (0, 0, 100000000, [])) rfl rfl)
  obtain ⟨x, ex, hx⟩ := iv_ex (ta := ta) (lo := 0) (hi := 96428416) (z := w_fi ws (n_v vs 0) 12) (by omega) (by omega) (by omega) (by omega)
  have ex2 : v_iv (Value.int x) = w_fi ws (n_v vs 0) 12 := ex
  have ex3 : 0 ≤ v_iv (Value.int x) ∧ v_iv (Value.int x) ≤ 96428416 := tv_rng hx
  have e_4 : n_v (vs ++ [Value.int x]) 4 = n_v vs 4 := n_v_old (by rw [hl]; decide)
  have e_5 : n_v (vs ++ [Value.int x]) 5 = n_v vs 5 := n_v_old (by rw [hl]; decide)
  have e_7 : n_v (vs ++ [Value.int x]) 7 = n_v vs 7 := n_v_old (by rw [hl]; decide)
  have e_9 : n_v (vs ++ [Value.int x]) 9 = n_v vs 9 := n_v_old (by rw [hl]; decide)
  have e_24 : n_v (vs ++ [Value.int x]) 24 = Value.int x := n_v_new hl
  have nf0 : fc_1 (20, [5, 24], [30, 0, 1, 1, 12, -1, 0, 0]) ws (vs ++ [Value.int x]) := by
    refine ⟨fun n hn => ?_, ?_⟩
    · have hn : n ∈ [5, 24] := hn
      rw [List.length_append, hl]
      simp only [List.mem_cons, List.not_mem_nil, or_false] at hn
      show n < 24 + 1; omega
    · show 1 * w_fi ws (n_v (vs ++ [Value.int x]) 5) 12 + ((-1) * v_iv (n_v (vs ++ [Value.int x]) 24) + 0) ≤ 0
      rw [e_5]
      rw [e_24]
      rw [q5]
      omega
  have nf1 : fc_1 (23, [24, 4, 9, 7], [-3570842, 1, -1, -3571603, 3571603]) ws (vs ++ [Value.int x]) := by
    refine ⟨fun n hn => ?_, ?_⟩
    · have hn : n ∈ [24, 4, 9, 7] := hn
      rw [List.length_append, hl]
      simp only [List.mem_cons, List.not_mem_nil, or_false] at hn
      show n < 24 + 1; omega
    · show 1 * v_iv (n_v (vs ++ [Value.int x]) 24) + ((-1) * v_iv (n_v (vs ++ [Value.int x]) 4) + ((-3571603) * v_iv (n_v (vs ++ [Value.int x]) 9) + (3571603 * v_iv (n_v (vs ++ [Value.int x]) 7) + 0))) ≤ (-3570842)
      rw [e_4]
      rw [e_7]
      rw [e_9]
      rw [e_24]
      omega
  exact ⟨(fun _ h => (by cases h)), [Value.int x], ag_one hx, List.forall_mem_cons.mpr ⟨⟨show (20 : Nat) < 100 from by decide, nf0⟩, List.forall_mem_cons.mpr ⟨⟨show (23 : Nat) < 100 from by decide, nf1⟩, (fun _ h => (by cases h))⟩⟩, (fun _ h => (by cases h))⟩
def o_Ho_writeGroup_at_k0_18 : or_T := (170, 26, [(0, (2, 0, 0, [12])), (4, (0, 0, 71426432, [])), (5, (2, 0, 0, [12])), (7, (0, 0, 0, [])), (9, (0, 1, 7, [])), (10, (0, 2, 8, [])), (12, (0, 0, 0, [])), (15, (0, 0, 99999994, [])), (19, (0, 0, 99999992, [])), (21, (0, 0, 99999997, [])), (24, (0, 0, 96428416, []))], [(23, [24, 4, 9, 7], [-3570842, 1, -1, -3571603, 3571603]), (23, [21, 4, 9, 7], [-3570845, 1, -1, -3571603, 3571603]), (23, [19, 4, 9, 7], [-3570853, 1, -1, -3571603, 3571603]), (23, [15, 4, 9, 7], [-3570859, 1, -1, -3571603, 3571603]), (24, [0, 5], []), (20, [5, 24], [30, 3571584, 1, 1, 12, -1, 0, 0]), (102, [24], [261336857795280739939871698507597986398208, 12012]), (23, [24, 4, 9, 7], [-3570842, 1, -1, -3571603, 3571603]), (23, [21, 4, 9, 7], [-3570845, 1, -1, -3571603, 3571603]), (23, [19, 4, 9, 7], [-3570853, 1, -1, -3571603, 3571603]), (23, [15, 4, 9, 7], [-3570859, 1, -1, -3571603, 3571603]), (102, [21], [261336857795280739939871698507597986398208, 12012]), (23, [21, 4, 9, 7], [-3570845, 1, -1, -3571603, 3571603]), (23, [19, 4, 9, 7], [-3570853, 1, -1, -3571603, 3571603]), (23, [15, 4, 9, 7], [-3570859, 1, -1, -3571603, 3571603]), (102, [19], [261336857795280739939871698507597986398208, 12012]), (23, [19, 4, 9, 7], [-3570853, 1, -1, -3571603, 3571603]), (23, [15, 4, 9, 7], [-3570859, 1, -1, -3571603, 3571603]), (102, [15], [261336857795280739939871698507597986398208, 12012]), (23, [15, 4, 9, 7], [-3570859, 1, -1, -3571603, 3571603]), (7, [12, 7], [0]), (7, [9, 10], [2])], [], [(0, 0, 99999998, [])], [(20, [5, 26], [30, 0, 1, 1, 12, -1, 0, 0]), (23, [26, 4, 9, 7], [742, 1, -1, -3571603, 3571603])], [], [(9, 10, -4294967296, -1), (7, 4, -4294967296, 0), (7, 9, -4294967296, -1)])
theorem oo_Ho_writeGroup_at_k0_18 {kA : Nat → ClassId} : or_ok kA GG o_Ho_writeGroup_at_k0_18 := by
  intro A ta ws vs hD hth hl hk hds hf
  have hl : vs.length = 26 := hl
  have hk : ∀ q ∈ ([(0, (2, 0, 0, [12])), (4, (0, 0, 71426432, [])), (5, (2, 0, 0, [12])), (7, (0, 0, 0, [])), (9, (0, 1, 7, [])), (10, (0, 2, 8, [])), (12, (0, 0, 0, [])), (15, (0, 0, 99999994, [])), (19, (0, 0, 99999992, [])), (21, (0, 0, 99999997, [])), (24, (0, 0, 96428416, []))] : List (Nat × tv_T)), tv_ok ta q.2 (n_v vs q.1) := hk
  obtain ⟨t0, hk⟩ := List.forall_mem_cons.mp hk
  have t0 : tv_ok ta (2, 0, 0, [12]) (n_v vs 0) := t0
  have r0 : ta (v_ad (n_v vs 0)) = some 12 := tv_rg t0
  obtain ⟨t4, hk⟩ := List.forall_mem_cons.mp hk
  have t4 : tv_ok ta (0, 0, 71426432, []) (n_v vs 4) := t4
  have k4 : 0 ≤ v_iv (n_v vs 4) ∧ v_iv (n_v vs 4) ≤ 71426432 := tv_rng t4
  obtain ⟨t5, hk⟩ := List.forall_mem_cons.mp hk
  have t5 : tv_ok ta (2, 0, 0, [12]) (n_v vs 5) := t5
  have r5 : ta (v_ad (n_v vs 5)) = some 12 := tv_rg t5
  obtain ⟨t7, hk⟩ := List.forall_mem_cons.mp hk
  have t7 : tv_ok ta (0, 0, 0, []) (n_v vs 7) := t7
  have k7 : 0 ≤ v_iv (n_v vs 7) ∧ v_iv (n_v vs 7) ≤ 0 := tv_rng t7
  obtain ⟨t9, hk⟩ := List.forall_mem_cons.mp hk
  have t9 : tv_ok ta (0, 1, 7, []) (n_v vs 9) := t9
  have k9 : 1 ≤ v_iv (n_v vs 9) ∧ v_iv (n_v vs 9) ≤ 7 := tv_rng t9
  obtain ⟨t10, hk⟩ := List.forall_mem_cons.mp hk
  have t10 : tv_ok ta (0, 2, 8, []) (n_v vs 10) := t10
  have k10 : 2 ≤ v_iv (n_v vs 10) ∧ v_iv (n_v vs 10) ≤ 8 := tv_rng t10
  obtain ⟨t12, hk⟩ := List.forall_mem_cons.mp hk
  have t12 : tv_ok ta (0, 0, 0, []) (n_v vs 12) := t12
  have k12 : 0 ≤ v_iv (n_v vs 12) ∧ v_iv (n_v vs 12) ≤ 0 := tv_rng t12
  obtain ⟨t15, hk⟩ := List.forall_mem_cons.mp hk
  have t15 : tv_ok ta (0, 0, 99999994, []) (n_v vs 15) := t15
  have k15 : 0 ≤ v_iv (n_v vs 15) ∧ v_iv (n_v vs 15) ≤ 99999994 := tv_rng t15
  obtain ⟨t19, hk⟩ := List.forall_mem_cons.mp hk
  have t19 : tv_ok ta (0, 0, 99999992, []) (n_v vs 19) := t19
  have k19 : 0 ≤ v_iv (n_v vs 19) ∧ v_iv (n_v vs 19) ≤ 99999992 := tv_rng t19
  obtain ⟨t21, hk⟩ := List.forall_mem_cons.mp hk
  have t21 : tv_ok ta (0, 0, 99999997, []) (n_v vs 21) := t21
  have k21 : 0 ≤ v_iv (n_v vs 21) ∧ v_iv (n_v vs 21) ≤ 99999997 := tv_rng t21
  obtain ⟨t24, hk⟩ := List.forall_mem_cons.mp hk
  have t24 : tv_ok ta (0, 0, 96428416, []) (n_v vs 24) := t24
  have k24 : 0 ≤ v_iv (n_v vs 24) ∧ v_iv (n_v vs 24) ≤ 96428416 := tv_rng t24
  have hds : ∀ q ∈ ([(9, 10, -4294967296, -1), (7, 4, -4294967296, 0), (7, 9, -4294967296, -1)] : List of_T), n_iv vs q.2.1 + q.2.2.1 ≤ n_iv vs q.1 ∧ n_iv vs q.1 ≤ n_iv vs q.2.1 + q.2.2.2 := hds
  obtain ⟨d0, hds⟩ := List.forall_mem_cons.mp hds
  have d0 : v_iv (n_v vs 10) + (-4294967296) ≤ v_iv (n_v vs 9) ∧ v_iv (n_v vs 9) ≤ v_iv (n_v vs 10) + (-1) := d0
  obtain ⟨d1, hds⟩ := List.forall_mem_cons.mp hds
  have d1 : v_iv (n_v vs 4) + (-4294967296) ≤ v_iv (n_v vs 7) ∧ v_iv (n_v vs 7) ≤ v_iv (n_v vs 4) + 0 := d1
  obtain ⟨d2, hds⟩ := List.forall_mem_cons.mp hds
  have d2 : v_iv (n_v vs 9) + (-4294967296) ≤ v_iv (n_v vs 7) ∧ v_iv (n_v vs 7) ≤ v_iv (n_v vs 9) + (-1) := d2
  have hf : fc_ok [(23, [24, 4, 9, 7], [-3570842, 1, -1, -3571603, 3571603]), (23, [21, 4, 9, 7], [-3570845, 1, -1, -3571603, 3571603]), (23, [19, 4, 9, 7], [-3570853, 1, -1, -3571603, 3571603]), (23, [15, 4, 9, 7], [-3570859, 1, -1, -3571603, 3571603]), (24, [0, 5], []), (20, [5, 24], [30, 3571584, 1, 1, 12, -1, 0, 0]), (102, [24], [261336857795280739939871698507597986398208, 12012]), (23, [24, 4, 9, 7], [-3570842, 1, -1, -3571603, 3571603]), (23, [21, 4, 9, 7], [-3570845, 1, -1, -3571603, 3571603]), (23, [19, 4, 9, 7], [-3570853, 1, -1, -3571603, 3571603]), (23, [15, 4, 9, 7], [-3570859, 1, -1, -3571603, 3571603]), (102, [21], [261336857795280739939871698507597986398208, 12012]), (23, [21, 4, 9, 7], [-3570845, 1, -1, -3571603, 3571603]), (23, [19, 4, 9, 7], [-3570853, 1, -1, -3571603, 3571603]), (23, [15, 4, 9, 7], [-3570859, 1, -1, -3571603, 3571603]), (102, [19], [261336857795280739939871698507597986398208, 12012]), (23, [19, 4, 9, 7], [-3570853, 1, -1, -3571603, 3571603]), (23, [15, 4, 9, 7], [-3570859, 1, -1, -3571603, 3571603]), (102, [15], [261336857795280739939871698507597986398208, 12012]), (23, [15, 4, 9, 7], [-3570859, 1, -1, -3571603, 3571603]), (7, [12, 7], [0]), (7, [9, 10], [2])] ta ws vs := hf
  obtain ⟨f0, hf⟩ := fc_un (show (23 : Nat) < 100 from by decide) hf
  have f0 : 1 * v_iv (n_v vs 24) + ((-1) * v_iv (n_v vs 4) + ((-3571603) * v_iv (n_v vs 9) + (3571603 * v_iv (n_v vs 7) + 0))) ≤ (-3570842) := f0
  obtain ⟨f1, hf⟩ := fc_un (show (23 : Nat) < 100 from by decide) hf
  have f1 : 1 * v_iv (n_v vs 21) + ((-1) * v_iv (n_v vs 4) + ((-3571603) * v_iv (n_v vs 9) + (3571603 * v_iv (n_v vs 7) + 0))) ≤ (-3570845) := f1
  obtain ⟨f2, hf⟩ := fc_un (show (23 : Nat) < 100 from by decide) hf
  have f2 : 1 * v_iv (n_v vs 19) + ((-1) * v_iv (n_v vs 4) + ((-3571603) * v_iv (n_v vs 9) + (3571603 * v_iv (n_v vs 7) + 0))) ≤ (-3570853) := f2
  obtain ⟨f3, hf⟩ := fc_un (show (23 : Nat) < 100 from by decide) hf
  have f3 : 1 * v_iv (n_v vs 15) + ((-1) * v_iv (n_v vs 4) + ((-3571603) * v_iv (n_v vs 9) + (3571603 * v_iv (n_v vs 7) + 0))) ≤ (-3570859) := f3
  obtain ⟨f4, hf⟩ := fc_un (show (24 : Nat) < 100 from by decide) hf
  have f4 : n_v vs 0 = n_v vs 5 := f4
  obtain ⟨f5, hf⟩ := fc_un (show (20 : Nat) < 100 from by decide) hf
  have f5 : 1 * w_fi ws (n_v vs 5) 12 + ((-1) * v_iv (n_v vs 24) + 0) ≤ 3571584 := f5
  obtain ⟨ta1, w1, le1, ⟨_, s1⟩, hf⟩ := fc_us (show ¬ (102 : Nat) < 100 from by decide) hf
  obtain ⟨f7, hf⟩ := fc_un (show (23 : Nat) < 100 from by decide) hf
  have f7 : 1 * v_iv (n_v vs 24) + ((-1) * v_iv (n_v vs 4) + ((-3571603) * v_iv (n_v vs 9) + (3571603 * v_iv (n_v vs 7) + 0))) ≤ (-3570842) := f7
  obtain ⟨f8, hf⟩ := fc_un (show (23 : Nat) < 100 from by decide) hf
  have f8 : 1 * v_iv (n_v vs 21) + ((-1) * v_iv (n_v vs 4) + ((-3571603) * v_iv (n_v vs 9) + (3571603 * v_iv (n_v vs 7) + 0))) ≤ (-3570845) := f8
  obtain ⟨f9, hf⟩ := fc_un (show (23 : Nat) < 100 from by decide) hf
  have f9 : 1 * v_iv (n_v vs 19) + ((-1) * v_iv (n_v vs 4) + ((-3571603) * v_iv (n_v vs 9) + (3571603 * v_iv (n_v vs 7) + 0))) ≤ (-3570853) := f9
  obtain ⟨f10, hf⟩ := fc_un (show (23 : Nat) < 100 from by decide) hf
  have f10 : 1 * v_iv (n_v vs 15) + ((-1) * v_iv (n_v vs 4) + ((-3571603) * v_iv (n_v vs 9) + (3571603 * v_iv (n_v vs 7) + 0))) ≤ (-3570859) := f10
  obtain ⟨ta2, w2, le2, ⟨_, s2⟩, hf⟩ := fc_us (show ¬ (102 : Nat) < 100 from by decide) hf
  obtain ⟨f12, hf⟩ := fc_un (show (23 : Nat) < 100 from by decide) hf
  have f12 : 1 * v_iv (n_v vs 21) + ((-1) * v_iv (n_v vs 4) + ((-3571603) * v_iv (n_v vs 9) + (3571603 * v_iv (n_v vs 7) + 0))) ≤ (-3570845) := f12
  obtain ⟨f13, hf⟩ := fc_un (show (23 : Nat) < 100 from by decide) hf
  have f13 : 1 * v_iv (n_v vs 19) + ((-1) * v_iv (n_v vs 4) + ((-3571603) * v_iv (n_v vs 9) + (3571603 * v_iv (n_v vs 7) + 0))) ≤ (-3570853) := f13
  obtain ⟨f14, hf⟩ := fc_un (show (23 : Nat) < 100 from by decide) hf
  have f14 : 1 * v_iv (n_v vs 15) + ((-1) * v_iv (n_v vs 4) + ((-3571603) * v_iv (n_v vs 9) + (3571603 * v_iv (n_v vs 7) + 0))) ≤ (-3570859) := f14
  obtain ⟨ta3, w3, le3, ⟨_, s3⟩, hf⟩ := fc_us (show ¬ (102 : Nat) < 100 from by decide) hf
  obtain ⟨f16, hf⟩ := fc_un (show (23 : Nat) < 100 from by decide) hf
  have f16 : 1 * v_iv (n_v vs 19) + ((-1) * v_iv (n_v vs 4) + ((-3571603) * v_iv (n_v vs 9) + (3571603 * v_iv (n_v vs 7) + 0))) ≤ (-3570853) := f16
  obtain ⟨f17, hf⟩ := fc_un (show (23 : Nat) < 100 from by decide) hf
  have f17 : 1 * v_iv (n_v vs 15) + ((-1) * v_iv (n_v vs 4) + ((-3571603) * v_iv (n_v vs 9) + (3571603 * v_iv (n_v vs 7) + 0))) ≤ (-3570859) := f17
  obtain ⟨ta4, w4, le4, ⟨_, s4⟩, hf⟩ := fc_us (show ¬ (102 : Nat) < 100 from by decide) hf
  obtain ⟨f19, hf⟩ := fc_un (show (23 : Nat) < 100 from by decide) hf
  have f19 : 1 * v_iv (n_v vs 15) + ((-1) * v_iv (n_v vs 4) + ((-3571603) * v_iv (n_v vs 9) + (3571603 * v_iv (n_v vs 7) + 0))) ≤ (-3570859) := f19
  obtain ⟨f20, hf⟩ := fc_un (show (7 : Nat) < 100 from by decide) hf
  have f20 : v_iv (n_v vs 12) = v_iv (n_v vs 7) := f20
  obtain ⟨f21, hf⟩ := fc_un (show (7 : Nat) < 100 from by decide) hf
  have f21 : v_iv (n_v vs 9) < v_iv (n_v vs 10) := f21
  have q5 : n_v vs 5 = n_v vs 0 := f4.symm
  rw [q5] at f5
  have kz_0_12 : 0 ≤ w_fi ws (n_v vs 0) 12 ∧ w_fi ws (n_v vs 0) 12 ≤ 100000000 := tv_rng (th_fd hD hth r0 (g := GG_12) rfl (k := 12) (t := (0, 0, 100000000, [])) rfl rfl)
  have kv0 : 0 ≤ w_fi ws (n_v vs 0) 12 ∧ w_fi ws (n_v vs 0) 12 ≤ 100000000 := tv_rng (th_fd hD hth r0 (g := GG_12) rfl (k := 12) (t := (0, 0, 100000000, [])) rfl rfl)
  obtain ⟨x, ex, hx⟩ := iv_ex (ta := ta) (lo := 0) (hi := 99999998) (z := w_fi ws (n_v vs 0) 12) (by omega) (by omega) (by omega) (by omega)
  have ex2 : v_iv (Value.int x) = w_fi ws (n_v vs 0) 12 := ex
  have ex3 : 0 ≤ v_iv (Value.int x) ∧ v_iv (Value.int x) ≤ 99999998 := tv_rng hx
  have e_4 : n_v (vs ++ [Value.int x]) 4 = n_v vs 4 := n_v_old (by rw [hl]; decide)
  have e_5 : n_v (vs ++ [Value.int x]) 5 = n_v vs 5 := n_v_old (by rw [hl]; decide)
  have e_7 : n_v (vs ++ [Value.int x]) 7 = n_v vs 7 := n_v_old (by rw [hl]; decide)
  have e_9 : n_v (vs ++ [Value.int x]) 9 = n_v vs 9 := n_v_old (by rw [hl]; decide)
  have e_26 : n_v (vs ++ [Value.int x]) 26 = Value.int x := n_v_new hl
  have nf0 : fc_1 (20, [5, 26], [30, 0, 1, 1, 12, -1, 0, 0]) ws (vs ++ [Value.int x]) := by
    refine ⟨fun n hn => ?_, ?_⟩
    · have hn : n ∈ [5, 26] := hn
      rw [List.length_append, hl]
      simp only [List.mem_cons, List.not_mem_nil, or_false] at hn
      show n < 26 + 1; omega
    · show 1 * w_fi ws (n_v (vs ++ [Value.int x]) 5) 12 + ((-1) * v_iv (n_v (vs ++ [Value.int x]) 26) + 0) ≤ 0
      rw [e_5]
      rw [e_26]
      rw [q5]
      omega
  have nf1 : fc_1 (23, [26, 4, 9, 7], [742, 1, -1, -3571603, 3571603]) ws (vs ++ [Value.int x]) := by
    refine ⟨fun n hn => ?_, ?_⟩
    · have hn : n ∈ [26, 4, 9, 7] := hn
      rw [List.length_append, hl]
      simp only [List.mem_cons, List.not_mem_nil, or_false] at hn
      show n < 26 + 1; omega
    · show 1 * v_iv (n_v (vs ++ [Value.int x]) 26) + ((-1) * v_iv (n_v (vs ++ [Value.int x]) 4) + ((-3571603) * v_iv (n_v (vs ++ [Value.int x]) 9) + (3571603 * v_iv (n_v (vs ++ [Value.int x]) 7) + 0))) ≤ 742
      rw [e_4]
      rw [e_7]
      rw [e_9]
      rw [e_26]
      omega
  exact ⟨(fun _ h => (by cases h)), [Value.int x], ag_one hx, List.forall_mem_cons.mpr ⟨⟨show (20 : Nat) < 100 from by decide, nf0⟩, List.forall_mem_cons.mpr ⟨⟨show (23 : Nat) < 100 from by decide, nf1⟩, (fun _ h => (by cases h))⟩⟩, (fun _ h => (by cases h))⟩
def o_Ho_writeGroup_at_k0_19 : or_T := (100, 28, [(0, (2, 0, 0, [12])), (4, (0, 0, 71426432, [])), (5, (2, 0, 0, [12])), (7, (0, 0, 0, [])), (9, (0, 1, 7, [])), (10, (0, 2, 8, [])), (12, (0, 0, 0, [])), (15, (0, 0, 99999994, [])), (19, (0, 0, 99999992, [])), (21, (0, 0, 99999997, [])), (24, (0, 0, 96428416, [])), (26, (0, 0, 99999998, [])), (27, (0, 2, 8, []))], [(6, [27, 9], [1]), (23, [26, 4, 9, 7], [742, 1, -1, -3571603, 3571603]), (23, [24, 4, 9, 7], [-3570842, 1, -1, -3571603, 3571603]), (23, [21, 4, 9, 7], [-3570845, 1, -1, -3571603, 3571603]), (23, [19, 4, 9, 7], [-3570853, 1, -1, -3571603, 3571603]), (23, [15, 4, 9, 7], [-3570859, 1, -1, -3571603, 3571603]), (24, [0, 5], []), (20, [5, 26], [30, 2, 1, 1, 12, -1, 0, 0]), (102, [26], [261336857795280739939871698507597986398208, 12012]), (23, [26, 4, 9, 7], [742, 1, -1, -3571603, 3571603]), (23, [24, 4, 9, 7], [-3570842, 1, -1, -3571603, 3571603]), (23, [21, 4, 9, 7], [-3570845, 1, -1, -3571603, 3571603]), (23, [19, 4, 9, 7], [-3570853, 1, -1, -3571603, 3571603]), (23, [15, 4, 9, 7], [-3570859, 1, -1, -3571603, 3571603]), (102, [24], [261336857795280739939871698507597986398208, 12012]), (23, [24, 4, 9, 7], [-3570842, 1, -1, -3571603, 3571603]), (23, [21, 4, 9, 7], [-3570845, 1, -1, -3571603, 3571603]), (23, [19, 4, 9, 7], [-3570853, 1, -1, -3571603, 3571603]), (23, [15, 4, 9, 7], [-3570859, 1, -1, -3571603, 3571603]), (102, [21], [261336857795280739939871698507597986398208, 12012]), (23, [21, 4, 9, 7], [-3570845, 1, -1, -3571603, 3571603]), (23, [19, 4, 9, 7], [-3570853, 1, -1, -3571603, 3571603]), (23, [15, 4, 9, 7], [-3570859, 1, -1, -3571603, 3571603]), (102, [19], [261336857795280739939871698507597986398208, 12012]), (23, [19, 4, 9, 7], [-3570853, 1, -1, -3571603, 3571603]), (23, [15, 4, 9, 7], [-3570859, 1, -1, -3571603, 3571603]), (102, [15], [261336857795280739939871698507597986398208, 12012]), (23, [15, 4, 9, 7], [-3570859, 1, -1, -3571603, 3571603]), (7, [12, 7], [0]), (7, [9, 10], [2])], [], [], [(20, [5, 4, 27, 7], [30, -3570859, 1, 1, 12, -1, 0, 0, -3571603, 0, 0, 3571603, 0, 0])], [], [(27, 9, 1, 1), (27, 10, -4294967296, 0), (9, 10, -4294967296, -1), (7, 4, -4294967296, 0), (7, 9, -4294967296, -1)])
theorem oo_Ho_writeGroup_at_k0_19 {kA : Nat → ClassId} : or_ok kA GG o_Ho_writeGroup_at_k0_19 := by
  intro A ta ws vs hD hth hl hk hds hf
  have hl : vs.length = 28 := hl
  have hk : ∀ q ∈ ([(0, (2, 0, 0, [12])), (4, (0, 0, 71426432, [])), (5, (2, 0, 0, [12])), (7, (0, 0, 0, [])), (9, (0, 1, 7, [])), (10, (0, 2, 8, [])), (12, (0, 0, 0, [])), (15, (0, 0, 99999994, [])), (19, (0, 0, 99999992, [])), (21, (0, 0, 99999997, [])), (24, (0, 0, 96428416, [])), (26, (0, 0, 99999998, [])), (27, (0, 2, 8, []))] : List (Nat × tv_T)), tv_ok ta q.2 (n_v vs q.1) := hk
  obtain ⟨t0, hk⟩ := List.forall_mem_cons.mp hk
  have t0 : tv_ok ta (2, 0, 0, [12]) (n_v vs 0) := t0
  have r0 : ta (v_ad (n_v vs 0)) = some 12 := tv_rg t0
  obtain ⟨t4, hk⟩ := List.forall_mem_cons.mp hk
  have t4 : tv_ok ta (0, 0, 71426432, []) (n_v vs 4) := t4
  have k4 : 0 ≤ v_iv (n_v vs 4) ∧ v_iv (n_v vs 4) ≤ 71426432 := tv_rng t4
  obtain ⟨t5, hk⟩ := List.forall_mem_cons.mp hk
  have t5 : tv_ok ta (2, 0, 0, [12]) (n_v vs 5) := t5
  have r5 : ta (v_ad (n_v vs 5)) = some 12 := tv_rg t5
  obtain ⟨t7, hk⟩ := List.forall_mem_cons.mp hk
  have t7 : tv_ok ta (0, 0, 0, []) (n_v vs 7) := t7
  have k7 : 0 ≤ v_iv (n_v vs 7) ∧ v_iv (n_v vs 7) ≤ 0 := tv_rng t7
  obtain ⟨t9, hk⟩ := List.forall_mem_cons.mp hk
  have t9 : tv_ok ta (0, 1, 7, []) (n_v vs 9) := t9
  have k9 : 1 ≤ v_iv (n_v vs 9) ∧ v_iv (n_v vs 9) ≤ 7 := tv_rng t9
  obtain ⟨t10, hk⟩ := List.forall_mem_cons.mp hk
  have t10 : tv_ok ta (0, 2, 8, []) (n_v vs 10) := t10
  have k10 : 2 ≤ v_iv (n_v vs 10) ∧ v_iv (n_v vs 10) ≤ 8 := tv_rng t10
  obtain ⟨t12, hk⟩ := List.forall_mem_cons.mp hk
  have t12 : tv_ok ta (0, 0, 0, []) (n_v vs 12) := t12
  have k12 : 0 ≤ v_iv (n_v vs 12) ∧ v_iv (n_v vs 12) ≤ 0 := tv_rng t12
  obtain ⟨t15, hk⟩ := List.forall_mem_cons.mp hk
  have t15 : tv_ok ta (0, 0, 99999994, []) (n_v vs 15) := t15
  have k15 : 0 ≤ v_iv (n_v vs 15) ∧ v_iv (n_v vs 15) ≤ 99999994 := tv_rng t15
  obtain ⟨t19, hk⟩ := List.forall_mem_cons.mp hk
  have t19 : tv_ok ta (0, 0, 99999992, []) (n_v vs 19) := t19
  have k19 : 0 ≤ v_iv (n_v vs 19) ∧ v_iv (n_v vs 19) ≤ 99999992 := tv_rng t19
  obtain ⟨t21, hk⟩ := List.forall_mem_cons.mp hk
  have t21 : tv_ok ta (0, 0, 99999997, []) (n_v vs 21) := t21
  have k21 : 0 ≤ v_iv (n_v vs 21) ∧ v_iv (n_v vs 21) ≤ 99999997 := tv_rng t21
  obtain ⟨t24, hk⟩ := List.forall_mem_cons.mp hk
  have t24 : tv_ok ta (0, 0, 96428416, []) (n_v vs 24) := t24
  have k24 : 0 ≤ v_iv (n_v vs 24) ∧ v_iv (n_v vs 24) ≤ 96428416 := tv_rng t24
  obtain ⟨t26, hk⟩ := List.forall_mem_cons.mp hk
  have t26 : tv_ok ta (0, 0, 99999998, []) (n_v vs 26) := t26
  have k26 : 0 ≤ v_iv (n_v vs 26) ∧ v_iv (n_v vs 26) ≤ 99999998 := tv_rng t26
  obtain ⟨t27, hk⟩ := List.forall_mem_cons.mp hk
  have t27 : tv_ok ta (0, 2, 8, []) (n_v vs 27) := t27
  have k27 : 2 ≤ v_iv (n_v vs 27) ∧ v_iv (n_v vs 27) ≤ 8 := tv_rng t27
  have hds : ∀ q ∈ ([(27, 9, 1, 1), (27, 10, -4294967296, 0), (9, 10, -4294967296, -1), (7, 4, -4294967296, 0), (7, 9, -4294967296, -1)] : List of_T), n_iv vs q.2.1 + q.2.2.1 ≤ n_iv vs q.1 ∧ n_iv vs q.1 ≤ n_iv vs q.2.1 + q.2.2.2 := hds
  obtain ⟨d0, hds⟩ := List.forall_mem_cons.mp hds
  have d0 : v_iv (n_v vs 9) + 1 ≤ v_iv (n_v vs 27) ∧ v_iv (n_v vs 27) ≤ v_iv (n_v vs 9) + 1 := d0
  obtain ⟨d1, hds⟩ := List.forall_mem_cons.mp hds
  have d1 : v_iv (n_v vs 10) + (-4294967296) ≤ v_iv (n_v vs 27) ∧ v_iv (n_v vs 27) ≤ v_iv (n_v vs 10) + 0 := d1
  obtain ⟨d2, hds⟩ := List.forall_mem_cons.mp hds
  have d2 : v_iv (n_v vs 10) + (-4294967296) ≤ v_iv (n_v vs 9) ∧ v_iv (n_v vs 9) ≤ v_iv (n_v vs 10) + (-1) := d2
  obtain ⟨d3, hds⟩ := List.forall_mem_cons.mp hds
  have d3 : v_iv (n_v vs 4) + (-4294967296) ≤ v_iv (n_v vs 7) ∧ v_iv (n_v vs 7) ≤ v_iv (n_v vs 4) + 0 := d3
  obtain ⟨d4, hds⟩ := List.forall_mem_cons.mp hds
  have d4 : v_iv (n_v vs 9) + (-4294967296) ≤ v_iv (n_v vs 7) ∧ v_iv (n_v vs 7) ≤ v_iv (n_v vs 9) + (-1) := d4
  have hf : fc_ok [(6, [27, 9], [1]), (23, [26, 4, 9, 7], [742, 1, -1, -3571603, 3571603]), (23, [24, 4, 9, 7], [-3570842, 1, -1, -3571603, 3571603]), (23, [21, 4, 9, 7], [-3570845, 1, -1, -3571603, 3571603]), (23, [19, 4, 9, 7], [-3570853, 1, -1, -3571603, 3571603]), (23, [15, 4, 9, 7], [-3570859, 1, -1, -3571603, 3571603]), (24, [0, 5], []), (20, [5, 26], [30, 2, 1, 1, 12, -1, 0, 0]), (102, [26], [261336857795280739939871698507597986398208, 12012]), (23, [26, 4, 9, 7], [742, 1, -1, -3571603, 3571603]), (23, [24, 4, 9, 7], [-3570842, 1, -1, -3571603, 3571603]), (23, [21, 4, 9, 7], [-3570845, 1, -1, -3571603, 3571603]), (23, [19, 4, 9, 7], [-3570853, 1, -1, -3571603, 3571603]), (23, [15, 4, 9, 7], [-3570859, 1, -1, -3571603, 3571603]), (102, [24], [261336857795280739939871698507597986398208, 12012]), (23, [24, 4, 9, 7], [-3570842, 1, -1, -3571603, 3571603]), (23, [21, 4, 9, 7], [-3570845, 1, -1, -3571603, 3571603]), (23, [19, 4, 9, 7], [-3570853, 1, -1, -3571603, 3571603]), (23, [15, 4, 9, 7], [-3570859, 1, -1, -3571603, 3571603]), (102, [21], [261336857795280739939871698507597986398208, 12012]), (23, [21, 4, 9, 7], [-3570845, 1, -1, -3571603, 3571603]), (23, [19, 4, 9, 7], [-3570853, 1, -1, -3571603, 3571603]), (23, [15, 4, 9, 7], [-3570859, 1, -1, -3571603, 3571603]), (102, [19], [261336857795280739939871698507597986398208, 12012]), (23, [19, 4, 9, 7], [-3570853, 1, -1, -3571603, 3571603]), (23, [15, 4, 9, 7], [-3570859, 1, -1, -3571603, 3571603]), (102, [15], [261336857795280739939871698507597986398208, 12012]), (23, [15, 4, 9, 7], [-3570859, 1, -1, -3571603, 3571603]), (7, [12, 7], [0]), (7, [9, 10], [2])] ta ws vs := hf
  obtain ⟨f0, hf⟩ := fc_un (show (6 : Nat) < 100 from by decide) hf
  have f0 : v_iv (n_v vs 27) = v_iv (n_v vs 9) + 1 := f0
  obtain ⟨f1, hf⟩ := fc_un (show (23 : Nat) < 100 from by decide) hf
  have f1 : 1 * v_iv (n_v vs 26) + ((-1) * v_iv (n_v vs 4) + ((-3571603) * v_iv (n_v vs 9) + (3571603 * v_iv (n_v vs 7) + 0))) ≤ 742 := f1
  obtain ⟨f2, hf⟩ := fc_un (show (23 : Nat) < 100 from by decide) hf
  have f2 : 1 * v_iv (n_v vs 24) + ((-1) * v_iv (n_v vs 4) + ((-3571603) * v_iv (n_v vs 9) + (3571603 * v_iv (n_v vs 7) + 0))) ≤ (-3570842) := f2
  obtain ⟨f3, hf⟩ := fc_un (show (23 : Nat) < 100 from by decide) hf
  have f3 : 1 * v_iv (n_v vs 21) + ((-1) * v_iv (n_v vs 4) + ((-3571603) * v_iv (n_v vs 9) + (3571603 * v_iv (n_v vs 7) + 0))) ≤ (-3570845) := f3
  obtain ⟨f4, hf⟩ := fc_un (show (23 : Nat) < 100 from by decide) hf
  have f4 : 1 * v_iv (n_v vs 19) + ((-1) * v_iv (n_v vs 4) + ((-3571603) * v_iv (n_v vs 9) + (3571603 * v_iv (n_v vs 7) + 0))) ≤ (-3570853) := f4
  obtain ⟨f5, hf⟩ := fc_un (show (23 : Nat) < 100 from by decide) hf
  have f5 : 1 * v_iv (n_v vs 15) + ((-1) * v_iv (n_v vs 4) + ((-3571603) * v_iv (n_v vs 9) + (3571603 * v_iv (n_v vs 7) + 0))) ≤ (-3570859) := f5
  obtain ⟨f6, hf⟩ := fc_un (show (24 : Nat) < 100 from by decide) hf
  have f6 : n_v vs 0 = n_v vs 5 := f6
  obtain ⟨f7, hf⟩ := fc_un (show (20 : Nat) < 100 from by decide) hf
  have f7 : 1 * w_fi ws (n_v vs 5) 12 + ((-1) * v_iv (n_v vs 26) + 0) ≤ 2 := f7
  obtain ⟨ta1, w1, le1, ⟨_, s1⟩, hf⟩ := fc_us (show ¬ (102 : Nat) < 100 from by decide) hf
  obtain ⟨f9, hf⟩ := fc_un (show (23 : Nat) < 100 from by decide) hf
  have f9 : 1 * v_iv (n_v vs 26) + ((-1) * v_iv (n_v vs 4) + ((-3571603) * v_iv (n_v vs 9) + (3571603 * v_iv (n_v vs 7) + 0))) ≤ 742 := f9
  obtain ⟨f10, hf⟩ := fc_un (show (23 : Nat) < 100 from by decide) hf
  have f10 : 1 * v_iv (n_v vs 24) + ((-1) * v_iv (n_v vs 4) + ((-3571603) * v_iv (n_v vs 9) + (3571603 * v_iv (n_v vs 7) + 0))) ≤ (-3570842) := f10
  obtain ⟨f11, hf⟩ := fc_un (show (23 : Nat) < 100 from by decide) hf
  have f11 : 1 * v_iv (n_v vs 21) + ((-1) * v_iv (n_v vs 4) + ((-3571603) * v_iv (n_v vs 9) + (3571603 * v_iv (n_v vs 7) + 0))) ≤ (-3570845) := f11
  obtain ⟨f12, hf⟩ := fc_un (show (23 : Nat) < 100 from by decide) hf
  have f12 : 1 * v_iv (n_v vs 19) + ((-1) * v_iv (n_v vs 4) + ((-3571603) * v_iv (n_v vs 9) + (3571603 * v_iv (n_v vs 7) + 0))) ≤ (-3570853) := f12
  obtain ⟨f13, hf⟩ := fc_un (show (23 : Nat) < 100 from by decide) hf
  have f13 : 1 * v_iv (n_v vs 15) + ((-1) * v_iv (n_v vs 4) + ((-3571603) * v_iv (n_v vs 9) + (3571603 * v_iv (n_v vs 7) + 0))) ≤ (-3570859) := f13
  obtain ⟨ta2, w2, le2, ⟨_, s2⟩, hf⟩ := fc_us (show ¬ (102 : Nat) < 100 from by decide) hf
  obtain ⟨f15, hf⟩ := fc_un (show (23 : Nat) < 100 from by decide) hf
  have f15 : 1 * v_iv (n_v vs 24) + ((-1) * v_iv (n_v vs 4) + ((-3571603) * v_iv (n_v vs 9) + (3571603 * v_iv (n_v vs 7) + 0))) ≤ (-3570842) := f15
  obtain ⟨f16, hf⟩ := fc_un (show (23 : Nat) < 100 from by decide) hf
  have f16 : 1 * v_iv (n_v vs 21) + ((-1) * v_iv (n_v vs 4) + ((-3571603) * v_iv (n_v vs 9) + (3571603 * v_iv (n_v vs 7) + 0))) ≤ (-3570845) := f16
  obtain ⟨f17, hf⟩ := fc_un (show (23 : Nat) < 100 from by decide) hf
  have f17 : 1 * v_iv (n_v vs 19) + ((-1) * v_iv (n_v vs 4) + ((-3571603) * v_iv (n_v vs 9) + (3571603 * v_iv (n_v vs 7) + 0))) ≤ (-3570853) := f17
  obtain ⟨f18, hf⟩ := fc_un (show (23 : Nat) < 100 from by decide) hf
  have f18 : 1 * v_iv (n_v vs 15) + ((-1) * v_iv (n_v vs 4) + ((-3571603) * v_iv (n_v vs 9) + (3571603 * v_iv (n_v vs 7) + 0))) ≤ (-3570859) := f18
  obtain ⟨ta3, w3, le3, ⟨_, s3⟩, hf⟩ := fc_us (show ¬ (102 : Nat) < 100 from by decide) hf
  obtain ⟨f20, hf⟩ := fc_un (show (23 : Nat) < 100 from by decide) hf
  have f20 : 1 * v_iv (n_v vs 21) + ((-1) * v_iv (n_v vs 4) + ((-3571603) * v_iv (n_v vs 9) + (3571603 * v_iv (n_v vs 7) + 0))) ≤ (-3570845) := f20
  obtain ⟨f21, hf⟩ := fc_un (show (23 : Nat) < 100 from by decide) hf
  have f21 : 1 * v_iv (n_v vs 19) + ((-1) * v_iv (n_v vs 4) + ((-3571603) * v_iv (n_v vs 9) + (3571603 * v_iv (n_v vs 7) + 0))) ≤ (-3570853) := f21
  obtain ⟨f22, hf⟩ := fc_un (show (23 : Nat) < 100 from by decide) hf
  have f22 : 1 * v_iv (n_v vs 15) + ((-1) * v_iv (n_v vs 4) + ((-3571603) * v_iv (n_v vs 9) + (3571603 * v_iv (n_v vs 7) + 0))) ≤ (-3570859) := f22
  obtain ⟨ta4, w4, le4, ⟨_, s4⟩, hf⟩ := fc_us (show ¬ (102 : Nat) < 100 from by decide) hf
  obtain ⟨f24, hf⟩ := fc_un (show (23 : Nat) < 100 from by decide) hf
  have f24 : 1 * v_iv (n_v vs 19) + ((-1) * v_iv (n_v vs 4) + ((-3571603) * v_iv (n_v vs 9) + (3571603 * v_iv (n_v vs 7) + 0))) ≤ (-3570853) := f24
  obtain ⟨f25, hf⟩ := fc_un (show (23 : Nat) < 100 from by decide) hf
  have f25 : 1 * v_iv (n_v vs 15) + ((-1) * v_iv (n_v vs 4) + ((-3571603) * v_iv (n_v vs 9) + (3571603 * v_iv (n_v vs 7) + 0))) ≤ (-3570859) := f25
  obtain ⟨ta5, w5, le5, ⟨_, s5⟩, hf⟩ := fc_us (show ¬ (102 : Nat) < 100 from by decide) hf
  obtain ⟨f27, hf⟩ := fc_un (show (23 : Nat) < 100 from by decide) hf
  have f27 : 1 * v_iv (n_v vs 15) + ((-1) * v_iv (n_v vs 4) + ((-3571603) * v_iv (n_v vs 9) + (3571603 * v_iv (n_v vs 7) + 0))) ≤ (-3570859) := f27
  obtain ⟨f28, hf⟩ := fc_un (show (7 : Nat) < 100 from by decide) hf
  have f28 : v_iv (n_v vs 12) = v_iv (n_v vs 7) := f28
  obtain ⟨f29, hf⟩ := fc_un (show (7 : Nat) < 100 from by decide) hf
  have f29 : v_iv (n_v vs 9) < v_iv (n_v vs 10) := f29
  have q5 : n_v vs 5 = n_v vs 0 := f6.symm
  rw [q5] at f7
  have kz_0_12 : 0 ≤ w_fi ws (n_v vs 0) 12 ∧ w_fi ws (n_v vs 0) 12 ≤ 100000000 := tv_rng (th_fd hD hth r0 (g := GG_12) rfl (k := 12) (t := (0, 0, 100000000, [])) rfl rfl)
  have nf0 : fc_1 (20, [5, 4, 27, 7], [30, -3570859, 1, 1, 12, -1, 0, 0, -3571603, 0, 0, 3571603, 0, 0]) ws (vs) := by
    refine ⟨fun n hn => ?_, ?_⟩
    · have hn : n ∈ [5, 4, 27, 7] := hn
      rw [hl]
      simp only [List.mem_cons, List.not_mem_nil, or_false] at hn
      show n < 28; omega
    · show 1 * w_fi ws (n_v vs 5) 12 + ((-1) * v_iv (n_v vs 4) + ((-3571603) * v_iv (n_v vs 27) + (3571603 * v_iv (n_v vs 7) + 0))) ≤ (-3570859)
      rw [q5]
      omega
  refine ⟨(fun _ h => (by cases h)), [], trivial, ?_, (fun _ h => (by cases h))⟩
  rw [List.append_nil]
  exact List.forall_mem_cons.mpr ⟨⟨show (20 : Nat) < 100 from by decide, nf0⟩, (fun _ h => (by cases h))⟩
def n_Ho_writeGroup_at_k0_an : List an_T := [(3, [(0, (2, 0, 0, [12])), (1, (2, 0, 0, [3])), (2, (0, 0, 0, [])), (3, (0, 0, 0, [])), (4, (0, 0, 24, []))], [], (0, 0), [(0, 0, 99997), (1, 9, 24), (0, 0, 100000)], [(2, 3, -1000000000000, 0), (2, 4, -1000000000000, 0), (2, 7, -1000000000000, 0), (2, 8, -1000000000000, 0), (2, 9, -1000000000000, 0), (3, 2, -1000000000000, 0), (3, 4, -1000000000000, 0), (3, 7, -1000000000000, 0), (3, 8, -1000000000000, 0), (3, 9, -1000000000000, 0), (7, 2, -1000000000000, 0), (7, 3, -1000000000000, 0), (7, 4, -1000000000000, 0), (7, 8, -1000000000000, 0), (7, 9, -1000000000000, 0), (8, 2, -1000000000000, 0), (8, 3, -1000000000000, 0), (8, 4, -1000000000000, 0), (8, 7, -1000000000000, 0), (8, 9, -1000000000000, 0)], [], [(2, 0, 0, [12]), (2, 0, 0, [3]), (0, 0, 0, []), (0, 0, 0, []), (0, 0, 71426432, [])], 0, [], [(20, [5, 4, 9], [30, 0, 1, 1, 12, -1, 0, 0, -31, 0, 0]), (24, [0, 5], [])]), (100, [(0, (2, 0, 0, [12])), (1, (2, 0, 0, [3])), (2, (0, 0, 0, [])), (3, (0, 0, 0, [])), (4, (0, 1, 8, []))], [], (0, 0), [(0, 0, 99900), (1, 9, 8), (0, 0, 100000)], [(2, 3, -1000000000000, 0), (2, 4, -1000000000000, 0), (2, 7, -1000000000000, 0), (2, 8, -1000000000000, 0), (2, 9, -1000000000000, -1), (3, 2, -1000000000000, 0), (3, 4, -1000000000000, 0), (3, 7, -1000000000000, 0), (3, 8, -1000000000000, 0), (3, 9, -1000000000000, -1), (7, 2, -1000000000000, 0), (7, 3, -1000000000000, 0), (7, 4, -1000000000000, 0), (7, 8, -1000000000000, 0), (7, 9, -1000000000000, -1), (8, 2, -1000000000000, 0), (8, 3, -1000000000000, 0), (8, 4, -1000000000000, 0), (8, 7, -1000000000000, 0), (8, 9, -1000000000000, -1)], [], [(2, 0, 0, [12]), (2, 0, 0, [3]), (0, 0, 0, []), (0, 0, 0, []), (0, 0, 71426432, [])], 0, [], [(20, [5, 4, 9, 7], [30, -3570859, 1, 1, 12, -1, 0, 0, -3571603, 0, 0, 3571603, 0, 0]), (24, [0, 5], [])])]
def t_Ho_writeGroup_at_k0_ct : ct_L := [(1, 447, e_Ho_writeByte), (1, 471, e_Ho_writeNumber), (85, 461, e_Ho_writeWord_at_s5013), (136, 465, e_Ho_writeName_at_Grname), (190, 461, e_Ho_writeWord_at_s5014), (262, 461, e_Ho_writeWord_at_s5015), (391, 461, e_Ho_writeWord_at_s5016), (442, 465, e_Ho_writeName_at_GrgroupName), (463, 461, e_Ho_writeWord_at_s5017), (493, 364, e_Ho_writeGroup_at_k1), (514, 461, e_Ho_writeWord_at_s5018), (1000001, 459, en_ro [] (2, 0, 0, [5013])), (1000001, 469, en_ro [] (2, 0, 0, [5014])), (1000001, 474, en_ro [] (2, 0, 0, [5015])), (1000001, 476, en_ro [] (2, 0, 0, [5016])), (1000001, 478, en_ro [] (2, 0, 0, [5017])), (1000001, 480, en_ro [] (2, 0, 0, [5018]))]
set_option maxRecDepth 100000 in
theorem c_Ho_writeGroup_at_k0 {l : Launch} {D : va_G} {kA : Nat → ClassId} (h_Ho_writeByte : ct_ok l D kA GG y_Ho_writeByte z_Ho_writeByte e_Ho_writeByte) (h_Ho_writeGroup_at_k1 : ct_ok l D kA GG y_Ho_writeGroup_at_k1 z_Ho_writeGroup_at_k1 e_Ho_writeGroup_at_k1) (h_Ho_writeName_at_GrgroupName : ct_ok l D kA GG y_Ho_writeName_at_GrgroupName z_Ho_writeName_at_GrgroupName e_Ho_writeName_at_GrgroupName) (h_Ho_writeName_at_Grname : ct_ok l D kA GG y_Ho_writeName_at_Grname z_Ho_writeName_at_Grname e_Ho_writeName_at_Grname) (h_Ho_writeNumber : ct_ok l D kA GG y_Ho_writeNumber z_Ho_writeNumber e_Ho_writeNumber) (h_Ho_writeWord_at_s5013 : ct_ok l D kA GG y_Ho_writeWord_at_s5013 z_Ho_writeWord_at_s5013 e_Ho_writeWord_at_s5013) (h_Ho_writeWord_at_s5014 : ct_ok l D kA GG y_Ho_writeWord_at_s5014 z_Ho_writeWord_at_s5014 e_Ho_writeWord_at_s5014) (h_Ho_writeWord_at_s5015 : ct_ok l D kA GG y_Ho_writeWord_at_s5015 z_Ho_writeWord_at_s5015 e_Ho_writeWord_at_s5015) (h_Ho_writeWord_at_s5016 : ct_ok l D kA GG y_Ho_writeWord_at_s5016 z_Ho_writeWord_at_s5016 e_Ho_writeWord_at_s5016) (h_Ho_writeWord_at_s5017 : ct_ok l D kA GG y_Ho_writeWord_at_s5017 z_Ho_writeWord_at_s5017 e_Ho_writeWord_at_s5017) (h_Ho_writeWord_at_s5018 : ct_ok l D kA GG y_Ho_writeWord_at_s5018 z_Ho_writeWord_at_s5018 e_Ho_writeWord_at_s5018) : ct_ok l D kA GG y_Ho_writeGroup_at_k0 z_Ho_writeGroup_at_k0 e_Ho_writeGroup_at_k0 := chk_all_ok (FT := [(132, 3, 0), (144, 3, 2), (169, 3, 4), (172, 3, 5), (175, 3, 6), (221, 3, 11), (224, 3, 13), (230, 3, 3), (233, 3, 12)]) (PT := []) (CT := t_Ho_writeGroup_at_k0_ct) (KT := []) (NT := []) (AN := n_Ho_writeGroup_at_k0_an) (OT := [o_Ho_writeGroup_at_k0_0, o_Ho_writeGroup_at_k0_1, o_Ho_writeGroup_at_k0_2, o_Ho_writeGroup_at_k0_3, o_Ho_writeGroup_at_k0_4, o_Ho_writeGroup_at_k0_5, o_Ho_writeGroup_at_k0_6, o_Ho_writeGroup_at_k0_7, o_Ho_writeGroup_at_k0_8, o_Ho_writeGroup_at_k0_9, o_Ho_writeGroup_at_k0_10, o_Ho_writeGroup_at_k0_11, o_Ho_writeGroup_at_k0_12, o_Ho_writeGroup_at_k0_13, o_Ho_writeGroup_at_k0_14, o_Ho_writeGroup_at_k0_15, o_Ho_writeGroup_at_k0_16, o_Ho_writeGroup_at_k0_17, o_Ho_writeGroup_at_k0_18, o_Ho_writeGroup_at_k0_19]) 3 404 (List.forall_mem_cons.mpr ⟨oo_Ho_writeGroup_at_k0_0, List.forall_mem_cons.mpr ⟨oo_Ho_writeGroup_at_k0_1, List.forall_mem_cons.mpr ⟨oo_Ho_writeGroup_at_k0_2, List.forall_mem_cons.mpr ⟨oo_Ho_writeGroup_at_k0_3, List.forall_mem_cons.mpr ⟨oo_Ho_writeGroup_at_k0_4, List.forall_mem_cons.mpr ⟨oo_Ho_writeGroup_at_k0_5, List.forall_mem_cons.mpr ⟨oo_Ho_writeGroup_at_k0_6, List.forall_mem_cons.mpr ⟨oo_Ho_writeGroup_at_k0_7, List.forall_mem_cons.mpr ⟨oo_Ho_writeGroup_at_k0_8, List.forall_mem_cons.mpr ⟨oo_Ho_writeGroup_at_k0_9, List.forall_mem_cons.mpr ⟨oo_Ho_writeGroup_at_k0_10, List.forall_mem_cons.mpr ⟨oo_Ho_writeGroup_at_k0_11, List.forall_mem_cons.mpr ⟨oo_Ho_writeGroup_at_k0_12, List.forall_mem_cons.mpr ⟨oo_Ho_writeGroup_at_k0_13, List.forall_mem_cons.mpr ⟨oo_Ho_writeGroup_at_k0_14, List.forall_mem_cons.mpr ⟨oo_Ho_writeGroup_at_k0_15, List.forall_mem_cons.mpr ⟨oo_Ho_writeGroup_at_k0_16, List.forall_mem_cons.mpr ⟨oo_Ho_writeGroup_at_k0_17, List.forall_mem_cons.mpr ⟨oo_Ho_writeGroup_at_k0_18, List.forall_mem_cons.mpr ⟨oo_Ho_writeGroup_at_k0_19, List.forall_mem_nil _⟩⟩⟩⟩⟩⟩⟩⟩⟩⟩⟩⟩⟩⟩⟩⟩⟩⟩⟩⟩) (by decide +kernel) ⟨List.forall_mem_cons.mpr ⟨gf_Ho_132, List.forall_mem_cons.mpr ⟨gf_Ho_144, List.forall_mem_cons.mpr ⟨gf_Ho_169, List.forall_mem_cons.mpr ⟨gf_Ho_172, List.forall_mem_cons.mpr ⟨gf_Ho_175, List.forall_mem_cons.mpr ⟨gf_Ho_221, List.forall_mem_cons.mpr ⟨gf_Ho_224, List.forall_mem_cons.mpr ⟨gf_Ho_230, List.forall_mem_cons.mpr ⟨gf_Ho_233, List.forall_mem_nil _⟩⟩⟩⟩⟩⟩⟩⟩⟩, List.forall_mem_nil _, List.forall_mem_cons.mpr ⟨cl_virtual (y := y_Ho_writeByte) (ci := 12) rfl rfl ⟨_, _, rfl⟩ (by decide +kernel) h_Ho_writeByte wm_2345 wm_1 wm_2342 wm_2344 wv_12_0 ⟨by decide, by decide, by decide +kernel⟩ (by decide), List.forall_mem_cons.mpr ⟨cl_virtual (y := y_Ho_writeNumber) (ci := 12) rfl rfl ⟨_, _, rfl⟩ (by decide +kernel) h_Ho_writeNumber wm_2354 wm_1 wm_2351 wm_2353 wv_12_2 ⟨by decide, by decide, by decide +kernel⟩ (by decide), List.forall_mem_cons.mpr ⟨cl_virtual (y := y_Ho_writeWord_at_s5013) (ci := 12) rfl rfl ⟨_, _, rfl⟩ (by decide +kernel) h_Ho_writeWord_at_s5013 wm_2339 wm_1 wm_2336 wm_2338 wv_11_15 ⟨by decide, by decide, by decide +kernel⟩ (by decide), List.forall_mem_cons.mpr ⟨cl_virtual (y := y_Ho_writeName_at_Grname) (ci := 12) rfl rfl ⟨_, _, rfl⟩ (by decide +kernel) h_Ho_writeName_at_Grname wm_2349 wm_1 wm_2346 wm_2348 wv_12_1 ⟨by decide, by decide, by decide +kernel⟩ (by decide), List.forall_mem_cons.mpr ⟨cl_virtual (y := y_Ho_writeWord_at_s5014) (ci := 12) rfl rfl ⟨_, _, rfl⟩ (by decide +kernel) h_Ho_writeWord_at_s5014 wm_2339 wm_1 wm_2336 wm_2338 wv_11_15 ⟨by decide, by decide, by decide +kernel⟩ (by decide), List.forall_mem_cons.mpr ⟨cl_virtual (y := y_Ho_writeWord_at_s5015) (ci := 12) rfl rfl ⟨_, _, rfl⟩ (by decide +kernel) h_Ho_writeWord_at_s5015 wm_2339 wm_1 wm_2336 wm_2338 wv_11_15 ⟨by decide, by decide, by decide +kernel⟩ (by decide), List.forall_mem_cons.mpr ⟨cl_virtual (y := y_Ho_writeWord_at_s5016) (ci := 12) rfl rfl ⟨_, _, rfl⟩ (by decide +kernel) h_Ho_writeWord_at_s5016 wm_2339 wm_1 wm_2336 wm_2338 wv_11_15 ⟨by decide, by decide, by decide +kernel⟩ (by decide), List.forall_mem_cons.mpr ⟨cl_virtual (y := y_Ho_writeName_at_GrgroupName) (ci := 12) rfl rfl ⟨_, _, rfl⟩ (by decide +kernel) h_Ho_writeName_at_GrgroupName wm_2349 wm_1 wm_2346 wm_2348 wv_12_1 ⟨by decide, by decide, by decide +kernel⟩ (by decide), List.forall_mem_cons.mpr ⟨cl_virtual (y := y_Ho_writeWord_at_s5017) (ci := 12) rfl rfl ⟨_, _, rfl⟩ (by decide +kernel) h_Ho_writeWord_at_s5017 wm_2339 wm_1 wm_2336 wm_2338 wv_11_15 ⟨by decide, by decide, by decide +kernel⟩ (by decide), List.forall_mem_cons.mpr ⟨cl_virtual (y := y_Ho_writeGroup_at_k1) (ci := 12) rfl rfl ⟨_, _, rfl⟩ (by decide +kernel) h_Ho_writeGroup_at_k1 wm_2334 wm_1 wm_2331 wm_2333 wv_11_14 ⟨by decide, by decide, by decide +kernel⟩ (by decide), List.forall_mem_cons.mpr ⟨cl_virtual (y := y_Ho_writeWord_at_s5018) (ci := 12) rfl rfl ⟨_, _, rfl⟩ (by decide +kernel) h_Ho_writeWord_at_s5018 wm_2339 wm_1 wm_2336 wm_2338 wv_11_15 ⟨by decide, by decide, by decide +kernel⟩ (by decide), List.forall_mem_cons.mpr ⟨cl_ldcw (own := "DrawingHouse") (idx := 459) (i := 13) (tx := "node ") (by decide +kernel) (by decide +kernel) (by decide +kernel), List.forall_mem_cons.mpr ⟨cl_ldcw (own := "DrawingHouse") (idx := 469) (i := 14) (tx := " [size=") (by decide +kernel) (by decide +kernel) (by decide +kernel), List.forall_mem_cons.mpr ⟨cl_ldcw (own := "DrawingHouse") (idx := 474) (i := 15) (tx := ";\n") (by decide +kernel) (by decide +kernel) (by decide +kernel), List.forall_mem_cons.mpr ⟨cl_ldcw (own := "DrawingHouse") (idx := 476) (i := 16) (tx := "group ") (by decide +kernel) (by decide +kernel) (by decide +kernel), List.forall_mem_cons.mpr ⟨cl_ldcw (own := "DrawingHouse") (idx := 478) (i := 17) (tx := " {\n") (by decide +kernel) (by decide +kernel) (by decide +kernel), List.forall_mem_cons.mpr ⟨cl_ldcw (own := "DrawingHouse") (idx := 480) (i := 18) (tx := "}\n") (by decide +kernel) (by decide +kernel) (by decide +kernel), List.forall_mem_nil _⟩⟩⟩⟩⟩⟩⟩⟩⟩⟩⟩⟩⟩⟩⟩⟩⟩, List.forall_mem_nil _, List.forall_mem_nil _, GG_pl⟩ (by decide +kernel)
