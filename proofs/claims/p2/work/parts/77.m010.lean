def o_Ho_writeWord_at_s5019_0 : or_T := (2, 4, [(0, (2, 0, 0, [12])), (2, (0, 0, 99999997, [])), (3, (0, 0, 0, []))], [(20, [0, 2], [30, 0, 1, 1, 12, -1, 0, 0])], [], [], [(20, [0, 2, 3], [30, 0, 1, 1, 12, -1, 0, 0, -1, 0, 0]), (24, [0, 0], [])], [], [])
theorem oo_Ho_writeWord_at_s5019_0 {kA : Nat → ClassId} : or_ok kA GG o_Ho_writeWord_at_s5019_0 := by
  intro A ta ws vs hD hth hl hk hds hf
  have hl : vs.length = 4 := hl
  have hk : ∀ q ∈ ([(0, (2, 0, 0, [12])), (2, (0, 0, 99999997, [])), (3, (0, 0, 0, []))] : List (Nat × tv_T)), tv_ok ta q.2 (n_v vs q.1) := hk
  obtain ⟨t0, hk⟩ := List.forall_mem_cons.mp hk
  have t0 : tv_ok ta (2, 0, 0, [12]) (n_v vs 0) := t0
  have r0 : ta (v_ad (n_v vs 0)) = some 12 := tv_rg t0
  obtain ⟨t2, hk⟩ := List.forall_mem_cons.mp hk
  have t2 : tv_ok ta (0, 0, 99999997, []) (n_v vs 2) := t2
  have k2 : 0 ≤ v_iv (n_v vs 2) ∧ v_iv (n_v vs 2) ≤ 99999997 := tv_rng t2
  obtain ⟨t3, hk⟩ := List.forall_mem_cons.mp hk
  have t3 : tv_ok ta (0, 0, 0, []) (n_v vs 3) := t3
  have k3 : 0 ≤ v_iv (n_v vs 3) ∧ v_iv (n_v vs 3) ≤ 0 := tv_rng t3
  have hf : fc_ok [(20, [0, 2], [30, 0, 1, 1, 12, -1, 0, 0])] ta ws vs := hf
  obtain ⟨f0, hf⟩ := fc_un (show (20 : Nat) < 100 from by decide) hf
  have f0 : 1 * w_fi ws (n_v vs 0) 12 + ((-1) * v_iv (n_v vs 2) + 0) ≤ 0 := f0
  have kz_0_12 : 0 ≤ w_fi ws (n_v vs 0) 12 ∧ w_fi ws (n_v vs 0) 12 ≤ 100000000 := tv_rng (th_fd hD hth r0 (g := GG_12) rfl (k := 12) (t := (0, 0, 100000000, [])) rfl rfl)
  have nf0 : fc_1 (20, [0, 2, 3], [30, 0, 1, 1, 12, -1, 0, 0, -1, 0, 0]) ws (vs) := by
    refine ⟨fun n hn => ?_, ?_⟩
    · have hn : n ∈ [0, 2, 3] := hn
      rw [hl]
      simp only [List.mem_cons, List.not_mem_nil, or_false] at hn
      show n < 4; omega
    · show 1 * w_fi ws (n_v vs 0) 12 + ((-1) * v_iv (n_v vs 2) + ((-1) * v_iv (n_v vs 3) + 0)) ≤ 0
      omega
  have nf1 : fc_1 (24, [0, 0], []) ws (vs) := by
    refine ⟨fun n hn => ?_, ?_⟩
    · have hn : n ∈ [0, 0] := hn
      rw [hl]
      simp only [List.mem_cons, List.not_mem_nil, or_false] at hn
      show n < 4; omega
    · show n_v vs 0 = n_v vs 0
      first | rfl | simp only [true_and]
  refine ⟨(fun _ h => (by cases h)), [], trivial, ?_, (fun _ h => (by cases h))⟩
  rw [List.append_nil]
  exact List.forall_mem_cons.mpr ⟨⟨show (20 : Nat) < 100 from by decide, nf0⟩, List.forall_mem_cons.mpr ⟨⟨show (24 : Nat) < 100 from by decide, nf1⟩, (fun _ h => (by cases h))⟩⟩
def o_Ho_writeWord_at_s5019_1 : or_T := (25, 7, [(0, (2, 0, 0, [12])), (2, (0, 0, 99999997, [])), (3, (2, 0, 0, [12])), (5, (0, 3, 3, [])), (6, (0, 3, 3, []))], [(7, [5, 6], [3]), (20, [3, 2, 5], [30, 0, 1, 1, 12, -1, 0, 0, -1, 0, 0]), (24, [0, 3], [])], [], [], [(20, [0, 2], [30, 3, 1, 1, 12, -1, 0, 0])], [], [])
theorem oo_Ho_writeWord_at_s5019_1 {kA : Nat → ClassId} : or_ok kA GG o_Ho_writeWord_at_s5019_1 := by
  intro A ta ws vs hD hth hl hk hds hf
  have hl : vs.length = 7 := hl
  have hk : ∀ q ∈ ([(0, (2, 0, 0, [12])), (2, (0, 0, 99999997, [])), (3, (2, 0, 0, [12])), (5, (0, 3, 3, [])), (6, (0, 3, 3, []))] : List (Nat × tv_T)), tv_ok ta q.2 (n_v vs q.1) := hk
  obtain ⟨t0, hk⟩ := List.forall_mem_cons.mp hk
  have t0 : tv_ok ta (2, 0, 0, [12]) (n_v vs 0) := t0
  have r0 : ta (v_ad (n_v vs 0)) = some 12 := tv_rg t0
  obtain ⟨t2, hk⟩ := List.forall_mem_cons.mp hk
  have t2 : tv_ok ta (0, 0, 99999997, []) (n_v vs 2) := t2
  have k2 : 0 ≤ v_iv (n_v vs 2) ∧ v_iv (n_v vs 2) ≤ 99999997 := tv_rng t2
  obtain ⟨t3, hk⟩ := List.forall_mem_cons.mp hk
  have t3 : tv_ok ta (2, 0, 0, [12]) (n_v vs 3) := t3
  have r3 : ta (v_ad (n_v vs 3)) = some 12 := tv_rg t3
  obtain ⟨t5, hk⟩ := List.forall_mem_cons.mp hk
  have t5 : tv_ok ta (0, 3, 3, []) (n_v vs 5) := t5
  have k5 : 3 ≤ v_iv (n_v vs 5) ∧ v_iv (n_v vs 5) ≤ 3 := tv_rng t5
  obtain ⟨t6, hk⟩ := List.forall_mem_cons.mp hk
  have t6 : tv_ok ta (0, 3, 3, []) (n_v vs 6) := t6
  have k6 : 3 ≤ v_iv (n_v vs 6) ∧ v_iv (n_v vs 6) ≤ 3 := tv_rng t6
  have hf : fc_ok [(7, [5, 6], [3]), (20, [3, 2, 5], [30, 0, 1, 1, 12, -1, 0, 0, -1, 0, 0]), (24, [0, 3], [])] ta ws vs := hf
  obtain ⟨f0, hf⟩ := fc_un (show (7 : Nat) < 100 from by decide) hf
  have f0 : v_iv (n_v vs 6) ≤ v_iv (n_v vs 5) := f0
  obtain ⟨f1, hf⟩ := fc_un (show (20 : Nat) < 100 from by decide) hf
  have f1 : 1 * w_fi ws (n_v vs 3) 12 + ((-1) * v_iv (n_v vs 2) + ((-1) * v_iv (n_v vs 5) + 0)) ≤ 0 := f1
  obtain ⟨f2, hf⟩ := fc_un (show (24 : Nat) < 100 from by decide) hf
  have f2 : n_v vs 0 = n_v vs 3 := f2
  have q3 : n_v vs 3 = n_v vs 0 := f2.symm
  rw [q3] at f1
  have kz_0_12 : 0 ≤ w_fi ws (n_v vs 0) 12 ∧ w_fi ws (n_v vs 0) 12 ≤ 100000000 := tv_rng (th_fd hD hth r0 (g := GG_12) rfl (k := 12) (t := (0, 0, 100000000, [])) rfl rfl)
  have nf0 : fc_1 (20, [0, 2], [30, 3, 1, 1, 12, -1, 0, 0]) ws (vs) := by
    refine ⟨fun n hn => ?_, ?_⟩
    · have hn : n ∈ [0, 2] := hn
      rw [hl]
      simp only [List.mem_cons, List.not_mem_nil, or_false] at hn
      show n < 7; omega
    · show 1 * w_fi ws (n_v vs 0) 12 + ((-1) * v_iv (n_v vs 2) + 0) ≤ 3
      omega
  refine ⟨(fun _ h => (by cases h)), [], trivial, ?_, (fun _ h => (by cases h))⟩
  rw [List.append_nil]
  exact List.forall_mem_cons.mpr ⟨⟨show (20 : Nat) < 100 from by decide, nf0⟩, (fun _ h => (by cases h))⟩
def o_Ho_writeWord_at_s5019_2 : or_T := (16, 8, [(0, (2, 0, 0, [12])), (2, (0, 0, 99999997, [])), (3, (2, 0, 0, [12])), (5, (0, 0, 2, [])), (6, (0, 3, 3, []))], [(7, [5, 6], [2]), (20, [3, 2, 5], [30, 0, 1, 1, 12, -1, 0, 0, -1, 0, 0]), (24, [0, 3], [])], [], [(0, 0, 99999999, [])], [(20, [3, 8], [30, 0, 1, 1, 12, -1, 0, 0]), (23, [8, 2, 5], [0, 1, -1, -1])], [], [])
theorem oo_Ho_writeWord_at_s5019_2 {kA : Nat → ClassId} : or_ok kA GG o_Ho_writeWord_at_s5019_2 := by
  intro A ta ws vs hD hth hl hk hds hf
  have hl : vs.length = 8 := hl
  have hk : ∀ q ∈ ([(0, (2, 0, 0, [12])), (2, (0, 0, 99999997, [])), (3, (2, 0, 0, [12])), (5, (0, 0, 2, [])), (6, (0, 3, 3, []))] : List (Nat × tv_T)), tv_ok ta q.2 (n_v vs q.1) := hk
  obtain ⟨t0, hk⟩ := List.forall_mem_cons.mp hk
  have t0 : tv_ok ta (2, 0, 0, [12]) (n_v vs 0) := t0
  have r0 : ta (v_ad (n_v vs 0)) = some 12 := tv_rg t0
  obtain ⟨t2, hk⟩ := List.forall_mem_cons.mp hk
  have t2 : tv_ok ta (0, 0, 99999997, []) (n_v vs 2) := t2
  have k2 : 0 ≤ v_iv (n_v vs 2) ∧ v_iv (n_v vs 2) ≤ 99999997 := tv_rng t2
  obtain ⟨t3, hk⟩ := List.forall_mem_cons.mp hk
  have t3 : tv_ok ta (2, 0, 0, [12]) (n_v vs 3) := t3
  have r3 : ta (v_ad (n_v vs 3)) = some 12 := tv_rg t3
  obtain ⟨t5, hk⟩ := List.forall_mem_cons.mp hk
  have t5 : tv_ok ta (0, 0, 2, []) (n_v vs 5) := t5
  have k5 : 0 ≤ v_iv (n_v vs 5) ∧ v_iv (n_v vs 5) ≤ 2 := tv_rng t5
  obtain ⟨t6, hk⟩ := List.forall_mem_cons.mp hk
  have t6 : tv_ok ta (0, 3, 3, []) (n_v vs 6) := t6
  have k6 : 3 ≤ v_iv (n_v vs 6) ∧ v_iv (n_v vs 6) ≤ 3 := tv_rng t6
  have hf : fc_ok [(7, [5, 6], [2]), (20, [3, 2, 5], [30, 0, 1, 1, 12, -1, 0, 0, -1, 0, 0]), (24, [0, 3], [])] ta ws vs := hf
  obtain ⟨f0, hf⟩ := fc_un (show (7 : Nat) < 100 from by decide) hf
  have f0 : v_iv (n_v vs 5) < v_iv (n_v vs 6) := f0
  obtain ⟨f1, hf⟩ := fc_un (show (20 : Nat) < 100 from by decide) hf
  have f1 : 1 * w_fi ws (n_v vs 3) 12 + ((-1) * v_iv (n_v vs 2) + ((-1) * v_iv (n_v vs 5) + 0)) ≤ 0 := f1
  obtain ⟨f2, hf⟩ := fc_un (show (24 : Nat) < 100 from by decide) hf
  have f2 : n_v vs 0 = n_v vs 3 := f2
  have q3 : n_v vs 3 = n_v vs 0 := f2.symm
  rw [q3] at f1
  have kz_0_12 : 0 ≤ w_fi ws (n_v vs 0) 12 ∧ w_fi ws (n_v vs 0) 12 ≤ 100000000 := tv_rng (th_fd hD hth r0 (g := GG_12) rfl (k := 12) (t := (0, 0, 100000000, [])) rfl rfl)
  have kv0 : 0 ≤ w_fi ws (n_v vs 0) 12 ∧ w_fi ws (n_v vs 0) 12 ≤ 100000000 := tv_rng (th_fd hD hth r0 (g := GG_12) rfl (k := 12) (t := (0, 0, 100000000, [])) rfl rfl)
  obtain ⟨x, ex, hx⟩ := iv_ex (ta := ta) (lo := 0) (hi := 99999999) (z := w_fi ws (n_v vs 0) 12) (by omega) (by omega) (by omega) (by omega)
  have ex2 : v_iv (Value.int x) = w_fi ws (n_v vs 0) 12 := ex
  have ex3 : 0 ≤ v_iv (Value.int x) ∧ v_iv (Value.int x) ≤ 99999999 := tv_rng hx
  have e_2 : n_v (vs ++ [Value.int x]) 2 = n_v vs 2 := n_v_old (by rw [hl]; decide)
  have e_3 : n_v (vs ++ [Value.int x]) 3 = n_v vs 3 := n_v_old (by rw [hl]; decide)
  have e_5 : n_v (vs ++ [Value.int x]) 5 = n_v vs 5 := n_v_old (by rw [hl]; decide)
  have e_8 : n_v (vs ++ [Value.int x]) 8 = Value.int x := n_v_new hl
  have nf0 : fc_1 (20, [3, 8], [30, 0, 1, 1, 12, -1, 0, 0]) ws (vs ++ [Value.int x]) := by
    refine ⟨fun n hn => ?_, ?_⟩
    · have hn : n ∈ [3, 8] := hn
      rw [List.length_append, hl]
      simp only [List.mem_cons, List.not_mem_nil, or_false] at hn
      show n < 8 + 1; omega
    · show 1 * w_fi ws (n_v (vs ++ [Value.int x]) 3) 12 + ((-1) * v_iv (n_v (vs ++ [Value.int x]) 8) + 0) ≤ 0
      rw [e_3]
      rw [e_8]
      rw [q3]
      omega
  have nf1 : fc_1 (23, [8, 2, 5], [0, 1, -1, -1]) ws (vs ++ [Value.int x]) := by
    refine ⟨fun n hn => ?_, ?_⟩
    · have hn : n ∈ [8, 2, 5] := hn
      rw [List.length_append, hl]
      simp only [List.mem_cons, List.not_mem_nil, or_false] at hn
      show n < 8 + 1; omega
    · show 1 * v_iv (n_v (vs ++ [Value.int x]) 8) + ((-1) * v_iv (n_v (vs ++ [Value.int x]) 2) + ((-1) * v_iv (n_v (vs ++ [Value.int x]) 5) + 0)) ≤ 0
      rw [e_2]
      rw [e_5]
      rw [e_8]
      omega
  exact ⟨(fun _ h => (by cases h)), [Value.int x], ag_one hx, List.forall_mem_cons.mpr ⟨⟨show (20 : Nat) < 100 from by decide, nf0⟩, List.forall_mem_cons.mpr ⟨⟨show (23 : Nat) < 100 from by decide, nf1⟩, (fun _ h => (by cases h))⟩⟩, (fun _ h => (by cases h))⟩
def o_Ho_writeWord_at_s5019_3 : or_T := (2, 10, [(0, (2, 0, 0, [12])), (2, (0, 0, 99999997, [])), (3, (2, 0, 0, [12])), (5, (0, 0, 2, [])), (6, (0, 3, 3, [])), (8, (0, 0, 99999999, [])), (9, (0, 1, 3, []))], [(6, [9, 5], [1]), (23, [8, 2, 5], [0, 1, -1, -1]), (24, [0, 3], []), (20, [3, 8], [30, 1, 1, 1, 12, -1, 0, 0]), (102, [8], [261336857795280739939871698507597986398208, 12012]), (23, [8, 2, 5], [0, 1, -1, -1]), (7, [5, 6], [2])], [], [], [(20, [3, 2, 9], [30, 0, 1, 1, 12, -1, 0, 0, -1, 0, 0])], [], [(9, 5, 1, 1)])
theorem oo_Ho_writeWord_at_s5019_3 {kA : Nat → ClassId} : or_ok kA GG o_Ho_writeWord_at_s5019_3 := by
  intro A ta ws vs hD hth hl hk hds hf
  have hl : vs.length = 10 := hl
  have hk : ∀ q ∈ ([(0, (2, 0, 0, [12])), (2, (0, 0, 99999997, [])), (3, (2, 0, 0, [12])), (5, (0, 0, 2, [])), (6, (0, 3, 3, [])), (8, (0, 0, 99999999, [])), (9, (0, 1, 3, []))] : List (Nat × tv_T)), tv_ok ta q.2 (n_v vs q.1) := hk
  obtain ⟨t0, hk⟩ := List.forall_mem_cons.mp hk
  have t0 : tv_ok ta (2, 0, 0, [12]) (n_v vs 0) := t0
  have r0 : ta (v_ad (n_v vs 0)) = some 12 := tv_rg t0
  obtain ⟨t2, hk⟩ := List.forall_mem_cons.mp hk
  have t2 : tv_ok ta (0, 0, 99999997, []) (n_v vs 2) := t2
  have k2 : 0 ≤ v_iv (n_v vs 2) ∧ v_iv (n_v vs 2) ≤ 99999997 := tv_rng t2
  obtain ⟨t3, hk⟩ := List.forall_mem_cons.mp hk
  have t3 : tv_ok ta (2, 0, 0, [12]) (n_v vs 3) := t3
  have r3 : ta (v_ad (n_v vs 3)) = some 12 := tv_rg t3
  obtain ⟨t5, hk⟩ := List.forall_mem_cons.mp hk
  have t5 : tv_ok ta (0, 0, 2, []) (n_v vs 5) := t5
  have k5 : 0 ≤ v_iv (n_v vs 5) ∧ v_iv (n_v vs 5) ≤ 2 := tv_rng t5
  obtain ⟨t6, hk⟩ := List.forall_mem_cons.mp hk
  have t6 : tv_ok ta (0, 3, 3, []) (n_v vs 6) := t6
  have k6 : 3 ≤ v_iv (n_v vs 6) ∧ v_iv (n_v vs 6) ≤ 3 := tv_rng t6
  obtain ⟨t8, hk⟩ := List.forall_mem_cons.mp hk
  have t8 : tv_ok ta (0, 0, 99999999, []) (n_v vs 8) := t8
  have k8 : 0 ≤ v_iv (n_v vs 8) ∧ v_iv (n_v vs 8) ≤ 99999999 := tv_rng t8
  obtain ⟨t9, hk⟩ := List.forall_mem_cons.mp hk
  have t9 : tv_ok ta (0, 1, 3, []) (n_v vs 9) := t9
  have k9 : 1 ≤ v_iv (n_v vs 9) ∧ v_iv (n_v vs 9) ≤ 3 := tv_rng t9
  have hds : ∀ q ∈ ([(9, 5, 1, 1)] : List of_T), n_iv vs q.2.1 + q.2.2.1 ≤ n_iv vs q.1 ∧ n_iv vs q.1 ≤ n_iv vs q.2.1 + q.2.2.2 := hds
  obtain ⟨d0, hds⟩ := List.forall_mem_cons.mp hds
  have d0 : v_iv (n_v vs 5) + 1 ≤ v_iv (n_v vs 9) ∧ v_iv (n_v vs 9) ≤ v_iv (n_v vs 5) + 1 := d0
  have hf : fc_ok [(6, [9, 5], [1]), (23, [8, 2, 5], [0, 1, -1, -1]), (24, [0, 3], []), (20, [3, 8], [30, 1, 1, 1, 12, -1, 0, 0]), (102, [8], [261336857795280739939871698507597986398208, 12012]), (23, [8, 2, 5], [0, 1, -1, -1]), (7, [5, 6], [2])] ta ws vs := hf
  obtain ⟨f0, hf⟩ := fc_un (show (6 : Nat) < 100 from by decide) hf
  have f0 : v_iv (n_v vs 9) = v_iv (n_v vs 5) + 1 := f0
  obtain ⟨f1, hf⟩ := fc_un (show (23 : Nat) < 100 from by decide) hf
  have f1 : 1 * v_iv (n_v vs 8) + ((-1) * v_iv (n_v vs 2) + ((-1) * v_iv (n_v vs 5) + 0)) ≤ 0 := f1
  obtain ⟨f2, hf⟩ := fc_un (show (24 : Nat) < 100 from by decide) hf
  have f2 : n_v vs 0 = n_v vs 3 := f2
  obtain ⟨f3, hf⟩ := fc_un (show (20 : Nat) < 100 from by decide) hf
  have f3 : 1 * w_fi ws (n_v vs 3) 12 + ((-1) * v_iv (n_v vs 8) + 0) ≤ 1 := f3
  obtain ⟨ta1, w1, le1, ⟨_, s1⟩, hf⟩ := fc_us (show ¬ (102 : Nat) < 100 from by decide) hf
  obtain ⟨f5, hf⟩ := fc_un (show (23 : Nat) < 100 from by decide) hf
  have f5 : 1 * v_iv (n_v vs 8) + ((-1) * v_iv (n_v vs 2) + ((-1) * v_iv (n_v vs 5) + 0)) ≤ 0 := f5
  obtain ⟨f6, hf⟩ := fc_un (show (7 : Nat) < 100 from by decide) hf
  have f6 : v_iv (n_v vs 5) < v_iv (n_v vs 6) := f6
  have q3 : n_v vs 3 = n_v vs 0 := f2.symm
  rw [q3] at f3
  have kz_0_12 : 0 ≤ w_fi ws (n_v vs 0) 12 ∧ w_fi ws (n_v vs 0) 12 ≤ 100000000 := tv_rng (th_fd hD hth r0 (g := GG_12) rfl (k := 12) (t := (0, 0, 100000000, [])) rfl rfl)
  have nf0 : fc_1 (20, [3, 2, 9], [30, 0, 1, 1, 12, -1, 0, 0, -1, 0, 0]) ws (vs) := by
    refine ⟨fun n hn => ?_, ?_⟩
    · have hn : n ∈ [3, 2, 9] := hn
      rw [hl]
      simp only [List.mem_cons, List.not_mem_nil, or_false] at hn
      show n < 10; omega
    · show 1 * w_fi ws (n_v vs 3) 12 + ((-1) * v_iv (n_v vs 2) + ((-1) * v_iv (n_v vs 9) + 0)) ≤ 0
      rw [q3]
      omega
  refine ⟨(fun _ h => (by cases h)), [], trivial, ?_, (fun _ h => (by cases h))⟩
  rw [List.append_nil]
  exact List.forall_mem_cons.mpr ⟨⟨show (20 : Nat) < 100 from by decide, nf0⟩, (fun _ h => (by cases h))⟩
def n_Ho_writeWord_at_s5019_an : List an_T := [(2, [(0, (2, 0, 0, [12])), (1, (2, 0, 0, [5019])), (2, (0, 0, 3, []))], [], (0, 0), [(0, 0, 99998), (1, 5, 3), (0, 0, 100000)], [], [], [(2, 0, 0, [12]), (2, 0, 0, [5019]), (0, 0, 99999997, [])], 0, [], [(20, [3, 2, 5], [30, 0, 1, 1, 12, -1, 0, 0, -1, 0, 0]), (24, [0, 3], [])])]
def t_Ho_writeWord_at_s5019_ct : ct_L := [(1, 447, e_Ho_writeByte), (16, 438, e_jStr_length_v213), (43, 443, e_jStr_charAt_v214)]
set_option maxRecDepth 100000 in
theorem c_Ho_writeWord_at_s5019 {l : Launch} {D : va_G} {kA : Nat → ClassId} (h_Ho_writeByte : ct_ok l D kA GG y_Ho_writeByte z_Ho_writeByte e_Ho_writeByte) : ct_ok l D kA GG y_Ho_writeWord_at_s5019 z_Ho_writeWord_at_s5019 e_Ho_writeWord_at_s5019 := chk_all_ok (FT := []) (PT := []) (CT := t_Ho_writeWord_at_s5019_ct) (KT := []) (NT := []) (AN := n_Ho_writeWord_at_s5019_an) (OT := [o_Ho_writeWord_at_s5019_0, o_Ho_writeWord_at_s5019_1, o_Ho_writeWord_at_s5019_2, o_Ho_writeWord_at_s5019_3]) 3 200 (List.forall_mem_cons.mpr ⟨oo_Ho_writeWord_at_s5019_0, List.forall_mem_cons.mpr ⟨oo_Ho_writeWord_at_s5019_1, List.forall_mem_cons.mpr ⟨oo_Ho_writeWord_at_s5019_2, List.forall_mem_cons.mpr ⟨oo_Ho_writeWord_at_s5019_3, List.forall_mem_nil _⟩⟩⟩⟩) (by decide +kernel) ⟨List.forall_mem_nil _, List.forall_mem_nil _, List.forall_mem_cons.mpr ⟨cl_virtual (y := y_Ho_writeByte) (ci := 12) rfl rfl ⟨_, _, rfl⟩ (by decide +kernel) h_Ho_writeByte wm_2345 wm_1 wm_2342 wm_2344 wv_12_0 ⟨by decide, by decide, by decide +kernel⟩ (by decide), List.forall_mem_cons.mpr ⟨cl_string (y := y_jStr_length) (i := 19) rfl rfl (by decide +kernel) rfl c_jStr_length_v213 wm_674 wm_11 wm_2340 wm_672 wm_673 ⟨by decide, by decide, by decide +kernel⟩ (by decide), List.forall_mem_cons.mpr ⟨cl_string (y := y_jStr_charAt) (i := 19) rfl rfl (by decide +kernel) rfl c_jStr_charAt_v214 wm_684 wm_11 wm_2341 wm_682 wm_683 ⟨by decide, by decide, by decide +kernel⟩ (by decide), List.forall_mem_nil _⟩⟩⟩, List.forall_mem_nil _, List.forall_mem_nil _, GG_pl⟩ (by decide +kernel)
def o_Ho_writeWord_at_s5020_0 : or_T := (2, 4, [(0, (2, 0, 0, [12])), (2, (0, 0, 99999997, [])), (3, (0, 0, 0, []))], [(20, [0, 2], [30, 0, 1, 1, 12, -1, 0, 0])], [], [], [(20, [0, 2, 3], [30, 0, 1, 1, 12, -1, 0, 0, -1, 0, 0]), (24, [0, 0], [])], [], [])
theorem oo_Ho_writeWord_at_s5020_0 {kA : Nat → ClassId} : or_ok kA GG o_Ho_writeWord_at_s5020_0 := by
  intro A ta ws vs hD hth hl hk hds hf
  have hl : vs.length = 4 := hl
  have hk : ∀ q ∈ ([(0, (2, 0, 0, [12])), (2, (0, 0, 99999997, [])), (3, (0, 0, 0, []))] : List (Nat × tv_T)), tv_ok ta q.2 (n_v vs q.1) := hk
  obtain ⟨t0, hk⟩ := List.forall_mem_cons.mp hk
  have t0 : tv_ok ta (2, 0, 0, [12]) (n_v vs 0) := t0
  have r0 : ta (v_ad (n_v vs 0)) = some 12 := tv_rg t0
  obtain ⟨t2, hk⟩ := List.forall_mem_cons.mp hk
  have t2 : tv_ok ta (0, 0, 99999997, []) (n_v vs 2) := t2
  have k2 : 0 ≤ v_iv (n_v vs 2) ∧ v_iv (n_v vs 2) ≤ 99999997 := tv_rng t2
  obtain ⟨t3, hk⟩ := List.forall_mem_cons.mp hk
  have t3 : tv_ok ta (0, 0, 0, []) (n_v vs 3) := t3
  have k3 : 0 ≤ v_iv (n_v vs 3) ∧ v_iv (n_v vs 3) ≤ 0 := tv_rng t3
  have hf : fc_ok [(20, [0, 2], [30, 0, 1, 1, 12, -1, 0, 0])] ta ws vs := hf
  obtain ⟨f0, hf⟩ := fc_un (show (20 : Nat) < 100 from by decide) hf
  have f0 : 1 * w_fi ws (n_v vs 0) 12 + ((-1) * v_iv (n_v vs 2) + 0) ≤ 0 := f0
  have kz_0_12 : 0 ≤ w_fi ws (n_v vs 0) 12 ∧ w_fi ws (n_v vs 0) 12 ≤ 100000000 := tv_rng (th_fd hD hth r0 (g := GG_12) rfl (k := 12) (t := (0, 0, 100000000, [])) rfl rfl)
  have nf0 : fc_1 (20, [0, 2, 3], [30, 0, 1, 1, 12, -1, 0, 0, -1, 0, 0]) ws (vs) := by
    refine ⟨fun n hn => ?_, ?_⟩
    · have hn : n ∈ [0, 2, 3] := hn
      rw [hl]
      simp only [List.mem_cons, List.not_mem_nil, or_false] at hn
      show n < 4; omega
    · show 1 * w_fi ws (n_v vs 0) 12 + ((-1) * v_iv (n_v vs 2) + ((-1) * v_iv (n_v vs 3) + 0)) ≤ 0
      omega
  have nf1 : fc_1 (24, [0, 0], []) ws (vs) := by
    refine ⟨fun n hn => ?_, ?_⟩
    · have hn : n ∈ [0, 0] := hn
      rw [hl]
      simp only [List.mem_cons, List.not_mem_nil, or_false] at hn
      show n < 4; omega
    · show n_v vs 0 = n_v vs 0
      first | rfl | simp only [true_and]
  refine ⟨(fun _ h => (by cases h)), [], trivial, ?_, (fun _ h => (by cases h))⟩
  rw [List.append_nil]
  exact List.forall_mem_cons.mpr ⟨⟨show (20 : Nat) < 100 from by decide, nf0⟩, List.forall_mem_cons.mpr ⟨⟨show (24 : Nat) < 100 from by decide, nf1⟩, (fun _ h => (by cases h))⟩⟩
def o_Ho_writeWord_at_s5020_1 : or_T := (25, 7, [(0, (2, 0, 0, [12])), (2, (0, 0, 99999997, [])), (3, (2, 0, 0, [12])), (5, (0, 3, 3, [])), (6, (0, 3, 3, []))], [(7, [5, 6], [3]), (20, [3, 2, 5], [30, 0, 1, 1, 12, -1, 0, 0, -1, 0, 0]), (24, [0, 3], [])], [], [], [(20, [0, 2], [30, 3, 1, 1, 12, -1, 0, 0])], [], [])
theorem oo_Ho_writeWord_at_s5020_1 {kA : Nat → ClassId} : or_ok kA GG o_Ho_writeWord_at_s5020_1 := by
  intro A ta ws vs hD hth hl hk hds hf
  have hl : vs.length = 7 := hl
  have hk : ∀ q ∈ ([(0, (2, 0, 0, [12])), (2, (0, 0, 99999997, [])), (3, (2, 0, 0, [12])), (5, (0, 3, 3, [])), (6, (0, 3, 3, []))] : List (Nat × tv_T)), tv_ok ta q.2 (n_v vs q.1) := hk
  obtain ⟨t0, hk⟩ := List.forall_mem_cons.mp hk
  have t0 : tv_ok ta (2, 0, 0, [12]) (n_v vs 0) := t0
  have r0 : ta (v_ad (n_v vs 0)) = some 12 := tv_rg t0
  obtain ⟨t2, hk⟩ := List.forall_mem_cons.mp hk
  have t2 : tv_ok ta (0, 0, 99999997, []) (n_v vs 2) := t2
  have k2 : 0 ≤ v_iv (n_v vs 2) ∧ v_iv (n_v vs 2) ≤ 99999997 := tv_rng t2
  obtain ⟨t3, hk⟩ := List.forall_mem_cons.mp hk
  have t3 : tv_ok ta (2, 0, 0, [12]) (n_v vs 3) := t3
  have r3 : ta (v_ad (n_v vs 3)) = some 12 := tv_rg t3
  obtain ⟨t5, hk⟩ := List.forall_mem_cons.mp hk
  have t5 : tv_ok ta (0, 3, 3, []) (n_v vs 5) := t5
  have k5 : 3 ≤ v_iv (n_v vs 5) ∧ v_iv (n_v vs 5) ≤ 3 := tv_rng t5
  obtain ⟨t6, hk⟩ := List.forall_mem_cons.mp hk
  have t6 : tv_ok ta (0, 3, 3, []) (n_v vs 6) := t6
  have k6 : 3 ≤ v_iv (n_v vs 6) ∧ v_iv (n_v vs 6) ≤ 3 := tv_rng t6
  have hf : fc_ok [(7, [5, 6], [3]), (20, [3, 2, 5], [30, 0, 1, 1, 12, -1, 0, 0, -1, 0, 0]), (24, [0, 3], [])] ta ws vs := hf
  obtain ⟨f0, hf⟩ := fc_un (show (7 : Nat) < 100 from by decide) hf
  have f0 : v_iv (n_v vs 6) ≤ v_iv (n_v vs 5) := f0
  obtain ⟨f1, hf⟩ := fc_un (show (20 : Nat) < 100 from by decide) hf
  have f1 : 1 * w_fi ws (n_v vs 3) 12 + ((-1) * v_iv (n_v vs 2) + ((-1) * v_iv (n_v vs 5) + 0)) ≤ 0 := f1
  obtain ⟨f2, hf⟩ := fc_un (show (24 : Nat) < 100 from by decide) hf
  have f2 : n_v vs 0 = n_v vs 3 := f2
  have q3 : n_v vs 3 = n_v vs 0 := f2.symm
  rw [q3] at f1
  have kz_0_12 : 0 ≤ w_fi ws (n_v vs 0) 12 ∧ w_fi ws (n_v vs 0) 12 ≤ 100000000 := tv_rng (th_fd hD hth r0 (g := GG_12) rfl (k := 12) (t := (0, 0, 100000000, [])) rfl rfl)
  have nf0 : fc_1 (20, [0, 2], [30, 3, 1, 1, 12, -1, 0, 0]) ws (vs) := by
    refine ⟨fun n hn => ?_, ?_⟩
    · have hn : n ∈ [0, 2] := hn
      rw [hl]
      simp only [List.mem_cons, List.not_mem_nil, or_false] at hn
      show n < 7; omega
    · show 1 * w_fi ws (n_v vs 0) 12 + ((-1) * v_iv (n_v vs 2) + 0) ≤ 3
      omega
  refine ⟨(fun _ h => (by cases h)), [], trivial, ?_, (fun _ h => (by cases h))⟩
  rw [List.append_nil]
  exact List.forall_mem_cons.mpr ⟨⟨show (20 : Nat) < 100 from by decide, nf0⟩, (fun _ h => (by cases h))⟩
def o_Ho_writeWord_at_s5020_2 : or_T := (16, 8, [(0, (2, 0, 0, [12])), (2, (0, 0, 99999997, [])), (3, (2, 0, 0, [12])), (5, (0, 0, 2, [])), (6, (0, 3, 3, []))], [(7, [5, 6], [2]), (20, [3, 2, 5], [30, 0, 1, 1, 12, -1, 0, 0, -1, 0, 0]), (24, [0, 3], [])], [], [(0, 0, 99999999, [])], [(20, [3, 8], [30, 0, 1, 1, 12, -1, 0, 0]), (23, [8, 2, 5], [0, 1, -1, -1])], [], [])
theorem oo_Ho_writeWord_at_s5020_2 {kA : Nat → ClassId} : or_ok kA GG o_Ho_writeWord_at_s5020_2 := by
  intro A ta ws vs hD hth hl hk hds hf
  have hl : vs.length = 8 := hl
  have hk : ∀ q ∈ ([(0, (2, 0, 0, [12])), (2, (0, 0, 99999997, [])), (3, (2, 0, 0, [12])), (5, (0, 0, 2, [])), (6, (0, 3, 3, []))] : List (Nat × tv_T)), tv_ok ta q.2 (n_v vs q.1) := hk
  obtain ⟨t0, hk⟩ := List.forall_mem_cons.mp hk
  have t0 : tv_ok ta (2, 0, 0, [12]) (n_v vs 0) := t0
  have r0 : ta (v_ad (n_v vs 0)) = some 12 := tv_rg t0
  obtain ⟨t2, hk⟩ := List.forall_mem_cons.mp hk
  have t2 : tv_ok ta (0, 0, 99999997, []) (n_v vs 2) := t2
  have k2 : 0 ≤ v_iv (n_v vs 2) ∧ v_iv (n_v vs 2) ≤ 99999997 := tv_rng t2
  obtain ⟨t3, hk⟩ := List.forall_mem_cons.mp hk
  have t3 : tv_ok ta (2, 0, 0, [12]) (n_v vs 3) := t3
  have r3 : ta (v_ad (n_v vs 3)) = some 12 := tv_rg t3
  obtain ⟨t5, hk⟩ := List.forall_mem_cons.mp hk
  have t5 : tv_ok ta (0, 0, 2, []) (n_v vs 5) := t5
  have k5 : 0 ≤ v_iv (n_v vs 5) ∧ v_iv (n_v vs 5) ≤ 2 := tv_rng t5
  obtain ⟨t6, hk⟩ := List.forall_mem_cons.mp hk
  have t6 : tv_ok ta (0, 3, 3, []) (n_v vs 6) := t6
  have k6 : 3 ≤ v_iv (n_v vs 6) ∧ v_iv (n_v vs 6) ≤ 3 := tv_rng t6
  have hf : fc_ok [(7, [5, 6], [2]), (20, [3, 2, 5], [30, 0, 1, 1, 12, -1, 0, 0, -1, 0, 0]), (24, [0, 3], [])] ta ws vs := hf
  obtain ⟨f0, hf⟩ := fc_un (show (7 : Nat) < 100 from by decide) hf
  have f0 : v_iv (n_v vs 5) < v_iv (n_v vs 6) := f0
  obtain ⟨f1, hf⟩ := fc_un (show (20 : Nat) < 100 from by decide) hf
  have f1 : 1 * w_fi ws (n_v vs 3) 12 + ((-1) * v_iv (n_v vs 2) + ((-1) * v_iv (n_v vs 5) + 0)) ≤ 0 := f1
  obtain ⟨f2, hf⟩ := fc_un (show (24 : Nat) < 100 from by decide) hf
  have f2 : n_v vs 0 = n_v vs 3 := f2
  have q3 : n_v vs 3 = n_v vs 0 := f2.symm
  rw [q3] at f1
  have kz_0_12 : 0 ≤ w_fi ws (n_v vs 0) 12 ∧ w_fi ws (n_v vs 0) 12 ≤ 100000000 := tv_rng (th_fd hD hth r0 (g := GG_12) rfl (k := 12) (t := (0, 0, 100000000, [])) rfl rfl)
  have kv0 : 0 ≤ w_fi ws (n_v vs 0) 12 ∧ w_fi ws (n_v vs 0) 12 ≤ 100000000 := tv_rng (th_fd hD hth r0 (g := GG_12) rfl (k := 12) (t := (0, 0, 100000000, [])) rfl rfl)
  obtain ⟨x, ex, hx⟩ := iv_ex (ta := ta) (lo := 0) (hi := 99999999) (z := w_fi ws (n_v vs 0) 12) (by omega) (by omega) (by omega) (by omega)
  have ex2 : v_iv (Value.int x) = w_fi ws (n_v vs 0) 12 := ex
  have ex3 : 0 ≤ v_iv (Value.int x) ∧ v_iv (Value.int x) ≤ 99999999 := tv_rng hx
  have e_2 : n_v (vs ++ [Value.int x]) 2 = n_v vs 2 := n_v_old (by rw [hl]; decide)
  have e_3 : n_v (vs ++ [Value.int x]) 3 = n_v vs 3 := n_v_old (by rw [hl]; decide)
  have e_5 : n_v (vs ++ [Value.int x]) 5 = n_v vs 5 := n_v_old (by rw [hl]; decide)
  have e_8 : n_v (vs ++ [Value.int x]) 8 = Value.int x := n_v_new hl
  have nf0 : fc_1 (20, [3, 8], [30, 0, 1, 1, 12, -1, 0, 0]) ws (vs ++ [Value.int x]) := by
    refine ⟨fun n hn => ?_, ?_⟩
    · have hn : n ∈ [3, 8] := hn
      rw [List.length_append, hl]
      simp only [List.mem_cons, List.not_mem_nil, or_false] at hn
      show n < 8 + 1; omega
    · show 1 * w_fi ws (n_v (vs ++ [Value.int x]) 3) 12 + ((-1) * v_iv (n_v (vs ++ [Value.int x]) 8) + 0) ≤ 0
      rw [e_3]
      rw [e_8]
      rw [q3]
      omega
  have nf1 : fc_1 (23, [8, 2, 5], [0, 1, -1, -1]) ws (vs ++ [Value.int x]) := by
    refine ⟨fun n hn => ?_, ?_⟩
    · have hn : n ∈ [8, 2, 5] := hn
      rw [List.length_append, hl]
      simp only [List.mem_cons, List.not_mem_nil, or_false] at hn
      show n < 8 + 1; omega
    · show 1 * v_iv (n_v (vs ++ [Value.int x]) 8) + ((-1) * v_iv (n_v (vs ++ [Value.int x]) 2) + ((-1) * v_iv (n_v (vs ++ [Value.int x]) 5) + 0)) ≤ 0
      rw [e_2]
      rw [e_5]
      rw [e_8]
      omega
  exact ⟨(fun _ h => (by cases h)), [Value.int x], ag_one hx, List.forall_mem_cons.mpr ⟨⟨show (20 : Nat) < 100 from by decide, nf0⟩, List.forall_mem_cons.mpr ⟨⟨show (23 : Nat) < 100 from by decide, nf1⟩, (fun _ h => (by cases h))⟩⟩, (fun _ h => (by cases h))⟩
def o_Ho_writeWord_at_s5020_3 : or_T := (2, 10, [(0, (2, 0, 0, [12])), (2, (0, 0, 99999997, [])), (3, (2, 0, 0, [12])), (5, (0, 0, 2, [])), (6, (0, 3, 3, [])), (8, (0, 0, 99999999, [])), (9, (0, 1, 3, []))], [(6, [9, 5], [1]), (23, [8, 2, 5], [0, 1, -1, -1]), (24, [0, 3], []), (20, [3, 8], [30, 1, 1, 1, 12, -1, 0, 0]), (102, [8], [261336857795280739939871698507597986398208, 12012]), (23, [8, 2, 5], [0, 1, -1, -1]), (7, [5, 6], [2])], [], [], [(20, [3, 2, 9], [30, 0, 1, 1, 12, -1, 0, 0, -1, 0, 0])], [], [(9, 5, 1, 1)])
theorem oo_Ho_writeWord_at_s5020_3 {kA : Nat → ClassId} : or_ok kA GG o_Ho_writeWord_at_s5020_3 := by
  intro A ta ws vs hD hth hl hk hds hf
  have hl : vs.length = 10 := hl
  have hk : ∀ q ∈ ([(0, (2, 0, 0, [12])), (2, (0, 0, 99999997, [])), (3, (2, 0, 0, [12])), (5, (0, 0, 2, [])), (6, (0, 3, 3, [])), (8, (0, 0, 99999999, [])), (9, (0, 1, 3, []))] : List (Nat × tv_T)), tv_ok ta q.2 (n_v vs q.1) := hk
  obtain ⟨t0, hk⟩ := List.forall_mem_cons.mp hk
  have t0 : tv_ok ta (2, 0, 0, [12]) (n_v vs 0) := t0
  have r0 : ta (v_ad (n_v vs 0)) = some 12 := tv_rg t0
  obtain ⟨t2, hk⟩ := List.forall_mem_cons.mp hk
  have t2 : tv_ok ta (0, 0, 99999997, []) (n_v vs 2) := t2
  have k2 : 0 ≤ v_iv (n_v vs 2) ∧ v_iv (n_v vs 2) ≤ 99999997 := tv_rng t2
  obtain ⟨t3, hk⟩ := List.forall_mem_cons.mp hk
  have t3 : tv_ok ta (2, 0, 0, [12]) (n_v vs 3) := t3
  have r3 : ta (v_ad (n_v vs 3)) = some 12 := tv_rg t3
  obtain ⟨t5, hk⟩ := List.forall_mem_cons.mp hk
  have t5 : tv_ok ta (0, 0, 2, []) (n_v vs 5) := t5
  have k5 : 0 ≤ v_iv (n_v vs 5) ∧ v_iv (n_v vs 5) ≤ 2 := tv_rng t5
  obtain ⟨t6, hk⟩ := List.forall_mem_cons.mp hk
  have t6 : tv_ok ta (0, 3, 3, []) (n_v vs 6) := t6
  have k6 : 3 ≤ v_iv (n_v vs 6) ∧ v_iv (n_v vs 6) ≤ 3 := tv_rng t6
  obtain ⟨t8, hk⟩ := List.forall_mem_cons.mp hk
  have t8 : tv_ok ta (0, 0, 99999999, []) (n_v vs 8) := t8
  have k8 : 0 ≤ v_iv (n_v vs 8) ∧ v_iv (n_v vs 8) ≤ 99999999 := tv_rng t8
  obtain ⟨t9, hk⟩ := List.forall_mem_cons.mp hk
  have t9 : tv_ok ta (0, 1, 3, []) (n_v vs 9) := t9
  have k9 : 1 ≤ v_iv (n_v vs 9) ∧ v_iv (n_v vs 9) ≤ 3 := tv_rng t9
  have hds : ∀ q ∈ ([(9, 5, 1, 1)] : List of_T), n_iv vs q.2.1 + q.2.2.1 ≤ n_iv vs q.1 ∧ n_iv vs q.1 ≤ n_iv vs q.2.1 + q.2.2.2 := hds
  obtain ⟨d0, hds⟩ := List.forall_mem_cons.mp hds
  have d0 : v_iv (n_v vs 5) + 1 ≤ v_iv (n_v vs 9) ∧ v_iv (n_v vs 9) ≤ v_iv (n_v vs 5) + 1 := d0
  have hf : fc_ok [(6, [9, 5], [1]), (23, [8, 2, 5], [0, 1, -1, -1]), (24, [0, 3], []), (20, [3, 8], [30, 1, 1, 1, 12, -1, 0, 0]), (102, [8], [261336857795280739939871698507597986398208, 12012]), (23, [8, 2, 5], [0, 1, -1, -1]), (7, [5, 6], [2])] ta ws vs := hf
  obtain ⟨f0, hf⟩ := fc_un (show (6 : Nat) < 100 from by decide) hf
  have f0 : v_iv (n_v vs 9) = v_iv (n_v vs 5) + 1 := f0
  obtain ⟨f1, hf⟩ := fc_un (show (23 : Nat) < 100 from by decide) hf
  have f1 : 1 * v_iv (n_v vs 8) + ((-1) * v_iv (n_v vs 2) + ((-1) * v_iv (n_v vs 5) + 0)) ≤ 0 := f1
  obtain ⟨f2, hf⟩ := fc_un (show (24 : Nat) < 100 from by decide) hf
  have f2 : n_v vs 0 = n_v vs 3 := f2
  obtain ⟨f3, hf⟩ := fc_un (show (20 : Nat) < 100 from by decide) hf
  have f3 : 1 * w_fi ws (n_v vs 3) 12 + ((-1) * v_iv (n_v vs 8) + 0) ≤ 1 := f3
  obtain ⟨ta1, w1, le1, ⟨_, s1⟩, hf⟩ := fc_us (show ¬ (102 : Nat) < 100 from by decide) hf
  obtain ⟨f5, hf⟩ := fc_un (show (23 : Nat) < 100 from by decide) hf
  have f5 : 1 * v_iv (n_v vs 8) + ((-1) * v_iv (n_v vs 2) + ((-1) * v_iv (n_v vs 5) + 0)) ≤ 0 := f5
  obtain ⟨f6, hf⟩ := fc_un (show (7 : Nat) < 100 from by decide) hf
  have f6 : v_iv (n_v vs 5) < v_iv (n_v vs 6) := f6
  have q3 : n_v vs 3 = n_v vs 0 := f2.symm
  rw [q3] at f3
  have kz_0_12 : 0 ≤ w_fi ws (n_v vs 0) 12 ∧ w_fi ws (n_v vs 0) 12 ≤ 100000000 := tv_rng (th_fd hD hth r0 (g := GG_12) rfl (k := 12) (t := (0, 0, 100000000, [])) rfl rfl)
  have nf0 : fc_1 (20, [3, 2, 9], [30, 0, 1, 1, 12, -1, 0, 0, -1, 0, 0]) ws (vs) := by
    refine ⟨fun n hn => ?_, ?_⟩
    · have hn : n ∈ [3, 2, 9] := hn
      rw [hl]
      simp only [List.mem_cons, List.not_mem_nil, or_false] at hn
      show n < 10; omega
    · show 1 * w_fi ws (n_v vs 3) 12 + ((-1) * v_iv (n_v vs 2) + ((-1) * v_iv (n_v vs 9) + 0)) ≤ 0
      rw [q3]
      omega
  refine ⟨(fun _ h => (by cases h)), [], trivial, ?_, (fun _ h => (by cases h))⟩
  rw [List.append_nil]
  exact List.forall_mem_cons.mpr ⟨⟨show (20 : Nat) < 100 from by decide, nf0⟩, (fun _ h => (by cases h))⟩
def n_Ho_writeWord_at_s5020_an : List an_T := [(2, [(0, (2, 0, 0, [12])), (1, (2, 0, 0, [5020])), (2, (0, 0, 3, []))], [], (0, 0), [(0, 0, 99998), (1, 5, 3), (0, 0, 100000)], [], [], [(2, 0, 0, [12]), (2, 0, 0, [5020]), (0, 0, 99999997, [])], 0, [], [(20, [3, 2, 5], [30, 0, 1, 1, 12, -1, 0, 0, -1, 0, 0]), (24, [0, 3], [])])]
def t_Ho_writeWord_at_s5020_ct : ct_L := [(1, 447, e_Ho_writeByte), (16, 438, e_jStr_length_v216), (43, 443, e_jStr_charAt_v217)]
set_option maxRecDepth 100000 in
theorem c_Ho_writeWord_at_s5020 {l : Launch} {D : va_G} {kA : Nat → ClassId} (h_Ho_writeByte : ct_ok l D kA GG y_Ho_writeByte z_Ho_writeByte e_Ho_writeByte) : ct_ok l D kA GG y_Ho_writeWord_at_s5020 z_Ho_writeWord_at_s5020 e_Ho_writeWord_at_s5020 := chk_all_ok (FT := []) (PT := []) (CT := t_Ho_writeWord_at_s5020_ct) (KT := []) (NT := []) (AN := n_Ho_writeWord_at_s5020_an) (OT := [o_Ho_writeWord_at_s5020_0, o_Ho_writeWord_at_s5020_1, o_Ho_writeWord_at_s5020_2, o_Ho_writeWord_at_s5020_3]) 3 200 (List.forall_mem_cons.mpr ⟨oo_Ho_writeWord_at_s5020_0, List.forall_mem_cons.mpr ⟨oo_Ho_writeWord_at_s5020_1, List.forall_mem_cons.mpr ⟨oo_Ho_writeWord_at_s5020_2, List.forall_mem_cons.mpr ⟨oo_Ho_writeWord_at_s5020_3, List.forall_mem_nil _⟩⟩⟩⟩) (by decide +kernel) ⟨List.forall_mem_nil _, List.forall_mem_nil _, List.forall_mem_cons.mpr ⟨cl_virtual (y := y_Ho_writeByte) (ci := 12) rfl rfl ⟨_, _, rfl⟩ (by decide +kernel) h_Ho_writeByte wm_2345 wm_1 wm_2342 wm_2344 wv_12_0 ⟨by decide, by decide, by decide +kernel⟩ (by decide), List.forall_mem_cons.mpr ⟨cl_string (y := y_jStr_length) (i := 20) rfl rfl (by decide +kernel) rfl c_jStr_length_v216 wm_674 wm_11 wm_2340 wm_672 wm_673 ⟨by decide, by decide, by decide +kernel⟩ (by decide), List.forall_mem_cons.mpr ⟨cl_string (y := y_jStr_charAt) (i := 20) rfl rfl (by decide +kernel) rfl c_jStr_charAt_v217 wm_684 wm_11 wm_2341 wm_682 wm_683 ⟨by decide, by decide, by decide +kernel⟩ (by decide), List.forall_mem_nil _⟩⟩⟩, List.forall_mem_nil _, List.forall_mem_nil _, GG_pl⟩ (by decide +kernel)
def o_Ho_writeWord_at_s5021_0 : or_T := (2, 4, [(0, (2, 0, 0, [12])), (2, (0, 0, 99999991, [])), (3, (0, 0, 0, []))], [(20, [0, 2], [30, 0, 1, 1, 12, -1, 0, 0])], [], [], [(20, [0, 2, 3], [30, 0, 1, 1, 12, -1, 0, 0, -1, 0, 0]), (24, [0, 0], [])], [], [])
theorem oo_Ho_writeWord_at_s5021_0 {kA : Nat → ClassId} : or_ok kA GG o_Ho_writeWord_at_s5021_0 := by
  intro A ta ws vs hD hth hl hk hds hf
  have hl : vs.length = 4 := hl
  have hk : ∀ q ∈ ([(0, (2, 0, 0, [12])), (2, (0, 0, 99999991, [])), (3, (0, 0, 0, []))] : List (Nat × tv_T)), tv_ok ta q.2 (n_v vs q.1) := hk
  obtain ⟨t0, hk⟩ := List.forall_mem_cons.mp hk
  have t0 : tv_ok ta (2, 0, 0, [12]) (n_v vs 0) := t0
  have r0 : ta (v_ad (n_v vs 0)) = some 12 := tv_rg t0
  obtain ⟨t2, hk⟩ := List.forall_mem_cons.mp hk
  have t2 : tv_ok ta (0, 0, 99999991, []) (n_v vs 2) := t2
  have k2 : 0 ≤ v_iv (n_v vs 2) ∧ v_iv (n_v vs 2) ≤ 99999991 := tv_rng t2
  obtain ⟨t3, hk⟩ := List.forall_mem_cons.mp hk
  have t3 : tv_ok ta (0, 0, 0, []) (n_v vs 3) := t3
  have k3 : 0 ≤ v_iv (n_v vs 3) ∧ v_iv (n_v vs 3) ≤ 0 := tv_rng t3
  have hf : fc_ok [(20, [0, 2], [30, 0, 1, 1, 12, -1, 0, 0])] ta ws vs := hf
  obtain ⟨f0, hf⟩ := fc_un (show (20 : Nat) < 100 from by decide) hf
  have f0 : 1 * w_fi ws (n_v vs 0) 12 + ((-1) * v_iv (n_v vs 2) + 0) ≤ 0 := f0
  have kz_0_12 : 0 ≤ w_fi ws (n_v vs 0) 12 ∧ w_fi ws (n_v vs 0) 12 ≤ 100000000 := tv_rng (th_fd hD hth r0 (g := GG_12) rfl (k := 12) (t := (0, 0, 100000000, [])) rfl rfl)
  have nf0 : fc_1 (20, [0, 2, 3], [30, 0, 1, 1, 12, -1, 0, 0, -1, 0, 0]) ws (vs) := by
    refine ⟨fun n hn => ?_, ?_⟩
    · have hn : n ∈ [0, 2, 3] := hn
      rw [hl]
      simp only [List.mem_cons, List.not_mem_nil, or_false] at hn
      show n < 4; omega
    · show 1 * w_fi ws (n_v vs 0) 12 + ((-1) * v_iv (n_v vs 2) + ((-1) * v_iv (n_v vs 3) + 0)) ≤ 0
      omega
  have nf1 : fc_1 (24, [0, 0], []) ws (vs) := by
    refine ⟨fun n hn => ?_, ?_⟩
    · have hn : n ∈ [0, 0] := hn
      rw [hl]
      simp only [List.mem_cons, List.not_mem_nil, or_false] at hn
      show n < 4; omega
    · show n_v vs 0 = n_v vs 0
      first | rfl | simp only [true_and]
  refine ⟨(fun _ h => (by cases h)), [], trivial, ?_, (fun _ h => (by cases h))⟩
  rw [List.append_nil]
  exact List.forall_mem_cons.mpr ⟨⟨show (20 : Nat) < 100 from by decide, nf0⟩, List.forall_mem_cons.mpr ⟨⟨show (24 : Nat) < 100 from by decide, nf1⟩, (fun _ h => (by cases h))⟩⟩
def o_Ho_writeWord_at_s5021_1 : or_T := (25, 7, [(0, (2, 0, 0, [12])), (2, (0, 0, 99999991, [])), (3, (2, 0, 0, [12])), (5, (0, 9, 9, [])), (6, (0, 9, 9, []))], [(7, [5, 6], [3]), (20, [3, 2, 5], [30, 0, 1, 1, 12, -1, 0, 0, -1, 0, 0]), (24, [0, 3], [])], [], [], [(20, [0, 2], [30, 9, 1, 1, 12, -1, 0, 0])], [], [])
theorem oo_Ho_writeWord_at_s5021_1 {kA : Nat → ClassId} : or_ok kA GG o_Ho_writeWord_at_s5021_1 := by
  intro A ta ws vs hD hth hl hk hds hf
  have hl : vs.length = 7 := hl
  have hk : ∀ q ∈ ([(0, (2, 0, 0, [12])), (2, (0, 0, 99999991, [])), (3, (2, 0, 0, [12])), (5, (0, 9, 9, [])), (6, (0, 9, 9, []))] : List (Nat × tv_T)), tv_ok ta q.2 (n_v vs q.1) := hk
  obtain ⟨t0, hk⟩ := List.forall_mem_cons.mp hk
  have t0 : tv_ok ta (2, 0, 0, [12]) (n_v vs 0) := t0
  have r0 : ta (v_ad (n_v vs 0)) = some 12 := tv_rg t0
  obtain ⟨t2, hk⟩ := List.forall_mem_cons.mp hk
  have t2 : tv_ok ta (0, 0, 99999991, []) (n_v vs 2) := t2
  have k2 : 0 ≤ v_iv (n_v vs 2) ∧ v_iv (n_v vs 2) ≤ 99999991 := tv_rng t2
  obtain ⟨t3, hk⟩ := List.forall_mem_cons.mp hk
  have t3 : tv_ok ta (2, 0, 0, [12]) (n_v vs 3) := t3
  have r3 : ta (v_ad (n_v vs 3)) = some 12 := tv_rg t3
  obtain ⟨t5, hk⟩ := List.forall_mem_cons.mp hk
  have t5 : tv_ok ta (0, 9, 9, []) (n_v vs 5) := t5
  have k5 : 9 ≤ v_iv (n_v vs 5) ∧ v_iv (n_v vs 5) ≤ 9 := tv_rng t5
  obtain ⟨t6, hk⟩ := List.forall_mem_cons.mp hk
  have t6 : tv_ok ta (0, 9, 9, []) (n_v vs 6) := t6
  have k6 : 9 ≤ v_iv (n_v vs 6) ∧ v_iv (n_v vs 6) ≤ 9 := tv_rng t6
  have hf : fc_ok [(7, [5, 6], [3]), (20, [3, 2, 5], [30, 0, 1, 1, 12, -1, 0, 0, -1, 0, 0]), (24, [0, 3], [])] ta ws vs := hf
  obtain ⟨f0, hf⟩ := fc_un (show (7 : Nat) < 100 from by decide) hf
  have f0 : v_iv (n_v vs 6) ≤ v_iv (n_v vs 5) := f0
  obtain ⟨f1, hf⟩ := fc_un (show (20 : Nat) < 100 from by decide) hf
  have f1 : 1 * w_fi ws (n_v vs 3) 12 + ((-1) * v_iv (n_v vs 2) + ((-1) * v_iv (n_v vs 5) + 0)) ≤ 0 := f1
  obtain ⟨f2, hf⟩ := fc_un (show (24 : Nat) < 100 from by decide) hf
  have f2 : n_v vs 0 = n_v vs 3 := f2
  have q3 : n_v vs 3 = n_v vs 0 := f2.symm
  rw [q3] at f1
  have kz_0_12 : 0 ≤ w_fi ws (n_v vs 0) 12 ∧ w_fi ws (n_v vs 0) 12 ≤ 100000000 := tv_rng (th_fd hD hth r0 (g := GG_12) rfl (k := 12) (t := (0, 0, 100000000, [])) rfl rfl)
  have nf0 : fc_1 (20, [0, 2], [30, 9, 1, 1, 12, -1, 0, 0]) ws (vs) := by
    refine ⟨fun n hn => ?_, ?_⟩
    · have hn : n ∈ [0, 2] := hn
      rw [hl]
      simp only [List.mem_cons, List.not_mem_nil, or_false] at hn
      show n < 7; omega
    · show 1 * w_fi ws (n_v vs 0) 12 + ((-1) * v_iv (n_v vs 2) + 0) ≤ 9
      omega
  refine ⟨(fun _ h => (by cases h)), [], trivial, ?_, (fun _ h => (by cases h))⟩
  rw [List.append_nil]
  exact List.forall_mem_cons.mpr ⟨⟨show (20 : Nat) < 100 from by decide, nf0⟩, (fun _ h => (by cases h))⟩
def o_Ho_writeWord_at_s5021_2 : or_T := (16, 8, [(0, (2, 0, 0, [12])), (2, (0, 0, 99999991, [])), (3, (2, 0, 0, [12])), (5, (0, 0, 8, [])), (6, (0, 9, 9, []))], [(7, [5, 6], [2]), (20, [3, 2, 5], [30, 0, 1, 1, 12, -1, 0, 0, -1, 0, 0]), (24, [0, 3], [])], [], [(0, 0, 99999999, [])], [(20, [3, 8], [30, 0, 1, 1, 12, -1, 0, 0]), (23, [8, 2, 5], [0, 1, -1, -1])], [], [])
theorem oo_Ho_writeWord_at_s5021_2 {kA : Nat → ClassId} : or_ok kA GG o_Ho_writeWord_at_s5021_2 := by
  intro A ta ws vs hD hth hl hk hds hf
  have hl : vs.length = 8 := hl
  have hk : ∀ q ∈ ([(0, (2, 0, 0, [12])), (2, (0, 0, 99999991, [])), (3, (2, 0, 0, [12])), (5, (0, 0, 8, [])), (6, (0, 9, 9, []))] : List (Nat × tv_T)), tv_ok ta q.2 (n_v vs q.1) := hk
  obtain ⟨t0, hk⟩ := List.forall_mem_cons.mp hk
  have t0 : tv_ok ta (2, 0, 0, [12]) (n_v vs 0) := t0
  have r0 : ta (v_ad (n_v vs 0)) = some 12 := tv_rg t0
  obtain ⟨t2, hk⟩ := List.forall_mem_cons.mp hk
  have t2 : tv_ok ta (0, 0, 99999991, []) (n_v vs 2) := t2
  have k2 : 0 ≤ v_iv (n_v vs 2) ∧ v_iv (n_v vs 2) ≤ 99999991 := tv_rng t2
  obtain ⟨t3, hk⟩ := List.forall_mem_cons.mp hk
  have t3 : tv_ok ta (2, 0, 0, [12]) (n_v vs 3) := t3
  have r3 : ta (v_ad (n_v vs 3)) = some 12 := tv_rg t3
  obtain ⟨t5, hk⟩ := List.forall_mem_cons.mp hk
  have t5 : tv_ok ta (0, 0, 8, []) (n_v vs 5) := t5
  have k5 : 0 ≤ v_iv (n_v vs 5) ∧ v_iv (n_v vs 5) ≤ 8 := tv_rng t5
  obtain ⟨t6, hk⟩ := List.forall_mem_cons.mp hk
  have t6 : tv_ok ta (0, 9, 9, []) (n_v vs 6) := t6
  have k6 : 9 ≤ v_iv (n_v vs 6) ∧ v_iv (n_v vs 6) ≤ 9 := tv_rng t6
  have hf : fc_ok [(7, [5, 6], [2]), (20, [3, 2, 5], [30, 0, 1, 1, 12, -1, 0, 0, -1, 0, 0]), (24, [0, 3], [])] ta ws vs := hf
  obtain ⟨f0, hf⟩ := fc_un (show (7 : Nat) < 100 from by decide) hf
  have f0 : v_iv (n_v vs 5) < v_iv (n_v vs 6) := f0
  obtain ⟨f1, hf⟩ := fc_un (show (20 : Nat) < 100 from by decide) hf
  have f1 : 1 * w_fi ws (n_v vs 3) 12 + ((-1) * v_iv (n_v vs 2) + ((-1) * v_iv (n_v vs 5) + 0)) ≤ 0 := f1
  obtain ⟨f2, hf⟩ := fc_un (show (24 : Nat) < 100 from by decide) hf
  have f2 : n_v vs 0 = n_v vs 3 := f2
  have q3 : n_v vs 3 = n_v vs 0 := f2.symm
  rw [q3] at f1
  have kz_0_12 : 0 ≤ w_fi ws (n_v vs 0) 12 ∧ w_fi ws (n_v vs 0) 12 ≤ 100000000 := tv_rng (th_fd hD hth r0 (g := GG_12) rfl (k := 12) (t := (0, 0, 100000000, [])) rfl rfl)
  have kv0 : 0 ≤ w_fi ws (n_v vs 0) 12 ∧ w_fi ws (n_v vs 0) 12 ≤ 100000000 := tv_rng (th_fd hD hth r0 (g := GG_12) rfl (k := 12) (t := (0, 0, 100000000, [])) rfl rfl)
  obtain ⟨x, ex, hx⟩ := iv_ex (ta := ta) (lo := 0) (hi := 99999999) (z := w_fi ws (n_v vs 0) 12) (by omega) (by omega) (by omega) (by omega)
  have ex2 : v_iv (Value.int x) = w_fi ws (n_v vs 0) 12 := ex
  have ex3 : 0 ≤ v_iv (Value.int x) ∧ v_iv (Value.int x) ≤ 99999999 := tv_rng hx
  have e_2 : n_v (vs ++ [Value.int x]) 2 = n_v vs 2 := n_v_old (by rw [hl]; decide)
  have e_3 : n_v (vs ++ [Value.int x]) 3 = n_v vs 3 := n_v_old (by rw [hl]; decide)
  have e_5 : n_v (vs ++ [Value.int x]) 5 = n_v vs 5 := n_v_old (by rw [hl]; decide)
  have e_8 : n_v (vs ++ [Value.int x]) 8 = Value.int x := n_v_new hl
  have nf0 : fc_1 (20, [3, 8], [30, 0, 1, 1, 12, -1, 0, 0]) ws (vs ++ [Value.int x]) := by
    refine ⟨fun n hn => ?_, ?_⟩
    · have hn : n ∈ [3, 8] := hn
      rw [List.length_append, hl]
      simp only [List.mem_cons, List.not_mem_nil, or_false] at hn
      show n < 8 + 1; omega
    · show 1 * w_fi ws (n_v (vs ++ [Value.int x]) 3) 12 + ((-1) * v_iv (n_v (vs ++ [Value.int x]) 8) + 0) ≤ 0
      rw [e_3]
      rw [e_8]
      rw [q3]
      omega
  have nf1 : fc_1 (23, [8, 2, 5], [0, 1, -1, -1]) ws (vs ++ [Value.int x]) := by
    refine ⟨fun n hn => ?_, ?_⟩
    · have hn : n ∈ [8, 2, 5] := hn
      rw [List.length_append, hl]
      simp only [List.mem_cons, List.not_mem_nil, or_false] at hn
      show n < 8 + 1; omega
    · show 1 * v_iv (n_v (vs ++ [Value.int x]) 8) + ((-1) * v_iv (n_v (vs ++ [Value.int x]) 2) + ((-1) * v_iv (n_v (vs ++ [Value.int x]) 5) + 0)) ≤ 0
      rw [e_2]
      rw [e_5]
      rw [e_8]
      omega
  exact ⟨(fun _ h => (by cases h)), [Value.int x], ag_one hx, List.forall_mem_cons.mpr ⟨⟨show (20 : Nat) < 100 from by decide, nf0⟩, List.forall_mem_cons.mpr ⟨⟨show (23 : Nat) < 100 from by decide, nf1⟩, (fun _ h => (by cases h))⟩⟩, (fun _ h => (by cases h))⟩
def o_Ho_writeWord_at_s5021_3 : or_T := (2, 10, [(0, (2, 0, 0, [12])), (2, (0, 0, 99999991, [])), (3, (2, 0, 0, [12])), (5, (0, 0, 8, [])), (6, (0, 9, 9, [])), (8, (0, 0, 99999999, [])), (9, (0, 1, 9, []))], [(6, [9, 5], [1]), (23, [8, 2, 5], [0, 1, -1, -1]), (24, [0, 3], []), (20, [3, 8], [30, 1, 1, 1, 12, -1, 0, 0]), (102, [8], [261336857795280739939871698507597986398208, 12012]), (23, [8, 2, 5], [0, 1, -1, -1]), (7, [5, 6], [2])], [], [], [(20, [3, 2, 9], [30, 0, 1, 1, 12, -1, 0, 0, -1, 0, 0])], [], [(9, 5, 1, 1)])
theorem oo_Ho_writeWord_at_s5021_3 {kA : Nat → ClassId} : or_ok kA GG o_Ho_writeWord_at_s5021_3 := by
  intro A ta ws vs hD hth hl hk hds hf
  have hl : vs.length = 10 := hl
  have hk : ∀ q ∈ ([(0, (2, 0, 0, [12])), (2, (0, 0, 99999991, [])), (3, (2, 0, 0, [12])), (5, (0, 0, 8, [])), (6, (0, 9, 9, [])), (8, (0, 0, 99999999, [])), (9, (0, 1, 9, []))] : List (Nat × tv_T)), tv_ok ta q.2 (n_v vs q.1) := hk
  obtain ⟨t0, hk⟩ := List.forall_mem_cons.mp hk
  have t0 : tv_ok ta (2, 0, 0, [12]) (n_v vs 0) := t0
  have r0 : ta (v_ad (n_v vs 0)) = some 12 := tv_rg t0
  obtain ⟨t2, hk⟩ := List.forall_mem_cons.mp hk
  have t2 : tv_ok ta (0, 0, 99999991, []) (n_v vs 2) := t2
  have k2 : 0 ≤ v_iv (n_v vs 2) ∧ v_iv (n_v vs 2) ≤ 99999991 := tv_rng t2
  obtain ⟨t3, hk⟩ := List.forall_mem_cons.mp hk
  have t3 : tv_ok ta (2, 0, 0, [12]) (n_v vs 3) := t3
  have r3 : ta (v_ad (n_v vs 3)) = some 12 := tv_rg t3
  obtain ⟨t5, hk⟩ := List.forall_mem_cons.mp hk
  have t5 : tv_ok ta (0, 0, 8, []) (n_v vs 5) := t5
  have k5 : 0 ≤ v_iv (n_v vs 5) ∧ v_iv (n_v vs 5) ≤ 8 := tv_rng t5
  obtain ⟨t6, hk⟩ := List.forall_mem_cons.mp hk
  have t6 : tv_ok ta (0, 9, 9, []) (n_v vs 6) := t6
  have k6 : 9 ≤ v_iv (n_v vs 6) ∧ v_iv (n_v vs 6) ≤ 9 := tv_rng t6
  obtain ⟨t8, hk⟩ := List.forall_mem_cons.mp hk
  have t8 : tv_ok ta (0, 0, 99999999, []) (n_v vs 8) := t8
  have k8 : 0 ≤ v_iv (n_v vs 8) ∧ v_iv (n_v vs 8) ≤ 99999999 := tv_rng t8
  obtain ⟨t9, hk⟩ := List.forall_mem_cons.mp hk
  have t9 : tv_ok ta (0, 1, 9, []) (n_v vs 9) := t9
  have k9 : 1 ≤ v_iv (n_v vs 9) ∧ v_iv (n_v vs 9) ≤ 9 := tv_rng t9
  have hds : ∀ q ∈ ([(9, 5, 1, 1)] : List of_T), n_iv vs q.2.1 + q.2.2.1 ≤ n_iv vs q.1 ∧ n_iv vs q.1 ≤ n_iv vs q.2.1 + q.2.2.2 := hds
  obtain ⟨d0, hds⟩ := List.forall_mem_cons.mp hds
  have d0 : v_iv (n_v vs 5) + 1 ≤ v_iv (n_v vs 9) ∧ v_iv (n_v vs 9) ≤ v_iv (n_v vs 5) + 1 := d0
  have hf : fc_ok [(6, [9, 5], [1]), (23, [8, 2, 5], [0, 1, -1, -1]), (24, [0, 3], []), (20, [3, 8], [30, 1, 1, 1, 12, -1, 0, 0]), (102, [8], [261336857795280739939871698507597986398208, 12012]), (23, [8, 2, 5], [0, 1, -1, -1]), (7, [5, 6], [2])] ta ws vs := hf
  obtain ⟨f0, hf⟩ := fc_un (show (6 : Nat) < 100 from by decide) hf
  have f0 : v_iv (n_v vs 9) = v_iv (n_v vs 5) + 1 := f0
  obtain ⟨f1, hf⟩ := fc_un (show (23 : Nat) < 100 from by decide) hf
  have f1 : 1 * v_iv (n_v vs 8) + ((-1) * v_iv (n_v vs 2) + ((-1) * v_iv (n_v vs 5) + 0)) ≤ 0 := f1
  obtain ⟨f2, hf⟩ := fc_un (show (24 : Nat) < 100 from by decide) hf
  have f2 : n_v vs 0 = n_v vs 3 := f2
  obtain ⟨f3, hf⟩ := fc_un (show (20 : Nat) < 100 from by decide) hf
  have f3 : 1 * w_fi ws (n_v vs 3) 12 + ((-1) * v_iv (n_v vs 8) + 0) ≤ 1 := f3
  obtain ⟨ta1, w1, le1, ⟨_, s1⟩, hf⟩ := fc_us (show ¬ (102 : Nat) < 100 from by decide) hf
  obtain ⟨f5, hf⟩ := fc_un (show (23 : Nat) < 100 from by decide) hf
  have f5 : 1 * v_iv (n_v vs 8) + ((-1) * v_iv (n_v vs 2) + ((-1) * v_iv (n_v vs 5) + 0)) ≤ 0 := f5
  obtain ⟨f6, hf⟩ := fc_un (show (7 : Nat) < 100 from by decide) hf
  have f6 : v_iv (n_v vs 5) < v_iv (n_v vs 6) := f6
  have q3 : n_v vs 3 = n_v vs 0 := f2.symm
  rw [q3] at f3
  have kz_0_12 : 0 ≤ w_fi ws (n_v vs 0) 12 ∧ w_fi ws (n_v vs 0) 12 ≤ 100000000 := tv_rng (th_fd hD hth r0 (g := GG_12) rfl (k := 12) (t := (0, 0, 100000000, [])) rfl rfl)
  have nf0 : fc_1 (20, [3, 2, 9], [30, 0, 1, 1, 12, -1, 0, 0, -1, 0, 0]) ws (vs) := by
    refine ⟨fun n hn => ?_, ?_⟩
    · have hn : n ∈ [3, 2, 9] := hn
      rw [hl]
      simp only [List.mem_cons, List.not_mem_nil, or_false] at hn
      show n < 10; omega
    · show 1 * w_fi ws (n_v vs 3) 12 + ((-1) * v_iv (n_v vs 2) + ((-1) * v_iv (n_v vs 9) + 0)) ≤ 0
      rw [q3]
      omega
  refine ⟨(fun _ h => (by cases h)), [], trivial, ?_, (fun _ h => (by cases h))⟩
  rw [List.append_nil]
  exact List.forall_mem_cons.mpr ⟨⟨show (20 : Nat) < 100 from by decide, nf0⟩, (fun _ h => (by cases h))⟩
def n_Ho_writeWord_at_s5021_an : List an_T := [(2, [(0, (2, 0, 0, [12])), (1, (2, 0, 0, [5021])), (2, (0, 0, 9, []))], [], (0, 0), [(0, 0, 99998), (1, 5, 9), (0, 0, 100000)], [], [], [(2, 0, 0, [12]), (2, 0, 0, [5021]), (0, 0, 99999991, [])], 0, [], [(20, [3, 2, 5], [30, 0, 1, 1, 12, -1, 0, 0, -1, 0, 0]), (24, [0, 3], [])])]
def t_Ho_writeWord_at_s5021_ct : ct_L := [(1, 447, e_Ho_writeByte), (16, 438, e_jStr_length_v219), (43, 443, e_jStr_charAt_v220)]
set_option maxRecDepth 100000 in
theorem c_Ho_writeWord_at_s5021 {l : Launch} {D : va_G} {kA : Nat → ClassId} (h_Ho_writeByte : ct_ok l D kA GG y_Ho_writeByte z_Ho_writeByte e_Ho_writeByte) : ct_ok l D kA GG y_Ho_writeWord_at_s5021 z_Ho_writeWord_at_s5021 e_Ho_writeWord_at_s5021 := chk_all_ok (FT := []) (PT := []) (CT := t_Ho_writeWord_at_s5021_ct) (KT := []) (NT := []) (AN := n_Ho_writeWord_at_s5021_an) (OT := [o_Ho_writeWord_at_s5021_0, o_Ho_writeWord_at_s5021_1, o_Ho_writeWord_at_s5021_2, o_Ho_writeWord_at_s5021_3]) 3 200 (List.forall_mem_cons.mpr ⟨oo_Ho_writeWord_at_s5021_0, List.forall_mem_cons.mpr ⟨oo_Ho_writeWord_at_s5021_1, List.forall_mem_cons.mpr ⟨oo_Ho_writeWord_at_s5021_2, List.forall_mem_cons.mpr ⟨oo_Ho_writeWord_at_s5021_3, List.forall_mem_nil _⟩⟩⟩⟩) (by decide +kernel) ⟨List.forall_mem_nil _, List.forall_mem_nil _, List.forall_mem_cons.mpr ⟨cl_virtual (y := y_Ho_writeByte) (ci := 12) rfl rfl ⟨_, _, rfl⟩ (by decide +kernel) h_Ho_writeByte wm_2345 wm_1 wm_2342 wm_2344 wv_12_0 ⟨by decide, by decide, by decide +kernel⟩ (by decide), List.forall_mem_cons.mpr ⟨cl_string (y := y_jStr_length) (i := 21) rfl rfl (by decide +kernel) rfl c_jStr_length_v219 wm_674 wm_11 wm_2340 wm_672 wm_673 ⟨by decide, by decide, by decide +kernel⟩ (by decide), List.forall_mem_cons.mpr ⟨cl_string (y := y_jStr_charAt) (i := 21) rfl rfl (by decide +kernel) rfl c_jStr_charAt_v220 wm_684 wm_11 wm_2341 wm_682 wm_683 ⟨by decide, by decide, by decide +kernel⟩ (by decide), List.forall_mem_nil _⟩⟩⟩, List.forall_mem_nil _, List.forall_mem_nil _, GG_pl⟩ (by decide +kernel)
def o_Re_isName_0 : or_T := (31, 4, [(0, (2, 0, 0, [8])), (1, (0, -128, 127, [])), (2, (0, 2, 2, [])), (3, (0, 0, 0, []))], [(7, [1, 2], [1]), (9, [1, 0], [7]), (20, [0, 0, 0, 0], [31, 1, -3, -1, 1, 7, 4008, 1, 1, 6, -1, 1, 8, 2000, 1, 7])], [], [], [(20, [0, 0, 3], [30, 2008, 1, 1, 6, -1, 1, 8, 2000, 0, 0])], [], [])
theorem oo_Re_isName_0 {kA : Nat → ClassId} : or_ok kA GG o_Re_isName_0 := by
  intro A ta ws vs hD hth hl hk hds hf
  have hl : vs.length = 4 := hl
  have hk : ∀ q ∈ ([(0, (2, 0, 0, [8])), (1, (0, -128, 127, [])), (2, (0, 2, 2, [])), (3, (0, 0, 0, []))] : List (Nat × tv_T)), tv_ok ta q.2 (n_v vs q.1) := hk
  obtain ⟨t0, hk⟩ := List.forall_mem_cons.mp hk
  have t0 : tv_ok ta (2, 0, 0, [8]) (n_v vs 0) := t0
  have r0 : ta (v_ad (n_v vs 0)) = some 8 := tv_rg t0
  obtain ⟨t1, hk⟩ := List.forall_mem_cons.mp hk
  have t1 : tv_ok ta (0, -128, 127, []) (n_v vs 1) := t1
  have k1 : (-128) ≤ v_iv (n_v vs 1) ∧ v_iv (n_v vs 1) ≤ 127 := tv_rng t1
  obtain ⟨t2, hk⟩ := List.forall_mem_cons.mp hk
  have t2 : tv_ok ta (0, 2, 2, []) (n_v vs 2) := t2
  have k2 : 2 ≤ v_iv (n_v vs 2) ∧ v_iv (n_v vs 2) ≤ 2 := tv_rng t2
  obtain ⟨t3, hk⟩ := List.forall_mem_cons.mp hk
  have t3 : tv_ok ta (0, 0, 0, []) (n_v vs 3) := t3
  have k3 : 0 ≤ v_iv (n_v vs 3) ∧ v_iv (n_v vs 3) ≤ 0 := tv_rng t3
  have hf : fc_ok [(7, [1, 2], [1]), (9, [1, 0], [7]), (20, [0, 0, 0, 0], [31, 1, -3, -1, 1, 7, 4008, 1, 1, 6, -1, 1, 8, 2000, 1, 7])] ta ws vs := hf
  obtain ⟨f0, hf⟩ := fc_un (show (7 : Nat) < 100 from by decide) hf
  have f0 : v_iv (n_v vs 1) ≠ v_iv (n_v vs 2) := f0
  obtain ⟨f1, hf⟩ := fc_un (show (9 : Nat) < 100 from by decide) hf
  have f1 : n_v vs 1 = w_fd ws (v_ad (n_v vs 0)) 7 := f1
  obtain ⟨f2, hf⟩ := fc_un (show (20 : Nat) < 100 from by decide) hf
  have f2 : ((-1) * w_fi ws (n_v vs 0) 7 + 0 ≤ (-3)) ∨ (1 * w_fi ws (n_v vs 0) 6 + ((-1) * w_fi ws (n_v vs 0) 8 + (2000 * w_fi ws (n_v vs 0) 7 + 0)) ≤ 4008) := f2
  have g1 : v_iv (n_v vs 1) = w_fi ws (n_v vs 0) 7 := congrArg v_iv f1
  have kz_0_6 : 0 ≤ w_fi ws (n_v vs 0) 6 ∧ w_fi ws (n_v vs 0) 6 ≤ 2000 := tv_rng (th_fd hD hth r0 (g := GG_8) rfl (k := 6) (t := (0, 0, 2000, [])) rfl rfl)
  have kz_0_7 : (-128) ≤ w_fi ws (n_v vs 0) 7 ∧ w_fi ws (n_v vs 0) 7 ≤ 127 := tv_rng (th_fd hD hth r0 (g := GG_8) rfl (k := 7) (t := (0, -128, 127, [])) rfl rfl)
  have kz_0_8 : 0 ≤ w_fi ws (n_v vs 0) 8 ∧ w_fi ws (n_v vs 0) 8 ≤ 2000 := tv_rng (th_fd hD hth r0 (g := GG_8) rfl (k := 8) (t := (0, 0, 2000, [])) rfl rfl)
  have nf0 : fc_1 (20, [0, 0, 3], [30, 2008, 1, 1, 6, -1, 1, 8, 2000, 0, 0]) ws (vs) := by
    refine ⟨fun n hn => ?_, ?_⟩
    · have hn : n ∈ [0, 0, 3] := hn
      rw [hl]
      simp only [List.mem_cons, List.not_mem_nil, or_false] at hn
      show n < 4; omega
    · show 1 * w_fi ws (n_v vs 0) 6 + ((-1) * w_fi ws (n_v vs 0) 8 + (2000 * v_iv (n_v vs 3) + 0)) ≤ 2008
      omega
  refine ⟨(fun _ h => (by cases h)), [], trivial, ?_, (fun _ h => (by cases h))⟩
  rw [List.append_nil]
  exact List.forall_mem_cons.mpr ⟨⟨show (20 : Nat) < 100 from by decide, nf0⟩, (fun _ h => (by cases h))⟩
def o_Re_isName_1 : or_T := (8, 3, [(0, (2, 0, 0, [8])), (1, (0, 2, 2, [])), (2, (0, 2, 2, []))], [(7, [1, 2], [0]), (9, [1, 0], [7]), (20, [0, 0, 0, 0], [31, 1, -3, -1, 1, 7, 4008, 1, 1, 6, -1, 1, 8, 2000, 1, 7])], [], [], [(20, [0], [30, 2, 1, 1, 7]), (20, [0], [30, -2, -1, 1, 7])], [], [])
theorem oo_Re_isName_1 {kA : Nat → ClassId} : or_ok kA GG o_Re_isName_1 := by
  intro A ta ws vs hD hth hl hk hds hf
  have hl : vs.length = 3 := hl
  have hk : ∀ q ∈ ([(0, (2, 0, 0, [8])), (1, (0, 2, 2, [])), (2, (0, 2, 2, []))] : List (Nat × tv_T)), tv_ok ta q.2 (n_v vs q.1) := hk
  obtain ⟨t0, hk⟩ := List.forall_mem_cons.mp hk
  have t0 : tv_ok ta (2, 0, 0, [8]) (n_v vs 0) := t0
  have r0 : ta (v_ad (n_v vs 0)) = some 8 := tv_rg t0
  obtain ⟨t1, hk⟩ := List.forall_mem_cons.mp hk
  have t1 : tv_ok ta (0, 2, 2, []) (n_v vs 1) := t1
  have k1 : 2 ≤ v_iv (n_v vs 1) ∧ v_iv (n_v vs 1) ≤ 2 := tv_rng t1
  obtain ⟨t2, hk⟩ := List.forall_mem_cons.mp hk
  have t2 : tv_ok ta (0, 2, 2, []) (n_v vs 2) := t2
  have k2 : 2 ≤ v_iv (n_v vs 2) ∧ v_iv (n_v vs 2) ≤ 2 := tv_rng t2
  have hf : fc_ok [(7, [1, 2], [0]), (9, [1, 0], [7]), (20, [0, 0, 0, 0], [31, 1, -3, -1, 1, 7, 4008, 1, 1, 6, -1, 1, 8, 2000, 1, 7])] ta ws vs := hf
  obtain ⟨f0, hf⟩ := fc_un (show (7 : Nat) < 100 from by decide) hf
  have f0 : v_iv (n_v vs 1) = v_iv (n_v vs 2) := f0
  obtain ⟨f1, hf⟩ := fc_un (show (9 : Nat) < 100 from by decide) hf
  have f1 : n_v vs 1 = w_fd ws (v_ad (n_v vs 0)) 7 := f1
  obtain ⟨f2, hf⟩ := fc_un (show (20 : Nat) < 100 from by decide) hf
  have f2 : ((-1) * w_fi ws (n_v vs 0) 7 + 0 ≤ (-3)) ∨ (1 * w_fi ws (n_v vs 0) 6 + ((-1) * w_fi ws (n_v vs 0) 8 + (2000 * w_fi ws (n_v vs 0) 7 + 0)) ≤ 4008) := f2
  have g1 : v_iv (n_v vs 1) = w_fi ws (n_v vs 0) 7 := congrArg v_iv f1
  have kz_0_6 : 0 ≤ w_fi ws (n_v vs 0) 6 ∧ w_fi ws (n_v vs 0) 6 ≤ 2000 := tv_rng (th_fd hD hth r0 (g := GG_8) rfl (k := 6) (t := (0, 0, 2000, [])) rfl rfl)
  have kz_0_7 : (-128) ≤ w_fi ws (n_v vs 0) 7 ∧ w_fi ws (n_v vs 0) 7 ≤ 127 := tv_rng (th_fd hD hth r0 (g := GG_8) rfl (k := 7) (t := (0, -128, 127, [])) rfl rfl)
  have kz_0_8 : 0 ≤ w_fi ws (n_v vs 0) 8 ∧ w_fi ws (n_v vs 0) 8 ≤ 2000 := tv_rng (th_fd hD hth r0 (g := GG_8) rfl (k := 8) (t := (0, 0, 2000, [])) rfl rfl)
  have nf0 : fc_1 (20, [0], [30, 2, 1, 1, 7]) ws (vs) := by
    refine ⟨fun n hn => ?_, ?_⟩
    · have hn : n ∈ [0] := hn
      rw [hl]
      simp only [List.mem_cons, List.not_mem_nil, or_false] at hn
      show n < 3; omega
    · show 1 * w_fi ws (n_v vs 0) 7 + 0 ≤ 2
      omega
  have nf1 : fc_1 (20, [0], [30, -2, -1, 1, 7]) ws (vs) := by
    refine ⟨fun n hn => ?_, ?_⟩
    · have hn : n ∈ [0] := hn
      rw [hl]
      simp only [List.mem_cons, List.not_mem_nil, or_false] at hn
      show n < 3; omega
    · show (-1) * w_fi ws (n_v vs 0) 7 + 0 ≤ (-2)
      omega
  refine ⟨(fun _ h => (by cases h)), [], trivial, ?_, (fun _ h => (by cases h))⟩
  rw [List.append_nil]
  exact List.forall_mem_cons.mpr ⟨⟨show (20 : Nat) < 100 from by decide, nf0⟩, List.forall_mem_cons.mpr ⟨⟨show (20 : Nat) < 100 from by decide, nf1⟩, (fun _ h => (by cases h))⟩⟩
def o_Re_isName_2 : or_T := (31, 6, [(0, (2, 0, 0, [8])), (5, (0, 0, 0, []))], [(20, [0], [30, 2, 1, 1, 7]), (20, [0], [30, -2, -1, 1, 7]), (20, [0, 0, 0, 0], [31, 1, -3, -1, 1, 7, 4008, 1, 1, 6, -1, 1, 8, 2000, 1, 7])], [], [], [(20, [0, 0, 5], [30, 2008, 1, 1, 6, -1, 1, 8, 2000, 0, 0])], [], [])
theorem oo_Re_isName_2 {kA : Nat → ClassId} : or_ok kA GG o_Re_isName_2 := by
  intro A ta ws vs hD hth hl hk hds hf
  have hl : vs.length = 6 := hl
  have hk : ∀ q ∈ ([(0, (2, 0, 0, [8])), (5, (0, 0, 0, []))] : List (Nat × tv_T)), tv_ok ta q.2 (n_v vs q.1) := hk
  obtain ⟨t0, hk⟩ := List.forall_mem_cons.mp hk
  have t0 : tv_ok ta (2, 0, 0, [8]) (n_v vs 0) := t0
  have r0 : ta (v_ad (n_v vs 0)) = some 8 := tv_rg t0
  obtain ⟨t5, hk⟩ := List.forall_mem_cons.mp hk
  have t5 : tv_ok ta (0, 0, 0, []) (n_v vs 5) := t5
  have k5 : 0 ≤ v_iv (n_v vs 5) ∧ v_iv (n_v vs 5) ≤ 0 := tv_rng t5
  have hf : fc_ok [(20, [0], [30, 2, 1, 1, 7]), (20, [0], [30, -2, -1, 1, 7]), (20, [0, 0, 0, 0], [31, 1, -3, -1, 1, 7, 4008, 1, 1, 6, -1, 1, 8, 2000, 1, 7])] ta ws vs := hf
  obtain ⟨f0, hf⟩ := fc_un (show (20 : Nat) < 100 from by decide) hf
  have f0 : 1 * w_fi ws (n_v vs 0) 7 + 0 ≤ 2 := f0
  obtain ⟨f1, hf⟩ := fc_un (show (20 : Nat) < 100 from by decide) hf
  have f1 : (-1) * w_fi ws (n_v vs 0) 7 + 0 ≤ (-2) := f1
  obtain ⟨f2, hf⟩ := fc_un (show (20 : Nat) < 100 from by decide) hf
  have f2 : ((-1) * w_fi ws (n_v vs 0) 7 + 0 ≤ (-3)) ∨ (1 * w_fi ws (n_v vs 0) 6 + ((-1) * w_fi ws (n_v vs 0) 8 + (2000 * w_fi ws (n_v vs 0) 7 + 0)) ≤ 4008) := f2
  have kz_0_6 : 0 ≤ w_fi ws (n_v vs 0) 6 ∧ w_fi ws (n_v vs 0) 6 ≤ 2000 := tv_rng (th_fd hD hth r0 (g := GG_8) rfl (k := 6) (t := (0, 0, 2000, [])) rfl rfl)
  have kz_0_7 : (-128) ≤ w_fi ws (n_v vs 0) 7 ∧ w_fi ws (n_v vs 0) 7 ≤ 127 := tv_rng (th_fd hD hth r0 (g := GG_8) rfl (k := 7) (t := (0, -128, 127, [])) rfl rfl)
  have kz_0_8 : 0 ≤ w_fi ws (n_v vs 0) 8 ∧ w_fi ws (n_v vs 0) 8 ≤ 2000 := tv_rng (th_fd hD hth r0 (g := GG_8) rfl (k := 8) (t := (0, 0, 2000, [])) rfl rfl)
  have nf0 : fc_1 (20, [0, 0, 5], [30, 2008, 1, 1, 6, -1, 1, 8, 2000, 0, 0]) ws (vs) := by
    refine ⟨fun n hn => ?_, ?_⟩
    · have hn : n ∈ [0, 0, 5] := hn
      rw [hl]
      simp only [List.mem_cons, List.not_mem_nil, or_false] at hn
      show n < 6; omega
    · show 1 * w_fi ws (n_v vs 0) 6 + ((-1) * w_fi ws (n_v vs 0) 8 + (2000 * v_iv (n_v vs 5) + 0)) ≤ 2008
      omega
  refine ⟨(fun _ h => (by cases h)), [], trivial, ?_, (fun _ h => (by cases h))⟩
  rw [List.append_nil]
  exact List.forall_mem_cons.mpr ⟨⟨show (20 : Nat) < 100 from by decide, nf0⟩, (fun _ h => (by cases h))⟩
def o_Re_isName_3 : or_T := (31, 8, [(0, (2, 0, 0, [8])), (7, (0, 0, 0, []))], [(20, [0], [30, 2, 1, 1, 7]), (20, [0], [30, -2, -1, 1, 7]), (20, [0, 0, 0, 0], [31, 1, -3, -1, 1, 7, 4008, 1, 1, 6, -1, 1, 8, 2000, 1, 7])], [], [], [(20, [0, 0, 7], [30, 2008, 1, 1, 6, -1, 1, 8, 2000, 0, 0])], [], [])
theorem oo_Re_isName_3 {kA : Nat → ClassId} : or_ok kA GG o_Re_isName_3 := by
  intro A ta ws vs hD hth hl hk hds hf
  have hl : vs.length = 8 := hl
  have hk : ∀ q ∈ ([(0, (2, 0, 0, [8])), (7, (0, 0, 0, []))] : List (Nat × tv_T)), tv_ok ta q.2 (n_v vs q.1) := hk
  obtain ⟨t0, hk⟩ := List.forall_mem_cons.mp hk
  have t0 : tv_ok ta (2, 0, 0, [8]) (n_v vs 0) := t0
  have r0 : ta (v_ad (n_v vs 0)) = some 8 := tv_rg t0
  obtain ⟨t7, hk⟩ := List.forall_mem_cons.mp hk
  have t7 : tv_ok ta (0, 0, 0, []) (n_v vs 7) := t7
  have k7 : 0 ≤ v_iv (n_v vs 7) ∧ v_iv (n_v vs 7) ≤ 0 := tv_rng t7
  have hf : fc_ok [(20, [0], [30, 2, 1, 1, 7]), (20, [0], [30, -2, -1, 1, 7]), (20, [0, 0, 0, 0], [31, 1, -3, -1, 1, 7, 4008, 1, 1, 6, -1, 1, 8, 2000, 1, 7])] ta ws vs := hf
  obtain ⟨f0, hf⟩ := fc_un (show (20 : Nat) < 100 from by decide) hf
  have f0 : 1 * w_fi ws (n_v vs 0) 7 + 0 ≤ 2 := f0
  obtain ⟨f1, hf⟩ := fc_un (show (20 : Nat) < 100 from by decide) hf
  have f1 : (-1) * w_fi ws (n_v vs 0) 7 + 0 ≤ (-2) := f1
  obtain ⟨f2, hf⟩ := fc_un (show (20 : Nat) < 100 from by decide) hf
  have f2 : ((-1) * w_fi ws (n_v vs 0) 7 + 0 ≤ (-3)) ∨ (1 * w_fi ws (n_v vs 0) 6 + ((-1) * w_fi ws (n_v vs 0) 8 + (2000 * w_fi ws (n_v vs 0) 7 + 0)) ≤ 4008) := f2
  have kz_0_6 : 0 ≤ w_fi ws (n_v vs 0) 6 ∧ w_fi ws (n_v vs 0) 6 ≤ 2000 := tv_rng (th_fd hD hth r0 (g := GG_8) rfl (k := 6) (t := (0, 0, 2000, [])) rfl rfl)
  have kz_0_7 : (-128) ≤ w_fi ws (n_v vs 0) 7 ∧ w_fi ws (n_v vs 0) 7 ≤ 127 := tv_rng (th_fd hD hth r0 (g := GG_8) rfl (k := 7) (t := (0, -128, 127, [])) rfl rfl)
  have kz_0_8 : 0 ≤ w_fi ws (n_v vs 0) 8 ∧ w_fi ws (n_v vs 0) 8 ≤ 2000 := tv_rng (th_fd hD hth r0 (g := GG_8) rfl (k := 8) (t := (0, 0, 2000, [])) rfl rfl)
  have nf0 : fc_1 (20, [0, 0, 7], [30, 2008, 1, 1, 6, -1, 1, 8, 2000, 0, 0]) ws (vs) := by
    refine ⟨fun n hn => ?_, ?_⟩
    · have hn : n ∈ [0, 0, 7] := hn
      rw [hl]
      simp only [List.mem_cons, List.not_mem_nil, or_false] at hn
      show n < 8; omega
    · show 1 * w_fi ws (n_v vs 0) 6 + ((-1) * w_fi ws (n_v vs 0) 8 + (2000 * v_iv (n_v vs 7) + 0)) ≤ 2008
      omega
  refine ⟨(fun _ h => (by cases h)), [], trivial, ?_, (fun _ h => (by cases h))⟩
  rw [List.append_nil]
  exact List.forall_mem_cons.mpr ⟨⟨show (20 : Nat) < 100 from by decide, nf0⟩, (fun _ h => (by cases h))⟩
def o_Re_isName_4 : or_T := (31, 8, [(0, (2, 0, 0, [8])), (7, (0, 1, 1, []))], [(20, [0], [30, 2, 1, 1, 7]), (20, [0], [30, -2, -1, 1, 7]), (20, [0, 0, 0, 0], [31, 1, -3, -1, 1, 7, 4008, 1, 1, 6, -1, 1, 8, 2000, 1, 7])], [], [], [(20, [0, 0, 7], [30, 2008, 1, 1, 6, -1, 1, 8, 2000, 0, 0])], [], [])
theorem oo_Re_isName_4 {kA : Nat → ClassId} : or_ok kA GG o_Re_isName_4 := by
  intro A ta ws vs hD hth hl hk hds hf
  have hl : vs.length = 8 := hl
  have hk : ∀ q ∈ ([(0, (2, 0, 0, [8])), (7, (0, 1, 1, []))] : List (Nat × tv_T)), tv_ok ta q.2 (n_v vs q.1) := hk
  obtain ⟨t0, hk⟩ := List.forall_mem_cons.mp hk
  have t0 : tv_ok ta (2, 0, 0, [8]) (n_v vs 0) := t0
  have r0 : ta (v_ad (n_v vs 0)) = some 8 := tv_rg t0
  obtain ⟨t7, hk⟩ := List.forall_mem_cons.mp hk
  have t7 : tv_ok ta (0, 1, 1, []) (n_v vs 7) := t7
  have k7 : 1 ≤ v_iv (n_v vs 7) ∧ v_iv (n_v vs 7) ≤ 1 := tv_rng t7
  have hf : fc_ok [(20, [0], [30, 2, 1, 1, 7]), (20, [0], [30, -2, -1, 1, 7]), (20, [0, 0, 0, 0], [31, 1, -3, -1, 1, 7, 4008, 1, 1, 6, -1, 1, 8, 2000, 1, 7])] ta ws vs := hf
  obtain ⟨f0, hf⟩ := fc_un (show (20 : Nat) < 100 from by decide) hf
  have f0 : 1 * w_fi ws (n_v vs 0) 7 + 0 ≤ 2 := f0
  obtain ⟨f1, hf⟩ := fc_un (show (20 : Nat) < 100 from by decide) hf
  have f1 : (-1) * w_fi ws (n_v vs 0) 7 + 0 ≤ (-2) := f1
  obtain ⟨f2, hf⟩ := fc_un (show (20 : Nat) < 100 from by decide) hf
  have f2 : ((-1) * w_fi ws (n_v vs 0) 7 + 0 ≤ (-3)) ∨ (1 * w_fi ws (n_v vs 0) 6 + ((-1) * w_fi ws (n_v vs 0) 8 + (2000 * w_fi ws (n_v vs 0) 7 + 0)) ≤ 4008) := f2
  have kz_0_6 : 0 ≤ w_fi ws (n_v vs 0) 6 ∧ w_fi ws (n_v vs 0) 6 ≤ 2000 := tv_rng (th_fd hD hth r0 (g := GG_8) rfl (k := 6) (t := (0, 0, 2000, [])) rfl rfl)
  have kz_0_7 : (-128) ≤ w_fi ws (n_v vs 0) 7 ∧ w_fi ws (n_v vs 0) 7 ≤ 127 := tv_rng (th_fd hD hth r0 (g := GG_8) rfl (k := 7) (t := (0, -128, 127, [])) rfl rfl)
  have kz_0_8 : 0 ≤ w_fi ws (n_v vs 0) 8 ∧ w_fi ws (n_v vs 0) 8 ≤ 2000 := tv_rng (th_fd hD hth r0 (g := GG_8) rfl (k := 8) (t := (0, 0, 2000, [])) rfl rfl)
  have nf0 : fc_1 (20, [0, 0, 7], [30, 2008, 1, 1, 6, -1, 1, 8, 2000, 0, 0]) ws (vs) := by
    refine ⟨fun n hn => ?_, ?_⟩
    · have hn : n ∈ [0, 0, 7] := hn
      rw [hl]
      simp only [List.mem_cons, List.not_mem_nil, or_false] at hn
      show n < 8; omega
    · show 1 * w_fi ws (n_v vs 0) 6 + ((-1) * w_fi ws (n_v vs 0) 8 + (2000 * v_iv (n_v vs 7) + 0)) ≤ 2008
      omega
  refine ⟨(fun _ h => (by cases h)), [], trivial, ?_, (fun _ h => (by cases h))⟩
  rw [List.append_nil]
  exact List.forall_mem_cons.mpr ⟨⟨show (20 : Nat) < 100 from by decide, nf0⟩, (fun _ h => (by cases h))⟩
def n_Re_isName_an : List an_T := []
def t_Re_isName_ct : ct_L := [(37, 95, e_Re_isWord_at_s5000), (64, 95, e_Re_isWord_at_s5001), (1000000, 93, en_ro [] (2, 0, 0, [5000])), (1000000, 99, en_ro [] (2, 0, 0, [5001]))]
set_option maxRecDepth 100000 in
theorem c_Re_isName {l : Launch} {D : va_G} {kA : Nat → ClassId} (h_Re_isWord_at_s5000 : ct_ok l D kA GG y_Re_isWord_at_s5000 z_Re_isWord_at_s5000 e_Re_isWord_at_s5000) (h_Re_isWord_at_s5001 : ct_ok l D kA GG y_Re_isWord_at_s5001 z_Re_isWord_at_s5001 e_Re_isWord_at_s5001) : ct_ok l D kA GG y_Re_isName z_Re_isName e_Re_isName := chk_all_ok (FT := [(38, 8, 7)]) (PT := []) (CT := t_Re_isName_ct) (KT := []) (NT := []) (AN := n_Re_isName_an) (OT := [o_Re_isName_0, o_Re_isName_1, o_Re_isName_2, o_Re_isName_3, o_Re_isName_4]) 0 200 (List.forall_mem_cons.mpr ⟨oo_Re_isName_0, List.forall_mem_cons.mpr ⟨oo_Re_isName_1, List.forall_mem_cons.mpr ⟨oo_Re_isName_2, List.forall_mem_cons.mpr ⟨oo_Re_isName_3, List.forall_mem_cons.mpr ⟨oo_Re_isName_4, List.forall_mem_nil _⟩⟩⟩⟩⟩) (by decide +kernel) ⟨List.forall_mem_cons.mpr ⟨gf_Re_38, List.forall_mem_nil _⟩, List.forall_mem_nil _, List.forall_mem_cons.mpr ⟨cl_virtual (y := y_Re_isWord_at_s5000) (ci := 8) rfl rfl ⟨_, _, rfl⟩ (by decide +kernel) h_Re_isWord_at_s5000 wm_670 wm_2 wm_667 wm_669 wv_1_2 ⟨by decide, by decide, by decide +kernel⟩ (by decide), List.forall_mem_cons.mpr ⟨cl_virtual (y := y_Re_isWord_at_s5001) (ci := 8) rfl rfl ⟨_, _, rfl⟩ (by decide +kernel) h_Re_isWord_at_s5001 wm_670 wm_2 wm_667 wm_669 wv_1_2 ⟨by decide, by decide, by decide +kernel⟩ (by decide), List.forall_mem_cons.mpr ⟨cl_ldc (own := "DrawingHouse$Reader") (idx := 93) (i := 0) (tx := "node") (by decide +kernel) (by decide +kernel) (by decide +kernel), List.forall_mem_cons.mpr ⟨cl_ldc (own := "DrawingHouse$Reader") (idx := 99) (i := 1) (tx := "group") (by decide +kernel) (by decide +kernel) (by decide +kernel), List.forall_mem_nil _⟩⟩⟩⟩, List.forall_mem_nil _, List.forall_mem_nil _, GG_pl⟩ (by decide +kernel)
def n_Sy_advance_an : List an_T := [(0, [(0, (2, 0, 0, [11]))], [], (0, 0), [(0, 0, 100000), (1, 1, 2000), (0, 0, 100000)], [], [((0, 5), (0, 0, 2000, [])), ((0, 3), (2, 0, 0, [109]))], [], 0, [], []), (39, [(0, (2, 0, 0, [11]))], [], (0, 0), [(0, 0, 100000), (1, 2, 2000), (0, 0, 99961)], [(1, 2, -1000000000000, 2000), (2, 1, -1000000000000, -1)], [((0, 4), (0, 1, 2000, [])), ((0, 5), (0, 0, 1999, [])), ((0, 3), (2, 0, 0, [109]))], [], 0, [], []), (52, [(0, (2, 0, 0, [11]))], [], (0, 0), [(0, 0, 99948), (0, 0, 0), (0, 0, 0)], [(1, 2, -1000000000000, 2000), (2, 1, -1000000000000, 2000)], [((0, 4), (0, 0, 2000, [])), ((0, 5), (0, 0, 2000, [])), ((0, 3), (2, 0, 0, [109]))], [], 0, [], []), (94, [(0, (2, 0, 0, [11])), (1, (0, -128, 127, []))], [], (0, 0), [(0, 0, 99906), (1, 2, 2000), (0, 0, 100000)], [(1, 2, -1000000000000, 127), (2, 1, -1000000000000, 2128)], [((0, 5), (0, 0, 2000, [])), ((0, 3), (2, 0, 0, [109]))], [], 0, [], []), (133, [(0, (2, 0, 0, [11])), (1, (0, -128, 127, []))], [], (0, 0), [(0, 0, 99867), (0, 0, 0), (0, 0, 0)], [(1, 2, -1000000000000, 127), (1, 3, -1000000000000, 127), (2, 1, -1000000000000, 2128), (2, 3, -1000000000000, 2000), (3, 1, -1000000000000, 2128), (3, 2, -1000000000000, 2000)], [((0, 4), (0, 0, 2000, [])), ((0, 5), (0, 0, 2000, [])), ((0, 3), (2, 0, 0, [109]))], [], 0, [], []), (153, [(0, (2, 0, 0, [11])), (1, (0, -128, 127, []))], [(0, 1, 2, []), (2, 0, 0, [11])], (0, 0), [(0, 0, 99847), (0, 0, 0), (0, 0, 0)], [(1, 2, -1000000000000, 126), (1, 4, -1000000000000, 127), (1, 5, -1000000000000, 127), (1, 6, -1000000000000, 127), (2, 1, -1000000000000, 130), (2, 4, -1000000000000, 2), (2, 5, -1000000000000, 2), (2, 6, -1000000000000, 2), (4, 1, -1000000000000, 2128), (4, 2, -1000000000000, 1999), (4, 5, -1000000000000, 2000), (4, 6, -1000000000000, 2000), (5, 1, -1000000000000, 2128), (5, 2, -1000000000000, 1999), (5, 4, -1000000000000, 2000), (5, 6, -1000000000000, 2000), (6, 1, -1000000000000, 2128), (6, 2, -1000000000000, 1999), (6, 4, -1000000000000, 2000), (6, 5, -1000000000000, 2000)], [((0, 7), (0, 0, 2000, [])), ((0, 4), (0, 0, 2000, [])), ((0, 5), (0, 0, 2000, [])), ((0, 3), (2, 0, 0, [109]))], [], 0, [], []), (171, [(0, (2, 0, 0, [11])), (1, (0, -128, 127, []))], [], (0, 0), [(0, 0, 99829), (1, 3, 2000), (0, 0, 100000)], [(1, 3, -1000000000000, 127), (3, 1, -1000000000000, 2128)], [((0, 8), (0, -2147483648, 1000000, [])), ((0, 5), (0, 0, 2000, [])), ((0, 3), (2, 0, 0, [109]))], [], 0, [], []), (239, [(0, (2, 0, 0, [11])), (1, (0, -128, 127, []))], [], (0, 0), [(0, 0, 99761), (0, 0, 0), (0, 0, 0)], [(1, 2, -1000000000000, 127), (1, 4, -1000000000000, 127), (2, 1, -1000000000000, 2128), (2, 4, -1000000000000, 2000), (4, 1, -1000000000000, 2128), (4, 2, -1000000000000, 2000)], [((0, 4), (0, 0, 2000, [])), ((0, 8), (0, -2147483648, 1000000, [])), ((0, 5), (0, 0, 2000, [])), ((0, 3), (2, 0, 0, [109]))], [], 0, [], []), (258, [(0, (2, 0, 0, [11])), (1, (0, -128, 127, []))], [(0, 1, 3, []), (2, 0, 0, [11])], (0, 0), [(0, 0, 99742), (0, 0, 0), (0, 0, 0)], [(1, 2, -1000000000000, 126), (1, 4, -1000000000000, 127), (1, 5, -1000000000000, 127), (1, 7, -1000000000000, 127), (2, 1, -1000000000000, 131), (2, 4, -1000000000000, 3), (2, 5, -1000000000000, 3), (2, 7, -1000000000000, 3), (4, 1, -1000000000000, 2128), (4, 2, -1000000000000, 1999), (4, 5, -1000000000000, 2000), (4, 7, -1000000000000, 2000), (5, 1, -1000000000000, 2128), (5, 2, -1000000000000, 1999), (5, 4, -1000000000000, 2000), (5, 7, -1000000000000, 2000), (7, 1, -1000000000000, 2128), (7, 2, -1000000000000, 1999), (7, 4, -1000000000000, 2000), (7, 5, -1000000000000, 2000)], [((0, 7), (0, 0, 2000, [])), ((0, 4), (0, 0, 2000, [])), ((0, 8), (0, -2147483648, 1000000, [])), ((0, 5), (0, 0, 2000, [])), ((0, 3), (2, 0, 0, [109]))], [], 0, [], []), (293, [(0, (2, 0, 0, [11])), (1, (0, -128, 127, []))], [(2, 0, 0, [11])], (0, 0), [(0, 0, 99707), (0, 0, 0), (0, 0, 0)], [(1, 3, -1000000000000, 126), (1, 4, -1000000000000, 127), (1, 5, -1000000000000, 126), (3, 1, -1000000000000, 2128), (3, 4, -1000000000000, 1), (3, 5, -1000000000000, 0), (4, 1, -1000000000000, 2127), (4, 3, -1000000000000, -1), (4, 5, -1000000000000, -1), (5, 1, -1000000000000, 2128), (5, 3, -1000000000000, 1999), (5, 4, -1000000000000, 2000)], [((0, 5), (0, 1, 2000, [])), ((0, 7), (0, 0, 1999, [])), ((0, 4), (0, 1, 2000, [])), ((0, 3), (2, 0, 0, [109]))], [], 0, [], []), (294, [(0, (2, 0, 0, [11])), (1, (0, -128, 127, []))], [(0, 1, 127, []), (2, 0, 0, [11])], (0, 0), [(0, 0, 99706), (0, 0, 0), (0, 0, 0)], [(1, 2, -1000000000000, 126), (1, 4, -1000000000000, 126), (1, 5, -1000000000000, 127), (1, 6, -1000000000000, 126), (2, 1, -1000000000000, 129), (2, 4, -1000000000000, 126), (2, 5, -1000000000000, 127), (2, 6, -1000000000000, 126), (4, 1, -1000000000000, 2128), (4, 2, -1000000000000, 1999), (4, 5, -1000000000000, 1), (4, 6, -1000000000000, 0), (5, 1, -1000000000000, 2127), (5, 2, -1000000000000, 1998), (5, 4, -1000000000000, -1), (5, 6, -1000000000000, -1), (6, 1, -1000000000000, 2128), (6, 2, -1000000000000, 1999), (6, 4, -1000000000000, 1999), (6, 5, -1000000000000, 2000)], [((0, 5), (0, 1, 2000, [])), ((0, 7), (0, 0, 1999, [])), ((0, 4), (0, 1, 2000, [])), ((0, 3), (2, 0, 0, [109]))], [], 0, [], []), (297, [(0, (2, 0, 0, [11])), (1, (0, -128, 127, []))], [], (0, 0), [(0, 0, 99703), (0, 0, 0), (0, 0, 0)], [(1, 2, -1000000000000, 127), (1, 3, -1000000000000, 127), (1, 4, -1000000000000, 127), (2, 1, -1000000000000, 2128), (2, 3, -1000000000000, 2000), (2, 4, -1000000000000, 2000), (3, 1, -1000000000000, 2128), (3, 2, -1000000000000, 2000), (3, 4, -1000000000000, 2000), (4, 1, -1000000000000, 2128), (4, 2, -1000000000000, 2000), (4, 3, -1000000000000, 2000)], [((0, 5), (0, 0, 2000, [])), ((0, 7), (0, 0, 2000, [])), ((0, 4), (0, 0, 2000, [])), ((0, 3), (2, 0, 0, [109]))], [], 0, [], [])]
def t_Sy_advance_ct : ct_L := [(267, 76, e_Sy_isSmall_np), (345, 76, e_Sy_isSmall_np), (483, 80, e_Re_isDigit_np), (576, 80, e_Re_isDigit_np), (663, 86, e_jMath_min1_v64), (663, 86, e_jMath_min1_v65), (663, 86, e_jMath_min1_v66), (663, 86, e_jMath_min1_v67), (663, 86, e_jMath_min1_v68), (853, 94, e_jStr_indexOf1_v224), (1000000, 92, en_ro [] (2, 0, 0, [5005]))]
set_option maxRecDepth 100000 in
theorem c_Sy_advance {l : Launch} {D : va_G} {kA : Nat → ClassId} (h_Re_isDigit : ct_ok l D kA GG y_Re_isDigit z_Re_isDigit e_Re_isDigit) (h_Sy_isSmall : ct_ok l D kA GG y_Sy_isSmall z_Sy_isSmall e_Sy_isSmall) : ct_ok l D kA GG y_Sy_advance z_Sy_advance e_Sy_advance := chk_all_ok (FT := [(21, 11, 3), (25, 11, 4), (28, 11, 5), (34, 11, 7), (37, 11, 8)]) (PT := [(28, 11, 5, .int), (31, 11, 6, .int), (34, 11, 7, .int), (37, 11, 8, .int)]) (CT := t_Sy_advance_ct) (KT := [(0, 85, .int (1000000), (0, 1000000, 1000000, []))]) (NT := []) (AN := n_Sy_advance_an) (OT := []) 3 612 (List.forall_mem_nil _) (by decide +kernel) ⟨List.forall_mem_cons.mpr ⟨gf_Sy_21, List.forall_mem_cons.mpr ⟨gf_Sy_25, List.forall_mem_cons.mpr ⟨gf_Sy_28, List.forall_mem_cons.mpr ⟨gf_Sy_34, List.forall_mem_cons.mpr ⟨gf_Sy_37, List.forall_mem_nil _⟩⟩⟩⟩⟩, List.forall_mem_cons.mpr ⟨pf_Sy_28, List.forall_mem_cons.mpr ⟨pf_Sy_31, List.forall_mem_cons.mpr ⟨pf_Sy_34, List.forall_mem_cons.mpr ⟨pf_Sy_37, List.forall_mem_nil _⟩⟩⟩⟩, List.forall_mem_cons.mpr ⟨cl_nopa (cl_static (y := y_Sy_isSmall) h_Sy_isSmall wm_2161 wm_23 wm_2159 wm_2160 ⟨by decide, by decide, by decide +kernel⟩ (by decide)), List.forall_mem_cons.mpr ⟨cl_nopa (cl_static (y := y_Sy_isSmall) h_Sy_isSmall wm_2161 wm_23 wm_2159 wm_2160 ⟨by decide, by decide, by decide +kernel⟩ (by decide)), List.forall_mem_cons.mpr ⟨cl_nopa (cl_staticN (y := y_Re_isDigit) h_Re_isDigit wm_654 wm_2 wn_2162 wm_653 ⟨by decide, by decide, by decide +kernel⟩ (by decide)), List.forall_mem_cons.mpr ⟨cl_nopa (cl_staticN (y := y_Re_isDigit) h_Re_isDigit wm_654 wm_2 wn_2162 wm_653 ⟨by decide, by decide, by decide +kernel⟩ (by decide)), List.forall_mem_cons.mpr ⟨cl_static (y := y_jMath_min1) c_jMath_min1_v64 wm_658 wm_10 wm_2164 wm_657 ⟨by decide, by decide, by decide +kernel⟩ (by decide), List.forall_mem_cons.mpr ⟨cl_static (y := y_jMath_min1) c_jMath_min1_v65 wm_658 wm_10 wm_2164 wm_657 ⟨by decide, by decide, by decide +kernel⟩ (by decide), List.forall_mem_cons.mpr ⟨cl_static (y := y_jMath_min1) c_jMath_min1_v66 wm_658 wm_10 wm_2164 wm_657 ⟨by decide, by decide, by decide +kernel⟩ (by decide), List.forall_mem_cons.mpr ⟨cl_static (y := y_jMath_min1) c_jMath_min1_v67 wm_658 wm_10 wm_2164 wm_657 ⟨by decide, by decide, by decide +kernel⟩ (by decide), List.forall_mem_cons.mpr ⟨cl_static (y := y_jMath_min1) c_jMath_min1_v68 wm_658 wm_10 wm_2164 wm_657 ⟨by decide, by decide, by decide +kernel⟩ (by decide), List.forall_mem_cons.mpr ⟨cl_string (y := y_jStr_indexOf1) (i := 5) rfl rfl (by decide +kernel) rfl c_jStr_indexOf1_v224 wm_2169 wm_11 wm_2166 wm_2167 wm_2168 ⟨by decide, by decide, by decide +kernel⟩ (by decide), List.forall_mem_cons.mpr ⟨cl_ldc (own := "DrawingHouse$Styler") (idx := 92) (i := 5) (tx := ":=,;{}<>+-*/()") (by decide +kernel) (by decide +kernel) (by decide +kernel), List.forall_mem_nil _⟩⟩⟩⟩⟩⟩⟩⟩⟩⟩⟩, List.forall_mem_cons.mpr ⟨kx_Sy_0_85, List.forall_mem_nil _⟩, List.forall_mem_nil _, GG_pl⟩ (by decide +kernel)
def n_Sy_wordIn_at_s5004_an : List an_T := [(7, [(0, (2, 0, 0, [11])), (1, (2, 0, 0, [5004])), (2, (0, -2147483648, 2147483647, [])), (3, (0, 0, 39, [])), (4, (0, 0, 39, []))], [], (0, 0), [(0, 0, 99993), (1, 4, 39), (0, 0, 100000)], [], [((0, 3), (2, 0, 0, [109]))], [], 0, [], [])]
def t_Sy_wordIn_at_s5004_ct : ct_L := [(34, 100, e_jStr_length_v231), (85, 104, e_jStr_charAt_v144), (124, 108, e_Sy_isWordAt_at_s5004)]
set_option maxRecDepth 100000 in
theorem c_Sy_wordIn_at_s5004 {l : Launch} {D : va_G} {kA : Nat → ClassId} (h_Sy_isWordAt_at_s5004 : ct_ok l D kA GG y_Sy_isWordAt_at_s5004 z_Sy_isWordAt_at_s5004 e_Sy_isWordAt_at_s5004) : ct_ok l D kA GG y_Sy_wordIn_at_s5004 z_Sy_wordIn_at_s5004 e_Sy_wordIn_at_s5004 := chk_all_ok (FT := [(31, 11, 6)]) (PT := []) (CT := t_Sy_wordIn_at_s5004_ct) (KT := []) (NT := []) (AN := n_Sy_wordIn_at_s5004_an) (OT := []) 3 200 (List.forall_mem_nil _) (by decide +kernel) ⟨List.forall_mem_cons.mpr ⟨gf_Sy_31, List.forall_mem_nil _⟩, List.forall_mem_nil _, List.forall_mem_cons.mpr ⟨cl_string (y := y_jStr_length) (i := 4) rfl rfl (by decide +kernel) rfl c_jStr_length_v231 wm_674 wm_11 wm_2230 wm_672 wm_673 ⟨by decide, by decide, by decide +kernel⟩ (by decide), List.forall_mem_cons.mpr ⟨cl_string (y := y_jStr_charAt) (i := 4) rfl rfl (by decide +kernel) rfl c_jStr_charAt_v144 wm_684 wm_11 wm_2231 wm_682 wm_683 ⟨by decide, by decide, by decide +kernel⟩ (by decide), List.forall_mem_cons.mpr ⟨cl_virtual (y := y_Sy_isWordAt_at_s5004) (ci := 11) rfl rfl ⟨_, _, rfl⟩ (by decide +kernel) h_Sy_isWordAt_at_s5004 wm_2235 wm_23 wm_2232 wm_2234 wv_10_13 ⟨by decide, by decide, by decide +kernel⟩ (by decide), List.forall_mem_nil _⟩⟩⟩, List.forall_mem_nil _, List.forall_mem_nil _, GG_pl⟩ (by decide +kernel)
def n_Sy_wordIn_at_s5006_an : List an_T := [(7, [(0, (2, 0, 0, [11])), (1, (2, 0, 0, [5006])), (2, (0, -2147483648, 2147483647, [])), (3, (0, 0, 10, [])), (4, (0, 0, 10, []))], [], (0, 0), [(0, 0, 99993), (1, 4, 10), (0, 0, 100000)], [], [((0, 3), (2, 0, 0, [109]))], [], 0, [], [])]
def t_Sy_wordIn_at_s5006_ct : ct_L := [(34, 100, e_jStr_length_v232), (85, 104, e_jStr_charAt_v149), (124, 108, e_Sy_isWordAt_at_s5006)]
set_option maxRecDepth 100000 in
theorem c_Sy_wordIn_at_s5006 {l : Launch} {D : va_G} {kA : Nat → ClassId} (h_Sy_isWordAt_at_s5006 : ct_ok l D kA GG y_Sy_isWordAt_at_s5006 z_Sy_isWordAt_at_s5006 e_Sy_isWordAt_at_s5006) : ct_ok l D kA GG y_Sy_wordIn_at_s5006 z_Sy_wordIn_at_s5006 e_Sy_wordIn_at_s5006 := chk_all_ok (FT := [(31, 11, 6)]) (PT := []) (CT := t_Sy_wordIn_at_s5006_ct) (KT := []) (NT := []) (AN := n_Sy_wordIn_at_s5006_an) (OT := []) 3 200 (List.forall_mem_nil _) (by decide +kernel) ⟨List.forall_mem_cons.mpr ⟨gf_Sy_31, List.forall_mem_nil _⟩, List.forall_mem_nil _, List.forall_mem_cons.mpr ⟨cl_string (y := y_jStr_length) (i := 6) rfl rfl (by decide +kernel) rfl c_jStr_length_v232 wm_674 wm_11 wm_2230 wm_672 wm_673 ⟨by decide, by decide, by decide +kernel⟩ (by decide), List.forall_mem_cons.mpr ⟨cl_string (y := y_jStr_charAt) (i := 6) rfl rfl (by decide +kernel) rfl c_jStr_charAt_v149 wm_684 wm_11 wm_2231 wm_682 wm_683 ⟨by decide, by decide, by decide +kernel⟩ (by decide), List.forall_mem_cons.mpr ⟨cl_virtual (y := y_Sy_isWordAt_at_s5006) (ci := 11) rfl rfl ⟨_, _, rfl⟩ (by decide +kernel) h_Sy_isWordAt_at_s5006 wm_2235 wm_23 wm_2232 wm_2234 wv_10_13 ⟨by decide, by decide, by decide +kernel⟩ (by decide), List.forall_mem_nil _⟩⟩⟩, List.forall_mem_nil _, List.forall_mem_nil _, GG_pl⟩ (by decide +kernel)
def n_Sy_wordIn_at_s5007_an : List an_T := [(7, [(0, (2, 0, 0, [11])), (1, (2, 0, 0, [5007])), (2, (0, -2147483648, 2147483647, [])), (3, (0, 0, 44, [])), (4, (0, 0, 44, []))], [], (0, 0), [(0, 0, 99993), (1, 4, 44), (0, 0, 100000)], [], [((0, 3), (2, 0, 0, [109]))], [], 0, [], [])]
def t_Sy_wordIn_at_s5007_ct : ct_L := [(34, 100, e_jStr_length_v233), (85, 104, e_jStr_charAt_v153), (124, 108, e_Sy_isWordAt_at_s5007)]
set_option maxRecDepth 100000 in
theorem c_Sy_wordIn_at_s5007 {l : Launch} {D : va_G} {kA : Nat → ClassId} (h_Sy_isWordAt_at_s5007 : ct_ok l D kA GG y_Sy_isWordAt_at_s5007 z_Sy_isWordAt_at_s5007 e_Sy_isWordAt_at_s5007) : ct_ok l D kA GG y_Sy_wordIn_at_s5007 z_Sy_wordIn_at_s5007 e_Sy_wordIn_at_s5007 := chk_all_ok (FT := [(31, 11, 6)]) (PT := []) (CT := t_Sy_wordIn_at_s5007_ct) (KT := []) (NT := []) (AN := n_Sy_wordIn_at_s5007_an) (OT := []) 3 200 (List.forall_mem_nil _) (by decide +kernel) ⟨List.forall_mem_cons.mpr ⟨gf_Sy_31, List.forall_mem_nil _⟩, List.forall_mem_nil _, List.forall_mem_cons.mpr ⟨cl_string (y := y_jStr_length) (i := 7) rfl rfl (by decide +kernel) rfl c_jStr_length_v233 wm_674 wm_11 wm_2230 wm_672 wm_673 ⟨by decide, by decide, by decide +kernel⟩ (by decide), List.forall_mem_cons.mpr ⟨cl_string (y := y_jStr_charAt) (i := 7) rfl rfl (by decide +kernel) rfl c_jStr_charAt_v153 wm_684 wm_11 wm_2231 wm_682 wm_683 ⟨by decide, by decide, by decide +kernel⟩ (by decide), List.forall_mem_cons.mpr ⟨cl_virtual (y := y_Sy_isWordAt_at_s5007) (ci := 11) rfl rfl ⟨_, _, rfl⟩ (by decide +kernel) h_Sy_isWordAt_at_s5007 wm_2235 wm_23 wm_2232 wm_2234 wv_10_13 ⟨by decide, by decide, by decide +kernel⟩ (by decide), List.forall_mem_nil _⟩⟩⟩, List.forall_mem_nil _, List.forall_mem_nil _, GG_pl⟩ (by decide +kernel)
def n_Sy_wordIn_at_s5008_an : List an_T := [(7, [(0, (2, 0, 0, [11])), (1, (2, 0, 0, [5008])), (2, (0, -2147483648, 2147483647, [])), (3, (0, 0, 3, [])), (4, (0, 0, 3, []))], [], (0, 0), [(0, 0, 99993), (1, 4, 3), (0, 0, 100000)], [], [((0, 3), (2, 0, 0, [109]))], [], 0, [], [])]
def t_Sy_wordIn_at_s5008_ct : ct_L := [(34, 100, e_jStr_length_v234), (85, 104, e_jStr_charAt_v157), (124, 108, e_Sy_isWordAt_at_s5008)]
set_option maxRecDepth 100000 in
theorem c_Sy_wordIn_at_s5008 {l : Launch} {D : va_G} {kA : Nat → ClassId} (h_Sy_isWordAt_at_s5008 : ct_ok l D kA GG y_Sy_isWordAt_at_s5008 z_Sy_isWordAt_at_s5008 e_Sy_isWordAt_at_s5008) : ct_ok l D kA GG y_Sy_wordIn_at_s5008 z_Sy_wordIn_at_s5008 e_Sy_wordIn_at_s5008 := chk_all_ok (FT := [(31, 11, 6)]) (PT := []) (CT := t_Sy_wordIn_at_s5008_ct) (KT := []) (NT := []) (AN := n_Sy_wordIn_at_s5008_an) (OT := []) 3 200 (List.forall_mem_nil _) (by decide +kernel) ⟨List.forall_mem_cons.mpr ⟨gf_Sy_31, List.forall_mem_nil _⟩, List.forall_mem_nil _, List.forall_mem_cons.mpr ⟨cl_string (y := y_jStr_length) (i := 8) rfl rfl (by decide +kernel) rfl c_jStr_length_v234 wm_674 wm_11 wm_2230 wm_672 wm_673 ⟨by decide, by decide, by decide +kernel⟩ (by decide), List.forall_mem_cons.mpr ⟨cl_string (y := y_jStr_charAt) (i := 8) rfl rfl (by decide +kernel) rfl c_jStr_charAt_v157 wm_684 wm_11 wm_2231 wm_682 wm_683 ⟨by decide, by decide, by decide +kernel⟩ (by decide), List.forall_mem_cons.mpr ⟨cl_virtual (y := y_Sy_isWordAt_at_s5008) (ci := 11) rfl rfl ⟨_, _, rfl⟩ (by decide +kernel) h_Sy_isWordAt_at_s5008 wm_2235 wm_23 wm_2232 wm_2234 wv_10_13 ⟨by decide, by decide, by decide +kernel⟩ (by decide), List.forall_mem_nil _⟩⟩⟩, List.forall_mem_nil _, List.forall_mem_nil _, GG_pl⟩ (by decide +kernel)
def n_Sy_wordIn_at_s5009_an : List an_T := [(7, [(0, (2, 0, 0, [11])), (1, (2, 0, 0, [5009])), (2, (0, -2147483648, 2147483647, [])), (3, (0, 0, 4, [])), (4, (0, 0, 4, []))], [], (0, 0), [(0, 0, 99993), (1, 4, 4), (0, 0, 100000)], [], [((0, 3), (2, 0, 0, [109]))], [], 0, [], [])]
def t_Sy_wordIn_at_s5009_ct : ct_L := [(34, 100, e_jStr_length_v235), (85, 104, e_jStr_charAt_v161), (124, 108, e_Sy_isWordAt_at_s5009)]
set_option maxRecDepth 100000 in
theorem c_Sy_wordIn_at_s5009 {l : Launch} {D : va_G} {kA : Nat → ClassId} (h_Sy_isWordAt_at_s5009 : ct_ok l D kA GG y_Sy_isWordAt_at_s5009 z_Sy_isWordAt_at_s5009 e_Sy_isWordAt_at_s5009) : ct_ok l D kA GG y_Sy_wordIn_at_s5009 z_Sy_wordIn_at_s5009 e_Sy_wordIn_at_s5009 := chk_all_ok (FT := [(31, 11, 6)]) (PT := []) (CT := t_Sy_wordIn_at_s5009_ct) (KT := []) (NT := []) (AN := n_Sy_wordIn_at_s5009_an) (OT := []) 3 200 (List.forall_mem_nil _) (by decide +kernel) ⟨List.forall_mem_cons.mpr ⟨gf_Sy_31, List.forall_mem_nil _⟩, List.forall_mem_nil _, List.forall_mem_cons.mpr ⟨cl_string (y := y_jStr_length) (i := 9) rfl rfl (by decide +kernel) rfl c_jStr_length_v235 wm_674 wm_11 wm_2230 wm_672 wm_673 ⟨by decide, by decide, by decide +kernel⟩ (by decide), List.forall_mem_cons.mpr ⟨cl_string (y := y_jStr_charAt) (i := 9) rfl rfl (by decide +kernel) rfl c_jStr_charAt_v161 wm_684 wm_11 wm_2231 wm_682 wm_683 ⟨by decide, by decide, by decide +kernel⟩ (by decide), List.forall_mem_cons.mpr ⟨cl_virtual (y := y_Sy_isWordAt_at_s5009) (ci := 11) rfl rfl ⟨_, _, rfl⟩ (by decide +kernel) h_Sy_isWordAt_at_s5009 wm_2235 wm_23 wm_2232 wm_2234 wv_10_13 ⟨by decide, by decide, by decide +kernel⟩ (by decide), List.forall_mem_nil _⟩⟩⟩, List.forall_mem_nil _, List.forall_mem_nil _, GG_pl⟩ (by decide +kernel)
def n_Sy_wordIn_at_s5010_an : List an_T := [(7, [(0, (2, 0, 0, [11])), (1, (2, 0, 0, [5010])), (2, (0, -2147483648, 2147483647, [])), (3, (0, 0, 4, [])), (4, (0, 0, 4, []))], [], (0, 0), [(0, 0, 99993), (1, 4, 4), (0, 0, 100000)], [], [((0, 3), (2, 0, 0, [109]))], [], 0, [], [])]
def t_Sy_wordIn_at_s5010_ct : ct_L := [(34, 100, e_jStr_length_v236), (85, 104, e_jStr_charAt_v165), (124, 108, e_Sy_isWordAt_at_s5010)]
set_option maxRecDepth 100000 in
theorem c_Sy_wordIn_at_s5010 {l : Launch} {D : va_G} {kA : Nat → ClassId} (h_Sy_isWordAt_at_s5010 : ct_ok l D kA GG y_Sy_isWordAt_at_s5010 z_Sy_isWordAt_at_s5010 e_Sy_isWordAt_at_s5010) : ct_ok l D kA GG y_Sy_wordIn_at_s5010 z_Sy_wordIn_at_s5010 e_Sy_wordIn_at_s5010 := chk_all_ok (FT := [(31, 11, 6)]) (PT := []) (CT := t_Sy_wordIn_at_s5010_ct) (KT := []) (NT := []) (AN := n_Sy_wordIn_at_s5010_an) (OT := []) 3 200 (List.forall_mem_nil _) (by decide +kernel) ⟨List.forall_mem_cons.mpr ⟨gf_Sy_31, List.forall_mem_nil _⟩, List.forall_mem_nil _, List.forall_mem_cons.mpr ⟨cl_string (y := y_jStr_length) (i := 10) rfl rfl (by decide +kernel) rfl c_jStr_length_v236 wm_674 wm_11 wm_2230 wm_672 wm_673 ⟨by decide, by decide, by decide +kernel⟩ (by decide), List.forall_mem_cons.mpr ⟨cl_string (y := y_jStr_charAt) (i := 10) rfl rfl (by decide +kernel) rfl c_jStr_charAt_v165 wm_684 wm_11 wm_2231 wm_682 wm_683 ⟨by decide, by decide, by decide +kernel⟩ (by decide), List.forall_mem_cons.mpr ⟨cl_virtual (y := y_Sy_isWordAt_at_s5010) (ci := 11) rfl rfl ⟨_, _, rfl⟩ (by decide +kernel) h_Sy_isWordAt_at_s5010 wm_2235 wm_23 wm_2232 wm_2234 wv_10_13 ⟨by decide, by decide, by decide +kernel⟩ (by decide), List.forall_mem_nil _⟩⟩⟩, List.forall_mem_nil _, List.forall_mem_nil _, GG_pl⟩ (by decide +kernel)
def n_Sy_wordIn_at_s5011_an : List an_T := [(7, [(0, (2, 0, 0, [11])), (1, (2, 0, 0, [5011])), (2, (0, -2147483648, 2147483647, [])), (3, (0, 0, 3, [])), (4, (0, 0, 3, []))], [], (0, 0), [(0, 0, 99993), (1, 4, 3), (0, 0, 100000)], [], [((0, 3), (2, 0, 0, [109]))], [], 0, [], [])]
def t_Sy_wordIn_at_s5011_ct : ct_L := [(34, 100, e_jStr_length_v237), (85, 104, e_jStr_charAt_v167), (124, 108, e_Sy_isWordAt_at_s5011)]
set_option maxRecDepth 100000 in
theorem c_Sy_wordIn_at_s5011 {l : Launch} {D : va_G} {kA : Nat → ClassId} (h_Sy_isWordAt_at_s5011 : ct_ok l D kA GG y_Sy_isWordAt_at_s5011 z_Sy_isWordAt_at_s5011 e_Sy_isWordAt_at_s5011) : ct_ok l D kA GG y_Sy_wordIn_at_s5011 z_Sy_wordIn_at_s5011 e_Sy_wordIn_at_s5011 := chk_all_ok (FT := [(31, 11, 6)]) (PT := []) (CT := t_Sy_wordIn_at_s5011_ct) (KT := []) (NT := []) (AN := n_Sy_wordIn_at_s5011_an) (OT := []) 3 200 (List.forall_mem_nil _) (by decide +kernel) ⟨List.forall_mem_cons.mpr ⟨gf_Sy_31, List.forall_mem_nil _⟩, List.forall_mem_nil _, List.forall_mem_cons.mpr ⟨cl_string (y := y_jStr_length) (i := 11) rfl rfl (by decide +kernel) rfl c_jStr_length_v237 wm_674 wm_11 wm_2230 wm_672 wm_673 ⟨by decide, by decide, by decide +kernel⟩ (by decide), List.forall_mem_cons.mpr ⟨cl_string (y := y_jStr_charAt) (i := 11) rfl rfl (by decide +kernel) rfl c_jStr_charAt_v167 wm_684 wm_11 wm_2231 wm_682 wm_683 ⟨by decide, by decide, by decide +kernel⟩ (by decide), List.forall_mem_cons.mpr ⟨cl_virtual (y := y_Sy_isWordAt_at_s5011) (ci := 11) rfl rfl ⟨_, _, rfl⟩ (by decide +kernel) h_Sy_isWordAt_at_s5011 wm_2235 wm_23 wm_2232 wm_2234 wv_10_13 ⟨by decide, by decide, by decide +kernel⟩ (by decide), List.forall_mem_nil _⟩⟩⟩, List.forall_mem_nil _, List.forall_mem_nil _, GG_pl⟩ (by decide +kernel)
def n_Sy_wordIn_at_s5012_an : List an_T := [(7, [(0, (2, 0, 0, [11])), (1, (2, 0, 0, [5012])), (2, (0, -2147483648, 2147483647, [])), (3, (0, 0, 17, [])), (4, (0, 0, 17, []))], [], (0, 0), [(0, 0, 99993), (1, 4, 17), (0, 0, 100000)], [], [((0, 3), (2, 0, 0, [109]))], [], 0, [], [])]
def t_Sy_wordIn_at_s5012_ct : ct_L := [(34, 100, e_jStr_length_v238), (85, 104, e_jStr_charAt_v169), (124, 108, e_Sy_isWordAt_at_s5012)]
set_option maxRecDepth 100000 in
theorem c_Sy_wordIn_at_s5012 {l : Launch} {D : va_G} {kA : Nat → ClassId} (h_Sy_isWordAt_at_s5012 : ct_ok l D kA GG y_Sy_isWordAt_at_s5012 z_Sy_isWordAt_at_s5012 e_Sy_isWordAt_at_s5012) : ct_ok l D kA GG y_Sy_wordIn_at_s5012 z_Sy_wordIn_at_s5012 e_Sy_wordIn_at_s5012 := chk_all_ok (FT := [(31, 11, 6)]) (PT := []) (CT := t_Sy_wordIn_at_s5012_ct) (KT := []) (NT := []) (AN := n_Sy_wordIn_at_s5012_an) (OT := []) 3 200 (List.forall_mem_nil _) (by decide +kernel) ⟨List.forall_mem_cons.mpr ⟨gf_Sy_31, List.forall_mem_nil _⟩, List.forall_mem_nil _, List.forall_mem_cons.mpr ⟨cl_string (y := y_jStr_length) (i := 12) rfl rfl (by decide +kernel) rfl c_jStr_length_v238 wm_674 wm_11 wm_2230 wm_672 wm_673 ⟨by decide, by decide, by decide +kernel⟩ (by decide), List.forall_mem_cons.mpr ⟨cl_string (y := y_jStr_charAt) (i := 12) rfl rfl (by decide +kernel) rfl c_jStr_charAt_v169 wm_684 wm_11 wm_2231 wm_682 wm_683 ⟨by decide, by decide, by decide +kernel⟩ (by decide), List.forall_mem_cons.mpr ⟨cl_virtual (y := y_Sy_isWordAt_at_s5012) (ci := 11) rfl rfl ⟨_, _, rfl⟩ (by decide +kernel) h_Sy_isWordAt_at_s5012 wm_2235 wm_23 wm_2232 wm_2234 wv_10_13 ⟨by decide, by decide, by decide +kernel⟩ (by decide), List.forall_mem_nil _⟩⟩⟩, List.forall_mem_nil _, List.forall_mem_nil _, GG_pl⟩ (by decide +kernel)
def n_Mo_forces_an : List an_T := [(21, [(0, (2, 0, 0, [150])), (1, (0, 0, 200, [])), (2, (0, 0, 24, [])), (3, (0, 0, 24, []))], [], (0, 0), [(0, 0, 99979), (1, 3, 24), (0, 0, 100000), (0, 0, 0), (0, 0, 0)], [], [], [], 0, [], []), (68, [(0, (2, 0, 0, [150])), (1, (0, 0, 200, [])), (2, (0, 0, 24, [])), (3, (0, 0, 200, []))], [], (0, 0), [(0, 0, 99932), (1, 3, 200), (0, 0, 100000), (0, 0, 0), (0, 0, 0)], [], [], [], 0, [], []), (76, [(0, (2, 0, 0, [150])), (1, (0, 1, 200, [])), (2, (0, 0, 24, [])), (3, (0, 0, 199, [])), (4, (0, 0, 24, []))], [], (0, 0), [(0, 0, 99932), (1, 3, 200), (0, 0, 99924), (1, 4, 24), (0, 0, 100000)], [], [], [], 0, [], []), (111, [(0, (2, 0, 0, [150])), (1, (0, 1, 200, [])), (2, (0, 0, 24, [])), (3, (0, 0, 199, [])), (4, (1, 0, 256, [])), (6, (0, 0, 24, []))], [], (0, 0), [(0, 0, 99932), (1, 3, 200), (0, 0, 99889), (1, 5, 24), (0, 0, 100000)], [], [], [], 0, [], []), (175, [(0, (2, 0, 0, [150])), (1, (0, 0, 200, [])), (2, (0, 0, 24, [])), (3, (0, 0, 24, []))], [], (0, 0), [(0, 0, 99825), (1, 3, 24), (0, 0, 100000), (0, 0, 0), (0, 0, 0)], [], [], [], 0, [], [])]
def t_Mo_forces_ct : ct_L := [(0, 387, e_Mo_in), (0, 999, e_Mo_bounded), (1, 475, e_Mo_nodes), (1, 996, e_Mo_pull), (585, 1005, e_jMath_floorDiv2_v72), (642, 1005, e_jMath_floorDiv2_v72)]
set_option maxRecDepth 100000 in
theorem c_Mo_forces {l : Launch} {D : va_G} {kA : Nat → ClassId} (h_Mo_bounded : ct_ok l D kA GG y_Mo_bounded z_Mo_bounded e_Mo_bounded) (h_Mo_in : ct_ok l D kA GG y_Mo_in z_Mo_in e_Mo_in) (h_Mo_nodes : ct_ok l D kA GG y_Mo_nodes z_Mo_nodes e_Mo_nodes) (h_Mo_pull : ct_ok l D kA GG y_Mo_pull z_Mo_pull e_Mo_pull) : ct_ok l D kA GG y_Mo_forces z_Mo_forces e_Mo_forces := chk_all_ok (FT := [(159, 13, 74), (162, 13, 75), (305, 13, 135), (308, 13, 136), (311, 13, 137), (314, 13, 138)]) (PT := []) (CT := t_Mo_forces_ct) (KT := [(2, 1003, .long (16), (1, 16, 16, []))]) (NT := []) (AN := n_Mo_forces_an) (OT := []) 5 776 (List.forall_mem_nil _) (by decide +kernel) ⟨List.forall_mem_cons.mpr ⟨gf_Mo_159, List.forall_mem_cons.mpr ⟨gf_Mo_162, List.forall_mem_cons.mpr ⟨gf_Mo_305, List.forall_mem_cons.mpr ⟨gf_Mo_308, List.forall_mem_cons.mpr ⟨gf_Mo_311, List.forall_mem_cons.mpr ⟨gf_Mo_314, List.forall_mem_nil _⟩⟩⟩⟩⟩⟩, List.forall_mem_nil _, List.forall_mem_cons.mpr ⟨cl_static (y := y_Mo_in) h_Mo_in wm_2971 wm_9 wm_2969 wm_2970 ⟨by decide, by decide, by decide +kernel⟩ (by decide), List.forall_mem_cons.mpr ⟨cl_static (y := y_Mo_bounded) h_Mo_bounded wm_3634 wm_9 wm_3632 wm_3633 ⟨by decide, by decide, by decide +kernel⟩ (by decide), List.forall_mem_cons.mpr ⟨cl_virtual (y := y_Mo_nodes) (ci := 13) rfl rfl ⟨_, _, rfl⟩ (by decide +kernel) h_Mo_nodes wm_3025 wm_9 wm_3022 wm_3024 wv_13_3 ⟨by decide, by decide, by decide +kernel⟩ (by decide), List.forall_mem_cons.mpr ⟨cl_virtual (y := y_Mo_pull) (ci := 13) rfl rfl ⟨_, _, rfl⟩ (by decide +kernel) h_Mo_pull wm_3624 wm_9 wm_3621 wm_3623 wv_21_9 ⟨by decide, by decide, by decide +kernel⟩ (by decide), List.forall_mem_cons.mpr ⟨cl_static (y := y_jMath_floorDiv2) c_jMath_floorDiv2_v72 wm_1800 wm_10 wm_3636 wm_1799 ⟨by decide, by decide, by decide +kernel⟩ (by decide), List.forall_mem_cons.mpr ⟨cl_static (y := y_jMath_floorDiv2) c_jMath_floorDiv2_v72 wm_1800 wm_10 wm_3636 wm_1799 ⟨by decide, by decide, by decide +kernel⟩ (by decide), List.forall_mem_nil _⟩⟩⟩⟩⟩⟩, List.forall_mem_cons.mpr ⟨⟨kt_mk2 wm_3635, fun _ => Or.inr (Or.inl ⟨rfl, _, rfl, by decide, by decide⟩)⟩, List.forall_mem_nil _⟩, List.forall_mem_nil _, GG_pl⟩ (by decide +kernel)
def o_Mo_write_at_s5013_0 : or_T := (2, 4, [(0, (2, 0, 0, [150])), (2, (0, 0, 99999995, [])), (3, (0, 0, 0, []))], [(20, [0, 2], [30, 0, 1, 1, 170, -1, 0, 0])], [], [], [(20, [0, 2, 3], [30, 0, 1, 1, 170, -1, 0, 0, -1, 0, 0]), (24, [0, 0], [])], [], [])
theorem oo_Mo_write_at_s5013_0 {kA : Nat → ClassId} : or_ok kA GG o_Mo_write_at_s5013_0 := by
  intro A ta ws vs hD hth hl hk hds hf
  have hl : vs.length = 4 := hl
  have hk : ∀ q ∈ ([(0, (2, 0, 0, [150])), (2, (0, 0, 99999995, [])), (3, (0, 0, 0, []))] : List (Nat × tv_T)), tv_ok ta q.2 (n_v vs q.1) := hk
  obtain ⟨t0, hk⟩ := List.forall_mem_cons.mp hk
  have t0 : tv_ok ta (2, 0, 0, [150]) (n_v vs 0) := t0
  have r0 : ta (v_ad (n_v vs 0)) = some 150 := tv_rg t0
  obtain ⟨t2, hk⟩ := List.forall_mem_cons.mp hk
  have t2 : tv_ok ta (0, 0, 99999995, []) (n_v vs 2) := t2
  have k2 : 0 ≤ v_iv (n_v vs 2) ∧ v_iv (n_v vs 2) ≤ 99999995 := tv_rng t2
  obtain ⟨t3, hk⟩ := List.forall_mem_cons.mp hk
  have t3 : tv_ok ta (0, 0, 0, []) (n_v vs 3) := t3
  have k3 : 0 ≤ v_iv (n_v vs 3) ∧ v_iv (n_v vs 3) ≤ 0 := tv_rng t3
  have hf : fc_ok [(20, [0, 2], [30, 0, 1, 1, 170, -1, 0, 0])] ta ws vs := hf
  obtain ⟨f0, hf⟩ := fc_un (show (20 : Nat) < 100 from by decide) hf
  have f0 : 1 * w_fi ws (n_v vs 0) 170 + ((-1) * v_iv (n_v vs 2) + 0) ≤ 0 := f0
  have kz_0_170 : 0 ≤ w_fi ws (n_v vs 0) 170 ∧ w_fi ws (n_v vs 0) 170 ≤ 100000000 := tv_rng (th_fd hD hth r0 (g := GG_150) rfl (k := 170) (t := (0, 0, 100000000, [])) rfl rfl)
  have nf0 : fc_1 (20, [0, 2, 3], [30, 0, 1, 1, 170, -1, 0, 0, -1, 0, 0]) ws (vs) := by
    refine ⟨fun n hn => ?_, ?_⟩
    · have hn : n ∈ [0, 2, 3] := hn
      rw [hl]
      simp only [List.mem_cons, List.not_mem_nil, or_false] at hn
      show n < 4; omega
    · show 1 * w_fi ws (n_v vs 0) 170 + ((-1) * v_iv (n_v vs 2) + ((-1) * v_iv (n_v vs 3) + 0)) ≤ 0
      omega
  have nf1 : fc_1 (24, [0, 0], []) ws (vs) := by
    refine ⟨fun n hn => ?_, ?_⟩
    · have hn : n ∈ [0, 0] := hn
      rw [hl]
      simp only [List.mem_cons, List.not_mem_nil, or_false] at hn
      show n < 4; omega
    · show n_v vs 0 = n_v vs 0
      first | rfl | simp only [true_and]
  refine ⟨(fun _ h => (by cases h)), [], trivial, ?_, (fun _ h => (by cases h))⟩
  rw [List.append_nil]
  exact List.forall_mem_cons.mpr ⟨⟨show (20 : Nat) < 100 from by decide, nf0⟩, List.forall_mem_cons.mpr ⟨⟨show (24 : Nat) < 100 from by decide, nf1⟩, (fun _ h => (by cases h))⟩⟩
def o_Mo_write_at_s5013_1 : or_T := (25, 7, [(0, (2, 0, 0, [150])), (2, (0, 0, 99999995, [])), (3, (2, 0, 0, [150])), (5, (0, 5, 5, [])), (6, (0, 5, 5, []))], [(7, [5, 6], [3]), (20, [3, 2, 5], [30, 0, 1, 1, 170, -1, 0, 0, -1, 0, 0]), (24, [0, 3], [])], [], [], [(20, [0, 2], [30, 5, 1, 1, 170, -1, 0, 0])], [], [])
theorem oo_Mo_write_at_s5013_1 {kA : Nat → ClassId} : or_ok kA GG o_Mo_write_at_s5013_1 := by
  intro A ta ws vs hD hth hl hk hds hf
  have hl : vs.length = 7 := hl
  have hk : ∀ q ∈ ([(0, (2, 0, 0, [150])), (2, (0, 0, 99999995, [])), (3, (2, 0, 0, [150])), (5, (0, 5, 5, [])), (6, (0, 5, 5, []))] : List (Nat × tv_T)), tv_ok ta q.2 (n_v vs q.1) := hk
  obtain ⟨t0, hk⟩ := List.forall_mem_cons.mp hk
  have t0 : tv_ok ta (2, 0, 0, [150]) (n_v vs 0) := t0
  have r0 : ta (v_ad (n_v vs 0)) = some 150 := tv_rg t0
  obtain ⟨t2, hk⟩ := List.forall_mem_cons.mp hk
  have t2 : tv_ok ta (0, 0, 99999995, []) (n_v vs 2) := t2
  have k2 : 0 ≤ v_iv (n_v vs 2) ∧ v_iv (n_v vs 2) ≤ 99999995 := tv_rng t2
  obtain ⟨t3, hk⟩ := List.forall_mem_cons.mp hk
  have t3 : tv_ok ta (2, 0, 0, [150]) (n_v vs 3) := t3
  have r3 : ta (v_ad (n_v vs 3)) = some 150 := tv_rg t3
  obtain ⟨t5, hk⟩ := List.forall_mem_cons.mp hk
  have t5 : tv_ok ta (0, 5, 5, []) (n_v vs 5) := t5
  have k5 : 5 ≤ v_iv (n_v vs 5) ∧ v_iv (n_v vs 5) ≤ 5 := tv_rng t5
  obtain ⟨t6, hk⟩ := List.forall_mem_cons.mp hk
  have t6 : tv_ok ta (0, 5, 5, []) (n_v vs 6) := t6
  have k6 : 5 ≤ v_iv (n_v vs 6) ∧ v_iv (n_v vs 6) ≤ 5 := tv_rng t6
  have hf : fc_ok [(7, [5, 6], [3]), (20, [3, 2, 5], [30, 0, 1, 1, 170, -1, 0, 0, -1, 0, 0]), (24, [0, 3], [])] ta ws vs := hf
  obtain ⟨f0, hf⟩ := fc_un (show (7 : Nat) < 100 from by decide) hf
  have f0 : v_iv (n_v vs 6) ≤ v_iv (n_v vs 5) := f0
  obtain ⟨f1, hf⟩ := fc_un (show (20 : Nat) < 100 from by decide) hf
  have f1 : 1 * w_fi ws (n_v vs 3) 170 + ((-1) * v_iv (n_v vs 2) + ((-1) * v_iv (n_v vs 5) + 0)) ≤ 0 := f1
  obtain ⟨f2, hf⟩ := fc_un (show (24 : Nat) < 100 from by decide) hf
  have f2 : n_v vs 0 = n_v vs 3 := f2
  have q3 : n_v vs 3 = n_v vs 0 := f2.symm
  rw [q3] at f1
  have kz_0_170 : 0 ≤ w_fi ws (n_v vs 0) 170 ∧ w_fi ws (n_v vs 0) 170 ≤ 100000000 := tv_rng (th_fd hD hth r0 (g := GG_150) rfl (k := 170) (t := (0, 0, 100000000, [])) rfl rfl)
  have nf0 : fc_1 (20, [0, 2], [30, 5, 1, 1, 170, -1, 0, 0]) ws (vs) := by
    refine ⟨fun n hn => ?_, ?_⟩
    · have hn : n ∈ [0, 2] := hn
      rw [hl]
      simp only [List.mem_cons, List.not_mem_nil, or_false] at hn
      show n < 7; omega
    · show 1 * w_fi ws (n_v vs 0) 170 + ((-1) * v_iv (n_v vs 2) + 0) ≤ 5
      omega
  refine ⟨(fun _ h => (by cases h)), [], trivial, ?_, (fun _ h => (by cases h))⟩
  rw [List.append_nil]
  exact List.forall_mem_cons.mpr ⟨⟨show (20 : Nat) < 100 from by decide, nf0⟩, (fun _ h => (by cases h))⟩
def o_Mo_write_at_s5013_2 : or_T := (16, 8, [(0, (2, 0, 0, [150])), (2, (0, 0, 99999995, [])), (3, (2, 0, 0, [150])), (5, (0, 0, 4, [])), (6, (0, 5, 5, []))], [(7, [5, 6], [2]), (20, [3, 2, 5], [30, 0, 1, 1, 170, -1, 0, 0, -1, 0, 0]), (24, [0, 3], [])], [], [(0, 0, 99999999, [])], [(20, [3, 8], [30, 0, 1, 1, 170, -1, 0, 0]), (23, [8, 2, 5], [0, 1, -1, -1])], [], [])
theorem oo_Mo_write_at_s5013_2 {kA : Nat → ClassId} : or_ok kA GG o_Mo_write_at_s5013_2 := by
  intro A ta ws vs hD hth hl hk hds hf
  have hl : vs.length = 8 := hl
  have hk : ∀ q ∈ ([(0, (2, 0, 0, [150])), (2, (0, 0, 99999995, [])), (3, (2, 0, 0, [150])), (5, (0, 0, 4, [])), (6, (0, 5, 5, []))] : List (Nat × tv_T)), tv_ok ta q.2 (n_v vs q.1) := hk
  obtain ⟨t0, hk⟩ := List.forall_mem_cons.mp hk
  have t0 : tv_ok ta (2, 0, 0, [150]) (n_v vs 0) := t0
  have r0 : ta (v_ad (n_v vs 0)) = some 150 := tv_rg t0
  obtain ⟨t2, hk⟩ := List.forall_mem_cons.mp hk
  have t2 : tv_ok ta (0, 0, 99999995, []) (n_v vs 2) := t2
  have k2 : 0 ≤ v_iv (n_v vs 2) ∧ v_iv (n_v vs 2) ≤ 99999995 := tv_rng t2
  obtain ⟨t3, hk⟩ := List.forall_mem_cons.mp hk
  have t3 : tv_ok ta (2, 0, 0, [150]) (n_v vs 3) := t3
  have r3 : ta (v_ad (n_v vs 3)) = some 150 := tv_rg t3
  obtain ⟨t5, hk⟩ := List.forall_mem_cons.mp hk
  have t5 : tv_ok ta (0, 0, 4, []) (n_v vs 5) := t5
  have k5 : 0 ≤ v_iv (n_v vs 5) ∧ v_iv (n_v vs 5) ≤ 4 := tv_rng t5
  obtain ⟨t6, hk⟩ := List.forall_mem_cons.mp hk
  have t6 : tv_ok ta (0, 5, 5, []) (n_v vs 6) := t6
  have k6 : 5 ≤ v_iv (n_v vs 6) ∧ v_iv (n_v vs 6) ≤ 5 := tv_rng t6
  have hf : fc_ok [(7, [5, 6], [2]), (20, [3, 2, 5], [30, 0, 1, 1, 170, -1, 0, 0, -1, 0, 0]), (24, [0, 3], [])] ta ws vs := hf
  obtain ⟨f0, hf⟩ := fc_un (show (7 : Nat) < 100 from by decide) hf
  have f0 : v_iv (n_v vs 5) < v_iv (n_v vs 6) := f0
  obtain ⟨f1, hf⟩ := fc_un (show (20 : Nat) < 100 from by decide) hf
  have f1 : 1 * w_fi ws (n_v vs 3) 170 + ((-1) * v_iv (n_v vs 2) + ((-1) * v_iv (n_v vs 5) + 0)) ≤ 0 := f1
  obtain ⟨f2, hf⟩ := fc_un (show (24 : Nat) < 100 from by decide) hf
  have f2 : n_v vs 0 = n_v vs 3 := f2
  have q3 : n_v vs 3 = n_v vs 0 := f2.symm
  rw [q3] at f1
  have kz_0_170 : 0 ≤ w_fi ws (n_v vs 0) 170 ∧ w_fi ws (n_v vs 0) 170 ≤ 100000000 := tv_rng (th_fd hD hth r0 (g := GG_150) rfl (k := 170) (t := (0, 0, 100000000, [])) rfl rfl)
  have kv0 : 0 ≤ w_fi ws (n_v vs 0) 170 ∧ w_fi ws (n_v vs 0) 170 ≤ 100000000 := tv_rng (th_fd hD hth r0 (g := GG_150) rfl (k := 170) (t := (0, 0, 100000000, [])) rfl rfl)
  obtain ⟨x, ex, hx⟩ := iv_ex (ta := ta) (lo := 0) (hi := 99999999) (z := w_fi ws (n_v vs 0) 170) (by omega) (by omega) (by omega) (by omega)
  have ex2 : v_iv (Value.int x) = w_fi ws (n_v vs 0) 170 := ex
  have ex3 : 0 ≤ v_iv (Value.int x) ∧ v_iv (Value.int x) ≤ 99999999 := tv_rng hx
  have e_2 : n_v (vs ++ [Value.int x]) 2 = n_v vs 2 := n_v_old (by rw [hl]; decide)
  have e_3 : n_v (vs ++ [Value.int x]) 3 = n_v vs 3 := n_v_old (by rw [hl]; decide)
  have e_5 : n_v (vs ++ [Value.int x]) 5 = n_v vs 5 := n_v_old (by rw [hl]; decide)
  have e_8 : n_v (vs ++ [Value.int x]) 8 = Value.int x := n_v_new hl
  have nf0 : fc_1 (20, [3, 8], [30, 0, 1, 1, 170, -1, 0, 0]) ws (vs ++ [Value.int x]) := by
    refine ⟨fun n hn => ?_, ?_⟩
    · have hn : n ∈ [3, 8] := hn
      rw [List.length_append, hl]
      simp only [List.mem_cons, List.not_mem_nil, or_false] at hn
      show n < 8 + 1; omega
    · show 1 * w_fi ws (n_v (vs ++ [Value.int x]) 3) 170 + ((-1) * v_iv (n_v (vs ++ [Value.int x]) 8) + 0) ≤ 0
      rw [e_3]
      rw [e_8]
      rw [q3]
      omega
  have nf1 : fc_1 (23, [8, 2, 5], [0, 1, -1, -1]) ws (vs ++ [Value.int x]) := by
    refine ⟨fun n hn => ?_, ?_⟩
    · have hn : n ∈ [8, 2, 5] := hn
      rw [List.length_append, hl]
      simp only [List.mem_cons, List.not_mem_nil, or_false] at hn
      show n < 8 + 1; omega
    · show 1 * v_iv (n_v (vs ++ [Value.int x]) 8) + ((-1) * v_iv (n_v (vs ++ [Value.int x]) 2) + ((-1) * v_iv (n_v (vs ++ [Value.int x]) 5) + 0)) ≤ 0
      rw [e_2]
      rw [e_5]
      rw [e_8]
      omega
  exact ⟨(fun _ h => (by cases h)), [Value.int x], ag_one hx, List.forall_mem_cons.mpr ⟨⟨show (20 : Nat) < 100 from by decide, nf0⟩, List.forall_mem_cons.mpr ⟨⟨show (23 : Nat) < 100 from by decide, nf1⟩, (fun _ h => (by cases h))⟩⟩, (fun _ h => (by cases h))⟩
def o_Mo_write_at_s5013_3 : or_T := (2, 10, [(0, (2, 0, 0, [150])), (2, (0, 0, 99999995, [])), (3, (2, 0, 0, [150])), (5, (0, 0, 4, [])), (6, (0, 5, 5, [])), (8, (0, 0, 99999999, [])), (9, (0, 1, 5, []))], [(6, [9, 5], [1]), (23, [8, 2, 5], [0, 1, -1, -1]), (24, [0, 3], []), (20, [3, 8], [30, 1, 1, 1, 170, -1, 0, 0]), (102, [8], [237142198758023568227473377297792835283496928595231875152809132048206089502588928, 13170]), (23, [8, 2, 5], [0, 1, -1, -1]), (7, [5, 6], [2])], [], [], [(20, [3, 2, 9], [30, 0, 1, 1, 170, -1, 0, 0, -1, 0, 0])], [], [(9, 5, 1, 1)])
theorem oo_Mo_write_at_s5013_3 {kA : Nat → ClassId} : or_ok kA GG o_Mo_write_at_s5013_3 := by
  intro A ta ws vs hD hth hl hk hds hf
  have hl : vs.length = 10 := hl
  have hk : ∀ q ∈ ([(0, (2, 0, 0, [150])), (2, (0, 0, 99999995, [])), (3, (2, 0, 0, [150])), (5, (0, 0, 4, [])), (6, (0, 5, 5, [])), (8, (0, 0, 99999999, [])), (9, (0, 1, 5, []))] : List (Nat × tv_T)), tv_ok ta q.2 (n_v vs q.1) := hk
  obtain ⟨t0, hk⟩ := List.forall_mem_cons.mp hk
  have t0 : tv_ok ta (2, 0, 0, [150]) (n_v vs 0) := t0
  have r0 : ta (v_ad (n_v vs 0)) = some 150 := tv_rg t0
  obtain ⟨t2, hk⟩ := List.forall_mem_cons.mp hk
  have t2 : tv_ok ta (0, 0, 99999995, []) (n_v vs 2) := t2
  have k2 : 0 ≤ v_iv (n_v vs 2) ∧ v_iv (n_v vs 2) ≤ 99999995 := tv_rng t2
  obtain ⟨t3, hk⟩ := List.forall_mem_cons.mp hk
  have t3 : tv_ok ta (2, 0, 0, [150]) (n_v vs 3) := t3
  have r3 : ta (v_ad (n_v vs 3)) = some 150 := tv_rg t3
  obtain ⟨t5, hk⟩ := List.forall_mem_cons.mp hk
  have t5 : tv_ok ta (0, 0, 4, []) (n_v vs 5) := t5
  have k5 : 0 ≤ v_iv (n_v vs 5) ∧ v_iv (n_v vs 5) ≤ 4 := tv_rng t5
  obtain ⟨t6, hk⟩ := List.forall_mem_cons.mp hk
  have t6 : tv_ok ta (0, 5, 5, []) (n_v vs 6) := t6
  have k6 : 5 ≤ v_iv (n_v vs 6) ∧ v_iv (n_v vs 6) ≤ 5 := tv_rng t6
  obtain ⟨t8, hk⟩ := List.forall_mem_cons.mp hk
  have t8 : tv_ok ta (0, 0, 99999999, []) (n_v vs 8) := t8
  have k8 : 0 ≤ v_iv (n_v vs 8) ∧ v_iv (n_v vs 8) ≤ 99999999 := tv_rng t8
  obtain ⟨t9, hk⟩ := List.forall_mem_cons.mp hk
  have t9 : tv_ok ta (0, 1, 5, []) (n_v vs 9) := t9
  have k9 : 1 ≤ v_iv (n_v vs 9) ∧ v_iv (n_v vs 9) ≤ 5 := tv_rng t9
  have hds : ∀ q ∈ ([(9, 5, 1, 1)] : List of_T), n_iv vs q.2.1 + q.2.2.1 ≤ n_iv vs q.1 ∧ n_iv vs q.1 ≤ n_iv vs q.2.1 + q.2.2.2 := hds
  obtain ⟨d0, hds⟩ := List.forall_mem_cons.mp hds
  have d0 : v_iv (n_v vs 5) + 1 ≤ v_iv (n_v vs 9) ∧ v_iv (n_v vs 9) ≤ v_iv (n_v vs 5) + 1 := d0
  have hf : fc_ok [(6, [9, 5], [1]), (23, [8, 2, 5], [0, 1, -1, -1]), (24, [0, 3], []), (20, [3, 8], [30, 1, 1, 1, 170, -1, 0, 0]), (102, [8], [237142198758023568227473377297792835283496928595231875152809132048206089502588928, 13170]), (23, [8, 2, 5], [0, 1, -1, -1]), (7, [5, 6], [2])] ta ws vs := hf
  obtain ⟨f0, hf⟩ := fc_un (show (6 : Nat) < 100 from by decide) hf
  have f0 : v_iv (n_v vs 9) = v_iv (n_v vs 5) + 1 := f0
  obtain ⟨f1, hf⟩ := fc_un (show (23 : Nat) < 100 from by decide) hf
  have f1 : 1 * v_iv (n_v vs 8) + ((-1) * v_iv (n_v vs 2) + ((-1) * v_iv (n_v vs 5) + 0)) ≤ 0 := f1
  obtain ⟨f2, hf⟩ := fc_un (show (24 : Nat) < 100 from by decide) hf
  have f2 : n_v vs 0 = n_v vs 3 := f2
  obtain ⟨f3, hf⟩ := fc_un (show (20 : Nat) < 100 from by decide) hf
  have f3 : 1 * w_fi ws (n_v vs 3) 170 + ((-1) * v_iv (n_v vs 8) + 0) ≤ 1 := f3
  obtain ⟨ta1, w1, le1, ⟨_, s1⟩, hf⟩ := fc_us (show ¬ (102 : Nat) < 100 from by decide) hf
  obtain ⟨f5, hf⟩ := fc_un (show (23 : Nat) < 100 from by decide) hf
  have f5 : 1 * v_iv (n_v vs 8) + ((-1) * v_iv (n_v vs 2) + ((-1) * v_iv (n_v vs 5) + 0)) ≤ 0 := f5
  obtain ⟨f6, hf⟩ := fc_un (show (7 : Nat) < 100 from by decide) hf
  have f6 : v_iv (n_v vs 5) < v_iv (n_v vs 6) := f6
  have q3 : n_v vs 3 = n_v vs 0 := f2.symm
  rw [q3] at f3
  have kz_0_170 : 0 ≤ w_fi ws (n_v vs 0) 170 ∧ w_fi ws (n_v vs 0) 170 ≤ 100000000 := tv_rng (th_fd hD hth r0 (g := GG_150) rfl (k := 170) (t := (0, 0, 100000000, [])) rfl rfl)
  have nf0 : fc_1 (20, [3, 2, 9], [30, 0, 1, 1, 170, -1, 0, 0, -1, 0, 0]) ws (vs) := by
    refine ⟨fun n hn => ?_, ?_⟩
    · have hn : n ∈ [3, 2, 9] := hn
      rw [hl]
      simp only [List.mem_cons, List.not_mem_nil, or_false] at hn
      show n < 10; omega
    · show 1 * w_fi ws (n_v vs 3) 170 + ((-1) * v_iv (n_v vs 2) + ((-1) * v_iv (n_v vs 9) + 0)) ≤ 0
      rw [q3]
      omega
  refine ⟨(fun _ h => (by cases h)), [], trivial, ?_, (fun _ h => (by cases h))⟩
  rw [List.append_nil]
  exact List.forall_mem_cons.mpr ⟨⟨show (20 : Nat) < 100 from by decide, nf0⟩, (fun _ h => (by cases h))⟩
def n_Mo_write_at_s5013_an : List an_T := [(2, [(0, (2, 0, 0, [150])), (1, (2, 0, 0, [5013])), (2, (0, 0, 5, []))], [], (0, 0), [(0, 0, 99998), (1, 5, 5), (0, 0, 100000)], [], [], [(2, 0, 0, [150]), (2, 0, 0, [5013]), (0, 0, 99999995, [])], 0, [], [(20, [3, 2, 5], [30, 0, 1, 1, 170, -1, 0, 0, -1, 0, 0]), (24, [0, 3], [])])]
def t_Mo_write_at_s5013_ct : ct_L := [(16, 448, e_jStr_length_v191), (43, 453, e_jStr_charAt_v192), (52, 1280, e_Mo_write1)]
set_option maxRecDepth 100000 in
theorem c_Mo_write_at_s5013 {l : Launch} {D : va_G} {kA : Nat → ClassId} (h_Mo_write1 : ct_ok l D kA GG y_Mo_write1 z_Mo_write1 e_Mo_write1) : ct_ok l D kA GG y_Mo_write_at_s5013 z_Mo_write_at_s5013 e_Mo_write_at_s5013 := chk_all_ok (FT := []) (PT := []) (CT := t_Mo_write_at_s5013_ct) (KT := []) (NT := []) (AN := n_Mo_write_at_s5013_an) (OT := [o_Mo_write_at_s5013_0, o_Mo_write_at_s5013_1, o_Mo_write_at_s5013_2, o_Mo_write_at_s5013_3]) 3 200 (List.forall_mem_cons.mpr ⟨oo_Mo_write_at_s5013_0, List.forall_mem_cons.mpr ⟨oo_Mo_write_at_s5013_1, List.forall_mem_cons.mpr ⟨oo_Mo_write_at_s5013_2, List.forall_mem_cons.mpr ⟨oo_Mo_write_at_s5013_3, List.forall_mem_nil _⟩⟩⟩⟩) (by decide +kernel) ⟨List.forall_mem_nil _, List.forall_mem_nil _, List.forall_mem_cons.mpr ⟨cl_string (y := y_jStr_length) (i := 13) rfl rfl (by decide +kernel) rfl c_jStr_length_v191 wm_674 wm_11 wm_3003 wm_672 wm_673 ⟨by decide, by decide, by decide +kernel⟩ (by decide), List.forall_mem_cons.mpr ⟨cl_string (y := y_jStr_charAt) (i := 13) rfl rfl (by decide +kernel) rfl c_jStr_charAt_v192 wm_684 wm_11 wm_3004 wm_682 wm_683 ⟨by decide, by decide, by decide +kernel⟩ (by decide), List.forall_mem_cons.mpr ⟨cl_virtual (y := y_Mo_write1) (ci := 13) rfl rfl ⟨_, _, rfl⟩ (by decide +kernel) h_Mo_write1 wm_3914 wm_9 wm_3911 wm_3913 wv_24_8 ⟨by decide, by decide, by decide +kernel⟩ (by decide), List.forall_mem_nil _⟩⟩⟩, List.forall_mem_nil _, List.forall_mem_nil _, GG_pl⟩ (by decide +kernel)
def o_Mo_write_at_s5014_0 : or_T := (2, 4, [(0, (2, 0, 0, [150])), (2, (0, 0, 99999993, [])), (3, (0, 0, 0, []))], [(20, [0, 2], [30, 0, 1, 1, 170, -1, 0, 0])], [], [], [(20, [0, 2, 3], [30, 0, 1, 1, 170, -1, 0, 0, -1, 0, 0]), (24, [0, 0], [])], [], [])
theorem oo_Mo_write_at_s5014_0 {kA : Nat → ClassId} : or_ok kA GG o_Mo_write_at_s5014_0 := by
  intro A ta ws vs hD hth hl hk hds hf
  have hl : vs.length = 4 := hl
  have hk : ∀ q ∈ ([(0, (2, 0, 0, [150])), (2, (0, 0, 99999993, [])), (3, (0, 0, 0, []))] : List (Nat × tv_T)), tv_ok ta q.2 (n_v vs q.1) := hk
  obtain ⟨t0, hk⟩ := List.forall_mem_cons.mp hk
  have t0 : tv_ok ta (2, 0, 0, [150]) (n_v vs 0) := t0
  have r0 : ta (v_ad (n_v vs 0)) = some 150 := tv_rg t0
  obtain ⟨t2, hk⟩ := List.forall_mem_cons.mp hk
  have t2 : tv_ok ta (0, 0, 99999993, []) (n_v vs 2) := t2
  have k2 : 0 ≤ v_iv (n_v vs 2) ∧ v_iv (n_v vs 2) ≤ 99999993 := tv_rng t2
  obtain ⟨t3, hk⟩ := List.forall_mem_cons.mp hk
  have t3 : tv_ok ta (0, 0, 0, []) (n_v vs 3) := t3
  have k3 : 0 ≤ v_iv (n_v vs 3) ∧ v_iv (n_v vs 3) ≤ 0 := tv_rng t3
  have hf : fc_ok [(20, [0, 2], [30, 0, 1, 1, 170, -1, 0, 0])] ta ws vs := hf
  obtain ⟨f0, hf⟩ := fc_un (show (20 : Nat) < 100 from by decide) hf
  have f0 : 1 * w_fi ws (n_v vs 0) 170 + ((-1) * v_iv (n_v vs 2) + 0) ≤ 0 := f0
  have kz_0_170 : 0 ≤ w_fi ws (n_v vs 0) 170 ∧ w_fi ws (n_v vs 0) 170 ≤ 100000000 := tv_rng (th_fd hD hth r0 (g := GG_150) rfl (k := 170) (t := (0, 0, 100000000, [])) rfl rfl)
  have nf0 : fc_1 (20, [0, 2, 3], [30, 0, 1, 1, 170, -1, 0, 0, -1, 0, 0]) ws (vs) := by
    refine ⟨fun n hn => ?_, ?_⟩
    · have hn : n ∈ [0, 2, 3] := hn
      rw [hl]
      simp only [List.mem_cons, List.not_mem_nil, or_false] at hn
      show n < 4; omega
    · show 1 * w_fi ws (n_v vs 0) 170 + ((-1) * v_iv (n_v vs 2) + ((-1) * v_iv (n_v vs 3) + 0)) ≤ 0
      omega
  have nf1 : fc_1 (24, [0, 0], []) ws (vs) := by
    refine ⟨fun n hn => ?_, ?_⟩
    · have hn : n ∈ [0, 0] := hn
      rw [hl]
      simp only [List.mem_cons, List.not_mem_nil, or_false] at hn
      show n < 4; omega
    · show n_v vs 0 = n_v vs 0
      first | rfl | simp only [true_and]
  refine ⟨(fun _ h => (by cases h)), [], trivial, ?_, (fun _ h => (by cases h))⟩
  rw [List.append_nil]
  exact List.forall_mem_cons.mpr ⟨⟨show (20 : Nat) < 100 from by decide, nf0⟩, List.forall_mem_cons.mpr ⟨⟨show (24 : Nat) < 100 from by decide, nf1⟩, (fun _ h => (by cases h))⟩⟩
def o_Mo_write_at_s5014_1 : or_T := (25, 7, [(0, (2, 0, 0, [150])), (2, (0, 0, 99999993, [])), (3, (2, 0, 0, [150])), (5, (0, 7, 7, [])), (6, (0, 7, 7, []))], [(7, [5, 6], [3]), (20, [3, 2, 5], [30, 0, 1, 1, 170, -1, 0, 0, -1, 0, 0]), (24, [0, 3], [])], [], [], [(20, [0, 2], [30, 7, 1, 1, 170, -1, 0, 0])], [], [])
theorem oo_Mo_write_at_s5014_1 {kA : Nat → ClassId} : or_ok kA GG o_Mo_write_at_s5014_1 := by
  intro A ta ws vs hD hth hl hk hds hf
  have hl : vs.length = 7 := hl
  have hk : ∀ q ∈ ([(0, (2, 0, 0, [150])), (2, (0, 0, 99999993, [])), (3, (2, 0, 0, [150])), (5, (0, 7, 7, [])), (6, (0, 7, 7, []))] : List (Nat × tv_T)), tv_ok ta q.2 (n_v vs q.1) := hk
  obtain ⟨t0, hk⟩ := List.forall_mem_cons.mp hk
  have t0 : tv_ok ta (2, 0, 0, [150]) (n_v vs 0) := t0
  have r0 : ta (v_ad (n_v vs 0)) = some 150 := tv_rg t0
  obtain ⟨t2, hk⟩ := List.forall_mem_cons.mp hk
  have t2 : tv_ok ta (0, 0, 99999993, []) (n_v vs 2) := t2
  have k2 : 0 ≤ v_iv (n_v vs 2) ∧ v_iv (n_v vs 2) ≤ 99999993 := tv_rng t2
  obtain ⟨t3, hk⟩ := List.forall_mem_cons.mp hk
  have t3 : tv_ok ta (2, 0, 0, [150]) (n_v vs 3) := t3
  have r3 : ta (v_ad (n_v vs 3)) = some 150 := tv_rg t3
  obtain ⟨t5, hk⟩ := List.forall_mem_cons.mp hk
  have t5 : tv_ok ta (0, 7, 7, []) (n_v vs 5) := t5
  have k5 : 7 ≤ v_iv (n_v vs 5) ∧ v_iv (n_v vs 5) ≤ 7 := tv_rng t5
  obtain ⟨t6, hk⟩ := List.forall_mem_cons.mp hk
  have t6 : tv_ok ta (0, 7, 7, []) (n_v vs 6) := t6
  have k6 : 7 ≤ v_iv (n_v vs 6) ∧ v_iv (n_v vs 6) ≤ 7 := tv_rng t6
  have hf : fc_ok [(7, [5, 6], [3]), (20, [3, 2, 5], [30, 0, 1, 1, 170, -1, 0, 0, -1, 0, 0]), (24, [0, 3], [])] ta ws vs := hf
  obtain ⟨f0, hf⟩ := fc_un (show (7 : Nat) < 100 from by decide) hf
  have f0 : v_iv (n_v vs 6) ≤ v_iv (n_v vs 5) := f0
  obtain ⟨f1, hf⟩ := fc_un (show (20 : Nat) < 100 from by decide) hf
  have f1 : 1 * w_fi ws (n_v vs 3) 170 + ((-1) * v_iv (n_v vs 2) + ((-1) * v_iv (n_v vs 5) + 0)) ≤ 0 := f1
  obtain ⟨f2, hf⟩ := fc_un (show (24 : Nat) < 100 from by decide) hf
  have f2 : n_v vs 0 = n_v vs 3 := f2
  have q3 : n_v vs 3 = n_v vs 0 := f2.symm
  rw [q3] at f1
  have kz_0_170 : 0 ≤ w_fi ws (n_v vs 0) 170 ∧ w_fi ws (n_v vs 0) 170 ≤ 100000000 := tv_rng (th_fd hD hth r0 (g := GG_150) rfl (k := 170) (t := (0, 0, 100000000, [])) rfl rfl)
  have nf0 : fc_1 (20, [0, 2], [30, 7, 1, 1, 170, -1, 0, 0]) ws (vs) := by
    refine ⟨fun n hn => ?_, ?_⟩
    · have hn : n ∈ [0, 2] := hn
      rw [hl]
      simp only [List.mem_cons, List.not_mem_nil, or_false] at hn
      show n < 7; omega
    · show 1 * w_fi ws (n_v vs 0) 170 + ((-1) * v_iv (n_v vs 2) + 0) ≤ 7
      omega
  refine ⟨(fun _ h => (by cases h)), [], trivial, ?_, (fun _ h => (by cases h))⟩
  rw [List.append_nil]
  exact List.forall_mem_cons.mpr ⟨⟨show (20 : Nat) < 100 from by decide, nf0⟩, (fun _ h => (by cases h))⟩
def o_Mo_write_at_s5014_2 : or_T := (16, 8, [(0, (2, 0, 0, [150])), (2, (0, 0, 99999993, [])), (3, (2, 0, 0, [150])), (5, (0, 0, 6, [])), (6, (0, 7, 7, []))], [(7, [5, 6], [2]), (20, [3, 2, 5], [30, 0, 1, 1, 170, -1, 0, 0, -1, 0, 0]), (24, [0, 3], [])], [], [(0, 0, 99999999, [])], [(20, [3, 8], [30, 0, 1, 1, 170, -1, 0, 0]), (23, [8, 2, 5], [0, 1, -1, -1])], [], [])
theorem oo_Mo_write_at_s5014_2 {kA : Nat → ClassId} : or_ok kA GG o_Mo_write_at_s5014_2 := by
  intro A ta ws vs hD hth hl hk hds hf
  have hl : vs.length = 8 := hl
  have hk : ∀ q ∈ ([(0, (2, 0, 0, [150])), (2, (0, 0, 99999993, [])), (3, (2, 0, 0, [150])), (5, (0, 0, 6, [])), (6, (0, 7, 7, []))] : List (Nat × tv_T)), tv_ok ta q.2 (n_v vs q.1) := hk
  obtain ⟨t0, hk⟩ := List.forall_mem_cons.mp hk
  have t0 : tv_ok ta (2, 0, 0, [150]) (n_v vs 0) := t0
  have r0 : ta (v_ad (n_v vs 0)) = some 150 := tv_rg t0
  obtain ⟨t2, hk⟩ := List.forall_mem_cons.mp hk
  have t2 : tv_ok ta (0, 0, 99999993, []) (n_v vs 2) := t2
  have k2 : 0 ≤ v_iv (n_v vs 2) ∧ v_iv (n_v vs 2) ≤ 99999993 := tv_rng t2
  obtain ⟨t3, hk⟩ := List.forall_mem_cons.mp hk
  have t3 : tv_ok ta (2, 0, 0, [150]) (n_v vs 3) := t3
  have r3 : ta (v_ad (n_v vs 3)) = some 150 := tv_rg t3
  obtain ⟨t5, hk⟩ := List.forall_mem_cons.mp hk
  have t5 : tv_ok ta (0, 0, 6, []) (n_v vs 5) := t5
  have k5 : 0 ≤ v_iv (n_v vs 5) ∧ v_iv (n_v vs 5) ≤ 6 := tv_rng t5
  obtain ⟨t6, hk⟩ := List.forall_mem_cons.mp hk
  have t6 : tv_ok ta (0, 7, 7, []) (n_v vs 6) := t6
  have k6 : 7 ≤ v_iv (n_v vs 6) ∧ v_iv (n_v vs 6) ≤ 7 := tv_rng t6
  have hf : fc_ok [(7, [5, 6], [2]), (20, [3, 2, 5], [30, 0, 1, 1, 170, -1, 0, 0, -1, 0, 0]), (24, [0, 3], [])] ta ws vs := hf
  obtain ⟨f0, hf⟩ := fc_un (show (7 : Nat) < 100 from by decide) hf
  have f0 : v_iv (n_v vs 5) < v_iv (n_v vs 6) := f0
  obtain ⟨f1, hf⟩ := fc_un (show (20 : Nat) < 100 from by decide) hf
  have f1 : 1 * w_fi ws (n_v vs 3) 170 + ((-1) * v_iv (n_v vs 2) + ((-1) * v_iv (n_v vs 5) + 0)) ≤ 0 := f1
  obtain ⟨f2, hf⟩ := fc_un (show (24 : Nat) < 100 from by decide) hf
  have f2 : n_v vs 0 = n_v vs 3 := f2
  have q3 : n_v vs 3 = n_v vs 0 := f2.symm
  rw [q3] at f1
  have kz_0_170 : 0 ≤ w_fi ws (n_v vs 0) 170 ∧ w_fi ws (n_v vs 0) 170 ≤ 100000000 := tv_rng (th_fd hD hth r0 (g := GG_150) rfl (k := 170) (t := (0, 0, 100000000, [])) rfl rfl)
  have kv0 : 0 ≤ w_fi ws (n_v vs 0) 170 ∧ w_fi ws (n_v vs 0) 170 ≤ 100000000 := tv_rng (th_fd hD hth r0 (g := GG_150) rfl (k := 170) (t := (0, 0, 100000000, [])) rfl rfl)
  obtain ⟨x, ex, hx⟩ := iv_ex (ta := ta) (lo := 0) (hi := 99999999) (z := w_fi ws (n_v vs 0) 170) (by omega) (by omega) (by omega) (by omega)
  have ex2 : v_iv (Value.int x) = w_fi ws (n_v vs 0) 170 := ex
  have ex3 : 0 ≤ v_iv (Value.int x) ∧ v_iv (Value.int x) ≤ 99999999 := tv_rng hx
  have e_2 : n_v (vs ++ [Value.int x]) 2 = n_v vs 2 := n_v_old (by rw [hl]; decide)
  have e_3 : n_v (vs ++ [Value.int x]) 3 = n_v vs 3 := n_v_old (by rw [hl]; decide)
  have e_5 : n_v (vs ++ [Value.int x]) 5 = n_v vs 5 := n_v_old (by rw [hl]; decide)
  have e_8 : n_v (vs ++ [Value.int x]) 8 = Value.int x := n_v_new hl
  have nf0 : fc_1 (20, [3, 8], [30, 0, 1, 1, 170, -1, 0, 0]) ws (vs ++ [Value.int x]) := by
    refine ⟨fun n hn => ?_, ?_⟩
    · have hn : n ∈ [3, 8] := hn
      rw [List.length_append, hl]
      simp only [List.mem_cons, List.not_mem_nil, or_false] at hn
      show n < 8 + 1; omega
    · show 1 * w_fi ws (n_v (vs ++ [Value.int x]) 3) 170 + ((-1) * v_iv (n_v (vs ++ [Value.int x]) 8) + 0) ≤ 0
      rw [e_3]
      rw [e_8]
      rw [q3]
      omega
  have nf1 : fc_1 (23, [8, 2, 5], [0, 1, -1, -1]) ws (vs ++ [Value.int x]) := by
    refine ⟨fun n hn => ?_, ?_⟩
    · have hn : n ∈ [8, 2, 5] := hn
      rw [List.length_append, hl]
      simp only [List.mem_cons, List.not_mem_nil, or_false] at hn
      show n < 8 + 1; omega
    · show 1 * v_iv (n_v (vs ++ [Value.int x]) 8) + ((-1) * v_iv (n_v (vs ++ [Value.int x]) 2) + ((-1) * v_iv (n_v (vs ++ [Value.int x]) 5) + 0)) ≤ 0
      rw [e_2]
      rw [e_5]
      rw [e_8]
      omega
  exact ⟨(fun _ h => (by cases h)), [Value.int x], ag_one hx, List.forall_mem_cons.mpr ⟨⟨show (20 : Nat) < 100 from by decide, nf0⟩, List.forall_mem_cons.mpr ⟨⟨show (23 : Nat) < 100 from by decide, nf1⟩, (fun _ h => (by cases h))⟩⟩, (fun _ h => (by cases h))⟩
def o_Mo_write_at_s5014_3 : or_T := (2, 10, [(0, (2, 0, 0, [150])), (2, (0, 0, 99999993, [])), (3, (2, 0, 0, [150])), (5, (0, 0, 6, [])), (6, (0, 7, 7, [])), (8, (0, 0, 99999999, [])), (9, (0, 1, 7, []))], [(6, [9, 5], [1]), (23, [8, 2, 5], [0, 1, -1, -1]), (24, [0, 3], []), (20, [3, 8], [30, 1, 1, 1, 170, -1, 0, 0]), (102, [8], [237142198758023568227473377297792835283496928595231875152809132048206089502588928, 13170]), (23, [8, 2, 5], [0, 1, -1, -1]), (7, [5, 6], [2])], [], [], [(20, [3, 2, 9], [30, 0, 1, 1, 170, -1, 0, 0, -1, 0, 0])], [], [(9, 5, 1, 1)])
theorem oo_Mo_write_at_s5014_3 {kA : Nat → ClassId} : or_ok kA GG o_Mo_write_at_s5014_3 := by
  intro A ta ws vs hD hth hl hk hds hf
  have hl : vs.length = 10 := hl
  have hk : ∀ q ∈ ([(0, (2, 0, 0, [150])), (2, (0, 0, 99999993, [])), (3, (2, 0, 0, [150])), (5, (0, 0, 6, [])), (6, (0, 7, 7, [])), (8, (0, 0, 99999999, [])), (9, (0, 1, 7, []))] : List (Nat × tv_T)), tv_ok ta q.2 (n_v vs q.1) := hk
  obtain ⟨t0, hk⟩ := List.forall_mem_cons.mp hk
  have t0 : tv_ok ta (2, 0, 0, [150]) (n_v vs 0) := t0
  have r0 : ta (v_ad (n_v vs 0)) = some 150 := tv_rg t0
  obtain ⟨t2, hk⟩ := List.forall_mem_cons.mp hk
  have t2 : tv_ok ta (0, 0, 99999993, []) (n_v vs 2) := t2
  have k2 : 0 ≤ v_iv (n_v vs 2) ∧ v_iv (n_v vs 2) ≤ 99999993 := tv_rng t2
  obtain ⟨t3, hk⟩ := List.forall_mem_cons.mp hk
  have t3 : tv_ok ta (2, 0, 0, [150]) (n_v vs 3) := t3
  have r3 : ta (v_ad (n_v vs 3)) = some 150 := tv_rg t3
  obtain ⟨t5, hk⟩ := List.forall_mem_cons.mp hk
  have t5 : tv_ok ta (0, 0, 6, []) (n_v vs 5) := t5
  have k5 : 0 ≤ v_iv (n_v vs 5) ∧ v_iv (n_v vs 5) ≤ 6 := tv_rng t5
  obtain ⟨t6, hk⟩ := List.forall_mem_cons.mp hk
  have t6 : tv_ok ta (0, 7, 7, []) (n_v vs 6) := t6
  have k6 : 7 ≤ v_iv (n_v vs 6) ∧ v_iv (n_v vs 6) ≤ 7 := tv_rng t6
  obtain ⟨t8, hk⟩ := List.forall_mem_cons.mp hk
  have t8 : tv_ok ta (0, 0, 99999999, []) (n_v vs 8) := t8
  have k8 : 0 ≤ v_iv (n_v vs 8) ∧ v_iv (n_v vs 8) ≤ 99999999 := tv_rng t8
  obtain ⟨t9, hk⟩ := List.forall_mem_cons.mp hk
  have t9 : tv_ok ta (0, 1, 7, []) (n_v vs 9) := t9
  have k9 : 1 ≤ v_iv (n_v vs 9) ∧ v_iv (n_v vs 9) ≤ 7 := tv_rng t9
  have hds : ∀ q ∈ ([(9, 5, 1, 1)] : List of_T), n_iv vs q.2.1 + q.2.2.1 ≤ n_iv vs q.1 ∧ n_iv vs q.1 ≤ n_iv vs q.2.1 + q.2.2.2 := hds
  obtain ⟨d0, hds⟩ := List.forall_mem_cons.mp hds
  have d0 : v_iv (n_v vs 5) + 1 ≤ v_iv (n_v vs 9) ∧ v_iv (n_v vs 9) ≤ v_iv (n_v vs 5) + 1 := d0
  have hf : fc_ok [(6, [9, 5], [1]), (23, [8, 2, 5], [0, 1, -1, -1]), (24, [0, 3], []), (20, [3, 8], [30, 1, 1, 1, 170, -1, 0, 0]), (102, [8], [237142198758023568227473377297792835283496928595231875152809132048206089502588928, 13170]), (23, [8, 2, 5], [0, 1, -1, -1]), (7, [5, 6], [2])] ta ws vs := hf
  obtain ⟨f0, hf⟩ := fc_un (show (6 : Nat) < 100 from by decide) hf
  have f0 : v_iv (n_v vs 9) = v_iv (n_v vs 5) + 1 := f0
  obtain ⟨f1, hf⟩ := fc_un (show (23 : Nat) < 100 from by decide) hf
  have f1 : 1 * v_iv (n_v vs 8) + ((-1) * v_iv (n_v vs 2) + ((-1) * v_iv (n_v vs 5) + 0)) ≤ 0 := f1
  obtain ⟨f2, hf⟩ := fc_un (show (24 : Nat) < 100 from by decide) hf
  have f2 : n_v vs 0 = n_v vs 3 := f2
  obtain ⟨f3, hf⟩ := fc_un (show (20 : Nat) < 100 from by decide) hf
  have f3 : 1 * w_fi ws (n_v vs 3) 170 + ((-1) * v_iv (n_v vs 8) + 0) ≤ 1 := f3
  obtain ⟨ta1, w1, le1, ⟨_, s1⟩, hf⟩ := fc_us (show ¬ (102 : Nat) < 100 from by decide) hf
  obtain ⟨f5, hf⟩ := fc_un (show (23 : Nat) < 100 from by decide) hf
  have f5 : 1 * v_iv (n_v vs 8) + ((-1) * v_iv (n_v vs 2) + ((-1) * v_iv (n_v vs 5) + 0)) ≤ 0 := f5
  obtain ⟨f6, hf⟩ := fc_un (show (7 : Nat) < 100 from by decide) hf
  have f6 : v_iv (n_v vs 5) < v_iv (n_v vs 6) := f6
  have q3 : n_v vs 3 = n_v vs 0 := f2.symm
  rw [q3] at f3
  have kz_0_170 : 0 ≤ w_fi ws (n_v vs 0) 170 ∧ w_fi ws (n_v vs 0) 170 ≤ 100000000 := tv_rng (th_fd hD hth r0 (g := GG_150) rfl (k := 170) (t := (0, 0, 100000000, [])) rfl rfl)
  have nf0 : fc_1 (20, [3, 2, 9], [30, 0, 1, 1, 170, -1, 0, 0, -1, 0, 0]) ws (vs) := by
    refine ⟨fun n hn => ?_, ?_⟩
    · have hn : n ∈ [3, 2, 9] := hn
      rw [hl]
      simp only [List.mem_cons, List.not_mem_nil, or_false] at hn
      show n < 10; omega
    · show 1 * w_fi ws (n_v vs 3) 170 + ((-1) * v_iv (n_v vs 2) + ((-1) * v_iv (n_v vs 9) + 0)) ≤ 0
      rw [q3]
      omega
  refine ⟨(fun _ h => (by cases h)), [], trivial, ?_, (fun _ h => (by cases h))⟩
  rw [List.append_nil]
  exact List.forall_mem_cons.mpr ⟨⟨show (20 : Nat) < 100 from by decide, nf0⟩, (fun _ h => (by cases h))⟩
def n_Mo_write_at_s5014_an : List an_T := [(2, [(0, (2, 0, 0, [150])), (1, (2, 0, 0, [5014])), (2, (0, 0, 7, []))], [], (0, 0), [(0, 0, 99998), (1, 5, 7), (0, 0, 100000)], [], [], [(2, 0, 0, [150]), (2, 0, 0, [5014]), (0, 0, 99999993, [])], 0, [], [(20, [3, 2, 5], [30, 0, 1, 1, 170, -1, 0, 0, -1, 0, 0]), (24, [0, 3], [])])]
def t_Mo_write_at_s5014_ct : ct_L := [(16, 448, e_jStr_length_v194), (43, 453, e_jStr_charAt_v195), (52, 1280, e_Mo_write1)]
set_option maxRecDepth 100000 in
theorem c_Mo_write_at_s5014 {l : Launch} {D : va_G} {kA : Nat → ClassId} (h_Mo_write1 : ct_ok l D kA GG y_Mo_write1 z_Mo_write1 e_Mo_write1) : ct_ok l D kA GG y_Mo_write_at_s5014 z_Mo_write_at_s5014 e_Mo_write_at_s5014 := chk_all_ok (FT := []) (PT := []) (CT := t_Mo_write_at_s5014_ct) (KT := []) (NT := []) (AN := n_Mo_write_at_s5014_an) (OT := [o_Mo_write_at_s5014_0, o_Mo_write_at_s5014_1, o_Mo_write_at_s5014_2, o_Mo_write_at_s5014_3]) 3 200 (List.forall_mem_cons.mpr ⟨oo_Mo_write_at_s5014_0, List.forall_mem_cons.mpr ⟨oo_Mo_write_at_s5014_1, List.forall_mem_cons.mpr ⟨oo_Mo_write_at_s5014_2, List.forall_mem_cons.mpr ⟨oo_Mo_write_at_s5014_3, List.forall_mem_nil _⟩⟩⟩⟩) (by decide +kernel) ⟨List.forall_mem_nil _, List.forall_mem_nil _, List.forall_mem_cons.mpr ⟨cl_string (y := y_jStr_length) (i := 14) rfl rfl (by decide +kernel) rfl c_jStr_length_v194 wm_674 wm_11 wm_3003 wm_672 wm_673 ⟨by decide, by decide, by decide +kernel⟩ (by decide), List.forall_mem_cons.mpr ⟨cl_string (y := y_jStr_charAt) (i := 14) rfl rfl (by decide +kernel) rfl c_jStr_charAt_v195 wm_684 wm_11 wm_3004 wm_682 wm_683 ⟨by decide, by decide, by decide +kernel⟩ (by decide), List.forall_mem_cons.mpr ⟨cl_virtual (y := y_Mo_write1) (ci := 13) rfl rfl ⟨_, _, rfl⟩ (by decide +kernel) h_Mo_write1 wm_3914 wm_9 wm_3911 wm_3913 wv_24_8 ⟨by decide, by decide, by decide +kernel⟩ (by decide), List.forall_mem_nil _⟩⟩⟩, List.forall_mem_nil _, List.forall_mem_nil _, GG_pl⟩ (by decide +kernel)
def o_Mo_write_at_s5015_0 : or_T := (2, 4, [(0, (2, 0, 0, [150])), (2, (0, 0, 99999998, [])), (3, (0, 0, 0, []))], [(20, [0, 2], [30, 0, 1, 1, 170, -1, 0, 0])], [], [], [(20, [0, 2, 3], [30, 0, 1, 1, 170, -1, 0, 0, -1, 0, 0]), (24, [0, 0], [])], [], [])
theorem oo_Mo_write_at_s5015_0 {kA : Nat → ClassId} : or_ok kA GG o_Mo_write_at_s5015_0 := by
  intro A ta ws vs hD hth hl hk hds hf
  have hl : vs.length = 4 := hl
  have hk : ∀ q ∈ ([(0, (2, 0, 0, [150])), (2, (0, 0, 99999998, [])), (3, (0, 0, 0, []))] : List (Nat × tv_T)), tv_ok ta q.2 (n_v vs q.1) := hk
  obtain ⟨t0, hk⟩ := List.forall_mem_cons.mp hk
  have t0 : tv_ok ta (2, 0, 0, [150]) (n_v vs 0) := t0
  have r0 : ta (v_ad (n_v vs 0)) = some 150 := tv_rg t0
  obtain ⟨t2, hk⟩ := List.forall_mem_cons.mp hk
  have t2 : tv_ok ta (0, 0, 99999998, []) (n_v vs 2) := t2
  have k2 : 0 ≤ v_iv (n_v vs 2) ∧ v_iv (n_v vs 2) ≤ 99999998 := tv_rng t2
  obtain ⟨t3, hk⟩ := List.forall_mem_cons.mp hk
  have t3 : tv_ok ta (0, 0, 0, []) (n_v vs 3) := t3
  have k3 : 0 ≤ v_iv (n_v vs 3) ∧ v_iv (n_v vs 3) ≤ 0 := tv_rng t3
  have hf : fc_ok [(20, [0, 2], [30, 0, 1, 1, 170, -1, 0, 0])] ta ws vs := hf
  obtain ⟨f0, hf⟩ := fc_un (show (20 : Nat) < 100 from by decide) hf
  have f0 : 1 * w_fi ws (n_v vs 0) 170 + ((-1) * v_iv (n_v vs 2) + 0) ≤ 0 := f0
  have kz_0_170 : 0 ≤ w_fi ws (n_v vs 0) 170 ∧ w_fi ws (n_v vs 0) 170 ≤ 100000000 := tv_rng (th_fd hD hth r0 (g := GG_150) rfl (k := 170) (t := (0, 0, 100000000, [])) rfl rfl)
  have nf0 : fc_1 (20, [0, 2, 3], [30, 0, 1, 1, 170, -1, 0, 0, -1, 0, 0]) ws (vs) := by
    refine ⟨fun n hn => ?_, ?_⟩
    · have hn : n ∈ [0, 2, 3] := hn
      rw [hl]
      simp only [List.mem_cons, List.not_mem_nil, or_false] at hn
      show n < 4; omega
    · show 1 * w_fi ws (n_v vs 0) 170 + ((-1) * v_iv (n_v vs 2) + ((-1) * v_iv (n_v vs 3) + 0)) ≤ 0
      omega
  have nf1 : fc_1 (24, [0, 0], []) ws (vs) := by
    refine ⟨fun n hn => ?_, ?_⟩
    · have hn : n ∈ [0, 0] := hn
      rw [hl]
      simp only [List.mem_cons, List.not_mem_nil, or_false] at hn
      show n < 4; omega
    · show n_v vs 0 = n_v vs 0
      first | rfl | simp only [true_and]
  refine ⟨(fun _ h => (by cases h)), [], trivial, ?_, (fun _ h => (by cases h))⟩
  rw [List.append_nil]
  exact List.forall_mem_cons.mpr ⟨⟨show (20 : Nat) < 100 from by decide, nf0⟩, List.forall_mem_cons.mpr ⟨⟨show (24 : Nat) < 100 from by decide, nf1⟩, (fun _ h => (by cases h))⟩⟩
def o_Mo_write_at_s5015_1 : or_T := (25, 7, [(0, (2, 0, 0, [150])), (2, (0, 0, 99999998, [])), (3, (2, 0, 0, [150])), (5, (0, 2, 2, [])), (6, (0, 2, 2, []))], [(7, [5, 6], [3]), (20, [3, 2, 5], [30, 0, 1, 1, 170, -1, 0, 0, -1, 0, 0]), (24, [0, 3], [])], [], [], [(20, [0, 2], [30, 2, 1, 1, 170, -1, 0, 0])], [], [(5, 2, -4294967296, 2)])
theorem oo_Mo_write_at_s5015_1 {kA : Nat → ClassId} : or_ok kA GG o_Mo_write_at_s5015_1 := by
  intro A ta ws vs hD hth hl hk hds hf
  have hl : vs.length = 7 := hl
  have hk : ∀ q ∈ ([(0, (2, 0, 0, [150])), (2, (0, 0, 99999998, [])), (3, (2, 0, 0, [150])), (5, (0, 2, 2, [])), (6, (0, 2, 2, []))] : List (Nat × tv_T)), tv_ok ta q.2 (n_v vs q.1) := hk
  obtain ⟨t0, hk⟩ := List.forall_mem_cons.mp hk
  have t0 : tv_ok ta (2, 0, 0, [150]) (n_v vs 0) := t0
  have r0 : ta (v_ad (n_v vs 0)) = some 150 := tv_rg t0
  obtain ⟨t2, hk⟩ := List.forall_mem_cons.mp hk
  have t2 : tv_ok ta (0, 0, 99999998, []) (n_v vs 2) := t2
  have k2 : 0 ≤ v_iv (n_v vs 2) ∧ v_iv (n_v vs 2) ≤ 99999998 := tv_rng t2
  obtain ⟨t3, hk⟩ := List.forall_mem_cons.mp hk
  have t3 : tv_ok ta (2, 0, 0, [150]) (n_v vs 3) := t3
  have r3 : ta (v_ad (n_v vs 3)) = some 150 := tv_rg t3
  obtain ⟨t5, hk⟩ := List.forall_mem_cons.mp hk
  have t5 : tv_ok ta (0, 2, 2, []) (n_v vs 5) := t5
  have k5 : 2 ≤ v_iv (n_v vs 5) ∧ v_iv (n_v vs 5) ≤ 2 := tv_rng t5
  obtain ⟨t6, hk⟩ := List.forall_mem_cons.mp hk
  have t6 : tv_ok ta (0, 2, 2, []) (n_v vs 6) := t6
  have k6 : 2 ≤ v_iv (n_v vs 6) ∧ v_iv (n_v vs 6) ≤ 2 := tv_rng t6
  have hds : ∀ q ∈ ([(5, 2, -4294967296, 2)] : List of_T), n_iv vs q.2.1 + q.2.2.1 ≤ n_iv vs q.1 ∧ n_iv vs q.1 ≤ n_iv vs q.2.1 + q.2.2.2 := hds
  obtain ⟨d0, hds⟩ := List.forall_mem_cons.mp hds
  have d0 : v_iv (n_v vs 2) + (-4294967296) ≤ v_iv (n_v vs 5) ∧ v_iv (n_v vs 5) ≤ v_iv (n_v vs 2) + 2 := d0
  have hf : fc_ok [(7, [5, 6], [3]), (20, [3, 2, 5], [30, 0, 1, 1, 170, -1, 0, 0, -1, 0, 0]), (24, [0, 3], [])] ta ws vs := hf
  obtain ⟨f0, hf⟩ := fc_un (show (7 : Nat) < 100 from by decide) hf
  have f0 : v_iv (n_v vs 6) ≤ v_iv (n_v vs 5) := f0
  obtain ⟨f1, hf⟩ := fc_un (show (20 : Nat) < 100 from by decide) hf
  have f1 : 1 * w_fi ws (n_v vs 3) 170 + ((-1) * v_iv (n_v vs 2) + ((-1) * v_iv (n_v vs 5) + 0)) ≤ 0 := f1
  obtain ⟨f2, hf⟩ := fc_un (show (24 : Nat) < 100 from by decide) hf
  have f2 : n_v vs 0 = n_v vs 3 := f2
  have q3 : n_v vs 3 = n_v vs 0 := f2.symm
  rw [q3] at f1
  have kz_0_170 : 0 ≤ w_fi ws (n_v vs 0) 170 ∧ w_fi ws (n_v vs 0) 170 ≤ 100000000 := tv_rng (th_fd hD hth r0 (g := GG_150) rfl (k := 170) (t := (0, 0, 100000000, [])) rfl rfl)
  have nf0 : fc_1 (20, [0, 2], [30, 2, 1, 1, 170, -1, 0, 0]) ws (vs) := by
    refine ⟨fun n hn => ?_, ?_⟩
    · have hn : n ∈ [0, 2] := hn
      rw [hl]
      simp only [List.mem_cons, List.not_mem_nil, or_false] at hn
      show n < 7; omega
    · show 1 * w_fi ws (n_v vs 0) 170 + ((-1) * v_iv (n_v vs 2) + 0) ≤ 2
      omega
  refine ⟨(fun _ h => (by cases h)), [], trivial, ?_, (fun _ h => (by cases h))⟩
  rw [List.append_nil]
  exact List.forall_mem_cons.mpr ⟨⟨show (20 : Nat) < 100 from by decide, nf0⟩, (fun _ h => (by cases h))⟩
def o_Mo_write_at_s5015_2 : or_T := (16, 8, [(0, (2, 0, 0, [150])), (2, (0, 0, 99999998, [])), (3, (2, 0, 0, [150])), (5, (0, 0, 1, [])), (6, (0, 2, 2, []))], [(7, [5, 6], [2]), (20, [3, 2, 5], [30, 0, 1, 1, 170, -1, 0, 0, -1, 0, 0]), (24, [0, 3], [])], [], [(0, 0, 99999999, [])], [(20, [3, 8], [30, 0, 1, 1, 170, -1, 0, 0]), (23, [8, 2, 5], [0, 1, -1, -1])], [], [(5, 2, -4294967296, 2)])
theorem oo_Mo_write_at_s5015_2 {kA : Nat → ClassId} : or_ok kA GG o_Mo_write_at_s5015_2 := by
  intro A ta ws vs hD hth hl hk hds hf
  have hl : vs.length = 8 := hl
  have hk : ∀ q ∈ ([(0, (2, 0, 0, [150])), (2, (0, 0, 99999998, [])), (3, (2, 0, 0, [150])), (5, (0, 0, 1, [])), (6, (0, 2, 2, []))] : List (Nat × tv_T)), tv_ok ta q.2 (n_v vs q.1) := hk
  obtain ⟨t0, hk⟩ := List.forall_mem_cons.mp hk
  have t0 : tv_ok ta (2, 0, 0, [150]) (n_v vs 0) := t0
  have r0 : ta (v_ad (n_v vs 0)) = some 150 := tv_rg t0
  obtain ⟨t2, hk⟩ := List.forall_mem_cons.mp hk
  have t2 : tv_ok ta (0, 0, 99999998, []) (n_v vs 2) := t2
  have k2 : 0 ≤ v_iv (n_v vs 2) ∧ v_iv (n_v vs 2) ≤ 99999998 := tv_rng t2
  obtain ⟨t3, hk⟩ := List.forall_mem_cons.mp hk
  have t3 : tv_ok ta (2, 0, 0, [150]) (n_v vs 3) := t3
  have r3 : ta (v_ad (n_v vs 3)) = some 150 := tv_rg t3
  obtain ⟨t5, hk⟩ := List.forall_mem_cons.mp hk
  have t5 : tv_ok ta (0, 0, 1, []) (n_v vs 5) := t5
  have k5 : 0 ≤ v_iv (n_v vs 5) ∧ v_iv (n_v vs 5) ≤ 1 := tv_rng t5
  obtain ⟨t6, hk⟩ := List.forall_mem_cons.mp hk
  have t6 : tv_ok ta (0, 2, 2, []) (n_v vs 6) := t6
  have k6 : 2 ≤ v_iv (n_v vs 6) ∧ v_iv (n_v vs 6) ≤ 2 := tv_rng t6
  have hds : ∀ q ∈ ([(5, 2, -4294967296, 2)] : List of_T), n_iv vs q.2.1 + q.2.2.1 ≤ n_iv vs q.1 ∧ n_iv vs q.1 ≤ n_iv vs q.2.1 + q.2.2.2 := hds
  obtain ⟨d0, hds⟩ := List.forall_mem_cons.mp hds
  have d0 : v_iv (n_v vs 2) + (-4294967296) ≤ v_iv (n_v vs 5) ∧ v_iv (n_v vs 5) ≤ v_iv (n_v vs 2) + 2 := d0
  have hf : fc_ok [(7, [5, 6], [2]), (20, [3, 2, 5], [30, 0, 1, 1, 170, -1, 0, 0, -1, 0, 0]), (24, [0, 3], [])] ta ws vs := hf
  obtain ⟨f0, hf⟩ := fc_un (show (7 : Nat) < 100 from by decide) hf
  have f0 : v_iv (n_v vs 5) < v_iv (n_v vs 6) := f0
  obtain ⟨f1, hf⟩ := fc_un (show (20 : Nat) < 100 from by decide) hf
  have f1 : 1 * w_fi ws (n_v vs 3) 170 + ((-1) * v_iv (n_v vs 2) + ((-1) * v_iv (n_v vs 5) + 0)) ≤ 0 := f1
  obtain ⟨f2, hf⟩ := fc_un (show (24 : Nat) < 100 from by decide) hf
  have f2 : n_v vs 0 = n_v vs 3 := f2
  have q3 : n_v vs 3 = n_v vs 0 := f2.symm
  rw [q3] at f1
  have kz_0_170 : 0 ≤ w_fi ws (n_v vs 0) 170 ∧ w_fi ws (n_v vs 0) 170 ≤ 100000000 := tv_rng (th_fd hD hth r0 (g := GG_150) rfl (k := 170) (t := (0, 0, 100000000, [])) rfl rfl)
  have kv0 : 0 ≤ w_fi ws (n_v vs 0) 170 ∧ w_fi ws (n_v vs 0) 170 ≤ 100000000 := tv_rng (th_fd hD hth r0 (g := GG_150) rfl (k := 170) (t := (0, 0, 100000000, [])) rfl rfl)
  obtain ⟨x, ex, hx⟩ := iv_ex (ta := ta) (lo := 0) (hi := 99999999) (z := w_fi ws (n_v vs 0) 170) (by omega) (by omega) (by omega) (by omega)
  have ex2 : v_iv (Value.int x) = w_fi ws (n_v vs 0) 170 := ex
  have ex3 : 0 ≤ v_iv (Value.int x) ∧ v_iv (Value.int x) ≤ 99999999 := tv_rng hx
  have e_2 : n_v (vs ++ [Value.int x]) 2 = n_v vs 2 := n_v_old (by rw [hl]; decide)
  have e_3 : n_v (vs ++ [Value.int x]) 3 = n_v vs 3 := n_v_old (by rw [hl]; decide)
  have e_5 : n_v (vs ++ [Value.int x]) 5 = n_v vs 5 := n_v_old (by rw [hl]; decide)
  have e_8 : n_v (vs ++ [Value.int x]) 8 = Value.int x := n_v_new hl
  have nf0 : fc_1 (20, [3, 8], [30, 0, 1, 1, 170, -1, 0, 0]) ws (vs ++ [Value.int x]) := by
    refine ⟨fun n hn => ?_, ?_⟩
    · have hn : n ∈ [3, 8] := hn
      rw [List.length_append, hl]
      simp only [List.mem_cons, List.not_mem_nil, or_false] at hn
      show n < 8 + 1; omega
    · show 1 * w_fi ws (n_v (vs ++ [Value.int x]) 3) 170 + ((-1) * v_iv (n_v (vs ++ [Value.int x]) 8) + 0) ≤ 0
      rw [e_3]
      rw [e_8]
      rw [q3]
      omega
  have nf1 : fc_1 (23, [8, 2, 5], [0, 1, -1, -1]) ws (vs ++ [Value.int x]) := by
    refine ⟨fun n hn => ?_, ?_⟩
    · have hn : n ∈ [8, 2, 5] := hn
      rw [List.length_append, hl]
      simp only [List.mem_cons, List.not_mem_nil, or_false] at hn
      show n < 8 + 1; omega
    · show 1 * v_iv (n_v (vs ++ [Value.int x]) 8) + ((-1) * v_iv (n_v (vs ++ [Value.int x]) 2) + ((-1) * v_iv (n_v (vs ++ [Value.int x]) 5) + 0)) ≤ 0
      rw [e_2]
      rw [e_5]
      rw [e_8]
      omega
  exact ⟨(fun _ h => (by cases h)), [Value.int x], ag_one hx, List.forall_mem_cons.mpr ⟨⟨show (20 : Nat) < 100 from by decide, nf0⟩, List.forall_mem_cons.mpr ⟨⟨show (23 : Nat) < 100 from by decide, nf1⟩, (fun _ h => (by cases h))⟩⟩, (fun _ h => (by cases h))⟩
def o_Mo_write_at_s5015_3 : or_T := (2, 10, [(0, (2, 0, 0, [150])), (2, (0, 0, 99999998, [])), (3, (2, 0, 0, [150])), (5, (0, 0, 1, [])), (6, (0, 2, 2, [])), (8, (0, 0, 99999999, [])), (9, (0, 1, 2, []))], [(6, [9, 5], [1]), (23, [8, 2, 5], [0, 1, -1, -1]), (24, [0, 3], []), (20, [3, 8], [30, 1, 1, 1, 170, -1, 0, 0]), (102, [8], [237142198758023568227473377297792835283496928595231875152809132048206089502588928, 13170]), (23, [8, 2, 5], [0, 1, -1, -1]), (7, [5, 6], [2])], [], [], [(20, [3, 2, 9], [30, 0, 1, 1, 170, -1, 0, 0, -1, 0, 0])], [], [(9, 5, 1, 1), (9, 2, -4294967296, 3), (5, 2, -4294967296, 2)])
theorem oo_Mo_write_at_s5015_3 {kA : Nat → ClassId} : or_ok kA GG o_Mo_write_at_s5015_3 := by
  intro A ta ws vs hD hth hl hk hds hf
  have hl : vs.length = 10 := hl
  have hk : ∀ q ∈ ([(0, (2, 0, 0, [150])), (2, (0, 0, 99999998, [])), (3, (2, 0, 0, [150])), (5, (0, 0, 1, [])), (6, (0, 2, 2, [])), (8, (0, 0, 99999999, [])), (9, (0, 1, 2, []))] : List (Nat × tv_T)), tv_ok ta q.2 (n_v vs q.1) := hk
  obtain ⟨t0, hk⟩ := List.forall_mem_cons.mp hk
  have t0 : tv_ok ta (2, 0, 0, [150]) (n_v vs 0) := t0
  have r0 : ta (v_ad (n_v vs 0)) = some 150 := tv_rg t0
  obtain ⟨t2, hk⟩ := List.forall_mem_cons.mp hk
  have t2 : tv_ok ta (0, 0, 99999998, []) (n_v vs 2) := t2
  have k2 : 0 ≤ v_iv (n_v vs 2) ∧ v_iv (n_v vs 2) ≤ 99999998 := tv_rng t2
  obtain ⟨t3, hk⟩ := List.forall_mem_cons.mp hk
  have t3 : tv_ok ta (2, 0, 0, [150]) (n_v vs 3) := t3
  have r3 : ta (v_ad (n_v vs 3)) = some 150 := tv_rg t3
  obtain ⟨t5, hk⟩ := List.forall_mem_cons.mp hk
  have t5 : tv_ok ta (0, 0, 1, []) (n_v vs 5) := t5
  have k5 : 0 ≤ v_iv (n_v vs 5) ∧ v_iv (n_v vs 5) ≤ 1 := tv_rng t5
  obtain ⟨t6, hk⟩ := List.forall_mem_cons.mp hk
  have t6 : tv_ok ta (0, 2, 2, []) (n_v vs 6) := t6
  have k6 : 2 ≤ v_iv (n_v vs 6) ∧ v_iv (n_v vs 6) ≤ 2 := tv_rng t6
  obtain ⟨t8, hk⟩ := List.forall_mem_cons.mp hk
  have t8 : tv_ok ta (0, 0, 99999999, []) (n_v vs 8) := t8
  have k8 : 0 ≤ v_iv (n_v vs 8) ∧ v_iv (n_v vs 8) ≤ 99999999 := tv_rng t8
  obtain ⟨t9, hk⟩ := List.forall_mem_cons.mp hk
  have t9 : tv_ok ta (0, 1, 2, []) (n_v vs 9) := t9
  have k9 : 1 ≤ v_iv (n_v vs 9) ∧ v_iv (n_v vs 9) ≤ 2 := tv_rng t9
  have hds : ∀ q ∈ ([(9, 5, 1, 1), (9, 2, -4294967296, 3), (5, 2, -4294967296, 2)] : List of_T), n_iv vs q.2.1 + q.2.2.1 ≤ n_iv vs q.1 ∧ n_iv vs q.1 ≤ n_iv vs q.2.1 + q.2.2.2 := hds
  obtain ⟨d0, hds⟩ := List.forall_mem_cons.mp hds
  have d0 : v_iv (n_v vs 5) + 1 ≤ v_iv (n_v vs 9) ∧ v_iv (n_v vs 9) ≤ v_iv (n_v vs 5) + 1 := d0
  obtain ⟨d1, hds⟩ := List.forall_mem_cons.mp hds
  have d1 : v_iv (n_v vs 2) + (-4294967296) ≤ v_iv (n_v vs 9) ∧ v_iv (n_v vs 9) ≤ v_iv (n_v vs 2) + 3 := d1
  obtain ⟨d2, hds⟩ := List.forall_mem_cons.mp hds
  have d2 : v_iv (n_v vs 2) + (-4294967296) ≤ v_iv (n_v vs 5) ∧ v_iv (n_v vs 5) ≤ v_iv (n_v vs 2) + 2 := d2
  have hf : fc_ok [(6, [9, 5], [1]), (23, [8, 2, 5], [0, 1, -1, -1]), (24, [0, 3], []), (20, [3, 8], [30, 1, 1, 1, 170, -1, 0, 0]), (102, [8], [237142198758023568227473377297792835283496928595231875152809132048206089502588928, 13170]), (23, [8, 2, 5], [0, 1, -1, -1]), (7, [5, 6], [2])] ta ws vs := hf
  obtain ⟨f0, hf⟩ := fc_un (show (6 : Nat) < 100 from by decide) hf
  have f0 : v_iv (n_v vs 9) = v_iv (n_v vs 5) + 1 := f0
  obtain ⟨f1, hf⟩ := fc_un (show (23 : Nat) < 100 from by decide) hf
  have f1 : 1 * v_iv (n_v vs 8) + ((-1) * v_iv (n_v vs 2) + ((-1) * v_iv (n_v vs 5) + 0)) ≤ 0 := f1
  obtain ⟨f2, hf⟩ := fc_un (show (24 : Nat) < 100 from by decide) hf
  have f2 : n_v vs 0 = n_v vs 3 := f2
  obtain ⟨f3, hf⟩ := fc_un (show (20 : Nat) < 100 from by decide) hf
  have f3 : 1 * w_fi ws (n_v vs 3) 170 + ((-1) * v_iv (n_v vs 8) + 0) ≤ 1 := f3
  obtain ⟨ta1, w1, le1, ⟨_, s1⟩, hf⟩ := fc_us (show ¬ (102 : Nat) < 100 from by decide) hf
  obtain ⟨f5, hf⟩ := fc_un (show (23 : Nat) < 100 from by decide) hf
  have f5 : 1 * v_iv (n_v vs 8) + ((-1) * v_iv (n_v vs 2) + ((-1) * v_iv (n_v vs 5) + 0)) ≤ 0 := f5
  obtain ⟨f6, hf⟩ := fc_un (show (7 : Nat) < 100 from by decide) hf
  have f6 : v_iv (n_v vs 5) < v_iv (n_v vs 6) := f6
  have q3 : n_v vs 3 = n_v vs 0 := f2.symm
  rw [q3] at f3
  have kz_0_170 : 0 ≤ w_fi ws (n_v vs 0) 170 ∧ w_fi ws (n_v vs 0) 170 ≤ 100000000 := tv_rng (th_fd hD hth r0 (g := GG_150) rfl (k := 170) (t := (0, 0, 100000000, [])) rfl rfl)
  have nf0 : fc_1 (20, [3, 2, 9], [30, 0, 1, 1, 170, -1, 0, 0, -1, 0, 0]) ws (vs) := by
    refine ⟨fun n hn => ?_, ?_⟩
    · have hn : n ∈ [3, 2, 9] := hn
      rw [hl]
      simp only [List.mem_cons, List.not_mem_nil, or_false] at hn
      show n < 10; omega
    · show 1 * w_fi ws (n_v vs 3) 170 + ((-1) * v_iv (n_v vs 2) + ((-1) * v_iv (n_v vs 9) + 0)) ≤ 0
      rw [q3]
      omega
  refine ⟨(fun _ h => (by cases h)), [], trivial, ?_, (fun _ h => (by cases h))⟩
  rw [List.append_nil]
  exact List.forall_mem_cons.mpr ⟨⟨show (20 : Nat) < 100 from by decide, nf0⟩, (fun _ h => (by cases h))⟩
def n_Mo_write_at_s5015_an : List an_T := [(2, [(0, (2, 0, 0, [150])), (1, (2, 0, 0, [5015])), (2, (0, 0, 2, []))], [], (0, 0), [(0, 0, 99998), (1, 5, 2), (0, 0, 100000)], [(5, 2, -1000000000000, 2)], [], [(2, 0, 0, [150]), (2, 0, 0, [5015]), (0, 0, 99999998, [])], 0, [], [(20, [3, 2, 5], [30, 0, 1, 1, 170, -1, 0, 0, -1, 0, 0]), (24, [0, 3], [])])]
def t_Mo_write_at_s5015_ct : ct_L := [(16, 448, e_jStr_length_v199), (43, 453, e_jStr_charAt_v200), (52, 1280, e_Mo_write1)]
set_option maxRecDepth 100000 in
theorem c_Mo_write_at_s5015 {l : Launch} {D : va_G} {kA : Nat → ClassId} (h_Mo_write1 : ct_ok l D kA GG y_Mo_write1 z_Mo_write1 e_Mo_write1) : ct_ok l D kA GG y_Mo_write_at_s5015 z_Mo_write_at_s5015 e_Mo_write_at_s5015 := chk_all_ok (FT := []) (PT := []) (CT := t_Mo_write_at_s5015_ct) (KT := []) (NT := []) (AN := n_Mo_write_at_s5015_an) (OT := [o_Mo_write_at_s5015_0, o_Mo_write_at_s5015_1, o_Mo_write_at_s5015_2, o_Mo_write_at_s5015_3]) 3 200 (List.forall_mem_cons.mpr ⟨oo_Mo_write_at_s5015_0, List.forall_mem_cons.mpr ⟨oo_Mo_write_at_s5015_1, List.forall_mem_cons.mpr ⟨oo_Mo_write_at_s5015_2, List.forall_mem_cons.mpr ⟨oo_Mo_write_at_s5015_3, List.forall_mem_nil _⟩⟩⟩⟩) (by decide +kernel) ⟨List.forall_mem_nil _, List.forall_mem_nil _, List.forall_mem_cons.mpr ⟨cl_string (y := y_jStr_length) (i := 15) rfl rfl (by decide +kernel) rfl c_jStr_length_v199 wm_674 wm_11 wm_3003 wm_672 wm_673 ⟨by decide, by decide, by decide +kernel⟩ (by decide), List.forall_mem_cons.mpr ⟨cl_string (y := y_jStr_charAt) (i := 15) rfl rfl (by decide +kernel) rfl c_jStr_charAt_v200 wm_684 wm_11 wm_3004 wm_682 wm_683 ⟨by decide, by decide, by decide +kernel⟩ (by decide), List.forall_mem_cons.mpr ⟨cl_virtual (y := y_Mo_write1) (ci := 13) rfl rfl ⟨_, _, rfl⟩ (by decide +kernel) h_Mo_write1 wm_3914 wm_9 wm_3911 wm_3913 wv_24_8 ⟨by decide, by decide, by decide +kernel⟩ (by decide), List.forall_mem_nil _⟩⟩⟩, List.forall_mem_nil _, List.forall_mem_nil _, GG_pl⟩ (by decide +kernel)
def o_Mo_write_at_s5016_0 : or_T := (2, 4, [(0, (2, 0, 0, [150])), (2, (0, 0, 99999994, [])), (3, (0, 0, 0, []))], [(20, [0, 2], [30, 0, 1, 1, 170, -1, 0, 0])], [], [], [(20, [0, 2, 3], [30, 0, 1, 1, 170, -1, 0, 0, -1, 0, 0]), (24, [0, 0], [])], [], [])
theorem oo_Mo_write_at_s5016_0 {kA : Nat → ClassId} : or_ok kA GG o_Mo_write_at_s5016_0 := by
  intro A ta ws vs hD hth hl hk hds hf
  have hl : vs.length = 4 := hl
  have hk : ∀ q ∈ ([(0, (2, 0, 0, [150])), (2, (0, 0, 99999994, [])), (3, (0, 0, 0, []))] : List (Nat × tv_T)), tv_ok ta q.2 (n_v vs q.1) := hk
  obtain ⟨t0, hk⟩ := List.forall_mem_cons.mp hk
  have t0 : tv_ok ta (2, 0, 0, [150]) (n_v vs 0) := t0
  have r0 : ta (v_ad (n_v vs 0)) = some 150 := tv_rg t0
  obtain ⟨t2, hk⟩ := List.forall_mem_cons.mp hk
  have t2 : tv_ok ta (0, 0, 99999994, []) (n_v vs 2) := t2
  have k2 : 0 ≤ v_iv (n_v vs 2) ∧ v_iv (n_v vs 2) ≤ 99999994 := tv_rng t2
  obtain ⟨t3, hk⟩ := List.forall_mem_cons.mp hk
  have t3 : tv_ok ta (0, 0, 0, []) (n_v vs 3) := t3
  have k3 : 0 ≤ v_iv (n_v vs 3) ∧ v_iv (n_v vs 3) ≤ 0 := tv_rng t3
  have hf : fc_ok [(20, [0, 2], [30, 0, 1, 1, 170, -1, 0, 0])] ta ws vs := hf
  obtain ⟨f0, hf⟩ := fc_un (show (20 : Nat) < 100 from by decide) hf
  have f0 : 1 * w_fi ws (n_v vs 0) 170 + ((-1) * v_iv (n_v vs 2) + 0) ≤ 0 := f0
  have kz_0_170 : 0 ≤ w_fi ws (n_v vs 0) 170 ∧ w_fi ws (n_v vs 0) 170 ≤ 100000000 := tv_rng (th_fd hD hth r0 (g := GG_150) rfl (k := 170) (t := (0, 0, 100000000, [])) rfl rfl)
  have nf0 : fc_1 (20, [0, 2, 3], [30, 0, 1, 1, 170, -1, 0, 0, -1, 0, 0]) ws (vs) := by
    refine ⟨fun n hn => ?_, ?_⟩
    · have hn : n ∈ [0, 2, 3] := hn
      rw [hl]
      simp only [List.mem_cons, List.not_mem_nil, or_false] at hn
      show n < 4; omega
    · show 1 * w_fi ws (n_v vs 0) 170 + ((-1) * v_iv (n_v vs 2) + ((-1) * v_iv (n_v vs 3) + 0)) ≤ 0
      omega
  have nf1 : fc_1 (24, [0, 0], []) ws (vs) := by
    refine ⟨fun n hn => ?_, ?_⟩
    · have hn : n ∈ [0, 0] := hn
      rw [hl]
      simp only [List.mem_cons, List.not_mem_nil, or_false] at hn
      show n < 4; omega
    · show n_v vs 0 = n_v vs 0
      first | rfl | simp only [true_and]
  refine ⟨(fun _ h => (by cases h)), [], trivial, ?_, (fun _ h => (by cases h))⟩
  rw [List.append_nil]
  exact List.forall_mem_cons.mpr ⟨⟨show (20 : Nat) < 100 from by decide, nf0⟩, List.forall_mem_cons.mpr ⟨⟨show (24 : Nat) < 100 from by decide, nf1⟩, (fun _ h => (by cases h))⟩⟩
def o_Mo_write_at_s5016_1 : or_T := (25, 7, [(0, (2, 0, 0, [150])), (2, (0, 0, 99999994, [])), (3, (2, 0, 0, [150])), (5, (0, 6, 6, [])), (6, (0, 6, 6, []))], [(7, [5, 6], [3]), (20, [3, 2, 5], [30, 0, 1, 1, 170, -1, 0, 0, -1, 0, 0]), (24, [0, 3], [])], [], [], [(20, [0, 2], [30, 6, 1, 1, 170, -1, 0, 0])], [], [])
theorem oo_Mo_write_at_s5016_1 {kA : Nat → ClassId} : or_ok kA GG o_Mo_write_at_s5016_1 := by
  intro A ta ws vs hD hth hl hk hds hf
  have hl : vs.length = 7 := hl
  have hk : ∀ q ∈ ([(0, (2, 0, 0, [150])), (2, (0, 0, 99999994, [])), (3, (2, 0, 0, [150])), (5, (0, 6, 6, [])), (6, (0, 6, 6, []))] : List (Nat × tv_T)), tv_ok ta q.2 (n_v vs q.1) := hk
  obtain ⟨t0, hk⟩ := List.forall_mem_cons.mp hk
  have t0 : tv_ok ta (2, 0, 0, [150]) (n_v vs 0) := t0
  have r0 : ta (v_ad (n_v vs 0)) = some 150 := tv_rg t0
  obtain ⟨t2, hk⟩ := List.forall_mem_cons.mp hk
  have t2 : tv_ok ta (0, 0, 99999994, []) (n_v vs 2) := t2
  have k2 : 0 ≤ v_iv (n_v vs 2) ∧ v_iv (n_v vs 2) ≤ 99999994 := tv_rng t2
  obtain ⟨t3, hk⟩ := List.forall_mem_cons.mp hk
  have t3 : tv_ok ta (2, 0, 0, [150]) (n_v vs 3) := t3
  have r3 : ta (v_ad (n_v vs 3)) = some 150 := tv_rg t3
  obtain ⟨t5, hk⟩ := List.forall_mem_cons.mp hk
  have t5 : tv_ok ta (0, 6, 6, []) (n_v vs 5) := t5
  have k5 : 6 ≤ v_iv (n_v vs 5) ∧ v_iv (n_v vs 5) ≤ 6 := tv_rng t5
  obtain ⟨t6, hk⟩ := List.forall_mem_cons.mp hk
  have t6 : tv_ok ta (0, 6, 6, []) (n_v vs 6) := t6
  have k6 : 6 ≤ v_iv (n_v vs 6) ∧ v_iv (n_v vs 6) ≤ 6 := tv_rng t6
  have hf : fc_ok [(7, [5, 6], [3]), (20, [3, 2, 5], [30, 0, 1, 1, 170, -1, 0, 0, -1, 0, 0]), (24, [0, 3], [])] ta ws vs := hf
  obtain ⟨f0, hf⟩ := fc_un (show (7 : Nat) < 100 from by decide) hf
  have f0 : v_iv (n_v vs 6) ≤ v_iv (n_v vs 5) := f0
  obtain ⟨f1, hf⟩ := fc_un (show (20 : Nat) < 100 from by decide) hf
  have f1 : 1 * w_fi ws (n_v vs 3) 170 + ((-1) * v_iv (n_v vs 2) + ((-1) * v_iv (n_v vs 5) + 0)) ≤ 0 := f1
  obtain ⟨f2, hf⟩ := fc_un (show (24 : Nat) < 100 from by decide) hf
  have f2 : n_v vs 0 = n_v vs 3 := f2
  have q3 : n_v vs 3 = n_v vs 0 := f2.symm
  rw [q3] at f1
  have kz_0_170 : 0 ≤ w_fi ws (n_v vs 0) 170 ∧ w_fi ws (n_v vs 0) 170 ≤ 100000000 := tv_rng (th_fd hD hth r0 (g := GG_150) rfl (k := 170) (t := (0, 0, 100000000, [])) rfl rfl)
  have nf0 : fc_1 (20, [0, 2], [30, 6, 1, 1, 170, -1, 0, 0]) ws (vs) := by
    refine ⟨fun n hn => ?_, ?_⟩
    · have hn : n ∈ [0, 2] := hn
      rw [hl]
      simp only [List.mem_cons, List.not_mem_nil, or_false] at hn
      show n < 7; omega
    · show 1 * w_fi ws (n_v vs 0) 170 + ((-1) * v_iv (n_v vs 2) + 0) ≤ 6
      omega
  refine ⟨(fun _ h => (by cases h)), [], trivial, ?_, (fun _ h => (by cases h))⟩
  rw [List.append_nil]
  exact List.forall_mem_cons.mpr ⟨⟨show (20 : Nat) < 100 from by decide, nf0⟩, (fun _ h => (by cases h))⟩
def o_Mo_write_at_s5016_2 : or_T := (16, 8, [(0, (2, 0, 0, [150])), (2, (0, 0, 99999994, [])), (3, (2, 0, 0, [150])), (5, (0, 0, 5, [])), (6, (0, 6, 6, []))], [(7, [5, 6], [2]), (20, [3, 2, 5], [30, 0, 1, 1, 170, -1, 0, 0, -1, 0, 0]), (24, [0, 3], [])], [], [(0, 0, 99999999, [])], [(20, [3, 8], [30, 0, 1, 1, 170, -1, 0, 0]), (23, [8, 2, 5], [0, 1, -1, -1])], [], [])
theorem oo_Mo_write_at_s5016_2 {kA : Nat → ClassId} : or_ok kA GG o_Mo_write_at_s5016_2 := by
  intro A ta ws vs hD hth hl hk hds hf
  have hl : vs.length = 8 := hl
  have hk : ∀ q ∈ ([(0, (2, 0, 0, [150])), (2, (0, 0, 99999994, [])), (3, (2, 0, 0, [150])), (5, (0, 0, 5, [])), (6, (0, 6, 6, []))] : List (Nat × tv_T)), tv_ok ta q.2 (n_v vs q.1) := hk
  obtain ⟨t0, hk⟩ := List.forall_mem_cons.mp hk
  have t0 : tv_ok ta (2, 0, 0, [150]) (n_v vs 0) := t0
  have r0 : ta (v_ad (n_v vs 0)) = some 150 := tv_rg t0
  obtain ⟨t2, hk⟩ := List.forall_mem_cons.mp hk
  have t2 : tv_ok ta (0, 0, 99999994, []) (n_v vs 2) := t2
  have k2 : 0 ≤ v_iv (n_v vs 2) ∧ v_iv (n_v vs 2) ≤ 99999994 := tv_rng t2
  obtain ⟨t3, hk⟩ := List.forall_mem_cons.mp hk
  have t3 : tv_ok ta (2, 0, 0, [150]) (n_v vs 3) := t3
  have r3 : ta (v_ad (n_v vs 3)) = some 150 := tv_rg t3
  obtain ⟨t5, hk⟩ := List.forall_mem_cons.mp hk
  have t5 : tv_ok ta (0, 0, 5, []) (n_v vs 5) := t5
  have k5 : 0 ≤ v_iv (n_v vs 5) ∧ v_iv (n_v vs 5) ≤ 5 := tv_rng t5
  obtain ⟨t6, hk⟩ := List.forall_mem_cons.mp hk
  have t6 : tv_ok ta (0, 6, 6, []) (n_v vs 6) := t6
  have k6 : 6 ≤ v_iv (n_v vs 6) ∧ v_iv (n_v vs 6) ≤ 6 := tv_rng t6
  have hf : fc_ok [(7, [5, 6], [2]), (20, [3, 2, 5], [30, 0, 1, 1, 170, -1, 0, 0, -1, 0, 0]), (24, [0, 3], [])] ta ws vs := hf
  obtain ⟨f0, hf⟩ := fc_un (show (7 : Nat) < 100 from by decide) hf
  have f0 : v_iv (n_v vs 5) < v_iv (n_v vs 6) := f0
  obtain ⟨f1, hf⟩ := fc_un (show (20 : Nat) < 100 from by decide) hf
  have f1 : 1 * w_fi ws (n_v vs 3) 170 + ((-1) * v_iv (n_v vs 2) + ((-1) * v_iv (n_v vs 5) + 0)) ≤ 0 := f1
  obtain ⟨f2, hf⟩ := fc_un (show (24 : Nat) < 100 from by decide) hf
  have f2 : n_v vs 0 = n_v vs 3 := f2
  have q3 : n_v vs 3 = n_v vs 0 := f2.symm
  rw [q3] at f1
  have kz_0_170 : 0 ≤ w_fi ws (n_v vs 0) 170 ∧ w_fi ws (n_v vs 0) 170 ≤ 100000000 := tv_rng (th_fd hD hth r0 (g := GG_150) rfl (k := 170) (t := (0, 0, 100000000, [])) rfl rfl)
  have kv0 : 0 ≤ w_fi ws (n_v vs 0) 170 ∧ w_fi ws (n_v vs 0) 170 ≤ 100000000 := tv_rng (th_fd hD hth r0 (g := GG_150) rfl (k := 170) (t := (0, 0, 100000000, [])) rfl rfl)
  obtain ⟨x, ex, hx⟩ := iv_ex (ta := ta) (lo := 0) (hi := 99999999) (z := w_fi ws (n_v vs 0) 170) (by omega) (by omega) (by omega) (by omega)
  have ex2 : v_iv (Value.int x) = w_fi ws (n_v vs 0) 170 := ex
  have ex3 : 0 ≤ v_iv (Value.int x) ∧ v_iv (Value.int x) ≤ 99999999 := tv_rng hx
  have e_2 : n_v (vs ++ [Value.int x]) 2 = n_v vs 2 := n_v_old (by rw [hl]; decide)
  have e_3 : n_v (vs ++ [Value.int x]) 3 = n_v vs 3 := n_v_old (by rw [hl]; decide)
  have e_5 : n_v (vs ++ [Value.int x]) 5 = n_v vs 5 := n_v_old (by rw [hl]; decide)
  have e_8 : n_v (vs ++ [Value.int x]) 8 = Value.int x := n_v_new hl
  have nf0 : fc_1 (20, [3, 8], [30, 0, 1, 1, 170, -1, 0, 0]) ws (vs ++ [Value.int x]) := by
    refine ⟨fun n hn => ?_, ?_⟩
    · have hn : n ∈ [3, 8] := hn
      rw [List.length_append, hl]
      simp only [List.mem_cons, List.not_mem_nil, or_false] at hn
      show n < 8 + 1; omega
    · show 1 * w_fi ws (n_v (vs ++ [Value.int x]) 3) 170 + ((-1) * v_iv (n_v (vs ++ [Value.int x]) 8) + 0) ≤ 0
      rw [e_3]
      rw [e_8]
      rw [q3]
      omega
  have nf1 : fc_1 (23, [8, 2, 5], [0, 1, -1, -1]) ws (vs ++ [Value.int x]) := by
    refine ⟨fun n hn => ?_, ?_⟩
    · have hn : n ∈ [8, 2, 5] := hn
      rw [List.length_append, hl]
      simp only [List.mem_cons, List.not_mem_nil, or_false] at hn
      show n < 8 + 1; omega
    · show 1 * v_iv (n_v (vs ++ [Value.int x]) 8) + ((-1) * v_iv (n_v (vs ++ [Value.int x]) 2) + ((-1) * v_iv (n_v (vs ++ [Value.int x]) 5) + 0)) ≤ 0
      rw [e_2]
      rw [e_5]
      rw [e_8]
      omega
  exact ⟨(fun _ h => (by cases h)), [Value.int x], ag_one hx, List.forall_mem_cons.mpr ⟨⟨show (20 : Nat) < 100 from by decide, nf0⟩, List.forall_mem_cons.mpr ⟨⟨show (23 : Nat) < 100 from by decide, nf1⟩, (fun _ h => (by cases h))⟩⟩, (fun _ h => (by cases h))⟩
def o_Mo_write_at_s5016_3 : or_T := (2, 10, [(0, (2, 0, 0, [150])), (2, (0, 0, 99999994, [])), (3, (2, 0, 0, [150])), (5, (0, 0, 5, [])), (6, (0, 6, 6, [])), (8, (0, 0, 99999999, [])), (9, (0, 1, 6, []))], [(6, [9, 5], [1]), (23, [8, 2, 5], [0, 1, -1, -1]), (24, [0, 3], []), (20, [3, 8], [30, 1, 1, 1, 170, -1, 0, 0]), (102, [8], [237142198758023568227473377297792835283496928595231875152809132048206089502588928, 13170]), (23, [8, 2, 5], [0, 1, -1, -1]), (7, [5, 6], [2])], [], [], [(20, [3, 2, 9], [30, 0, 1, 1, 170, -1, 0, 0, -1, 0, 0])], [], [(9, 5, 1, 1)])
theorem oo_Mo_write_at_s5016_3 {kA : Nat → ClassId} : or_ok kA GG o_Mo_write_at_s5016_3 := by
  intro A ta ws vs hD hth hl hk hds hf
  have hl : vs.length = 10 := hl
  have hk : ∀ q ∈ ([(0, (2, 0, 0, [150])), (2, (0, 0, 99999994, [])), (3, (2, 0, 0, [150])), (5, (0, 0, 5, [])), (6, (0, 6, 6, [])), (8, (0, 0, 99999999, [])), (9, (0, 1, 6, []))] : List (Nat × tv_T)), tv_ok ta q.2 (n_v vs q.1) := hk
  obtain ⟨t0, hk⟩ := List.forall_mem_cons.mp hk
  have t0 : tv_ok ta (2, 0, 0, [150]) (n_v vs 0) := t0
  have r0 : ta (v_ad (n_v vs 0)) = some 150 := tv_rg t0
  obtain ⟨t2, hk⟩ := List.forall_mem_cons.mp hk
  have t2 : tv_ok ta (0, 0, 99999994, []) (n_v vs 2) := t2
  have k2 : 0 ≤ v_iv (n_v vs 2) ∧ v_iv (n_v vs 2) ≤ 99999994 := tv_rng t2
  obtain ⟨t3, hk⟩ := List.forall_mem_cons.mp hk
  have t3 : tv_ok ta (2, 0, 0, [150]) (n_v vs 3) := t3
  have r3 : ta (v_ad (n_v vs 3)) = some 150 := tv_rg t3
  obtain ⟨t5, hk⟩ := List.forall_mem_cons.mp hk
  have t5 : tv_ok ta (0, 0, 5, []) (n_v vs 5) := t5
  have k5 : 0 ≤ v_iv (n_v vs 5) ∧ v_iv (n_v vs 5) ≤ 5 := tv_rng t5
  obtain ⟨t6, hk⟩ := List.forall_mem_cons.mp hk
  have t6 : tv_ok ta (0, 6, 6, []) (n_v vs 6) := t6
  have k6 : 6 ≤ v_iv (n_v vs 6) ∧ v_iv (n_v vs 6) ≤ 6 := tv_rng t6
  obtain ⟨t8, hk⟩ := List.forall_mem_cons.mp hk
  have t8 : tv_ok ta (0, 0, 99999999, []) (n_v vs 8) := t8
  have k8 : 0 ≤ v_iv (n_v vs 8) ∧ v_iv (n_v vs 8) ≤ 99999999 := tv_rng t8
  obtain ⟨t9, hk⟩ := List.forall_mem_cons.mp hk
  have t9 : tv_ok ta (0, 1, 6, []) (n_v vs 9) := t9
  have k9 : 1 ≤ v_iv (n_v vs 9) ∧ v_iv (n_v vs 9) ≤ 6 := tv_rng t9
  have hds : ∀ q ∈ ([(9, 5, 1, 1)] : List of_T), n_iv vs q.2.1 + q.2.2.1 ≤ n_iv vs q.1 ∧ n_iv vs q.1 ≤ n_iv vs q.2.1 + q.2.2.2 := hds
  obtain ⟨d0, hds⟩ := List.forall_mem_cons.mp hds
  have d0 : v_iv (n_v vs 5) + 1 ≤ v_iv (n_v vs 9) ∧ v_iv (n_v vs 9) ≤ v_iv (n_v vs 5) + 1 := d0
  have hf : fc_ok [(6, [9, 5], [1]), (23, [8, 2, 5], [0, 1, -1, -1]), (24, [0, 3], []), (20, [3, 8], [30, 1, 1, 1, 170, -1, 0, 0]), (102, [8], [237142198758023568227473377297792835283496928595231875152809132048206089502588928, 13170]), (23, [8, 2, 5], [0, 1, -1, -1]), (7, [5, 6], [2])] ta ws vs := hf
  obtain ⟨f0, hf⟩ := fc_un (show (6 : Nat) < 100 from by decide) hf
  have f0 : v_iv (n_v vs 9) = v_iv (n_v vs 5) + 1 := f0
  obtain ⟨f1, hf⟩ := fc_un (show (23 : Nat) < 100 from by decide) hf
  have f1 : 1 * v_iv (n_v vs 8) + ((-1) * v_iv (n_v vs 2) + ((-1) * v_iv (n_v vs 5) + 0)) ≤ 0 := f1
  obtain ⟨f2, hf⟩ := fc_un (show (24 : Nat) < 100 from by decide) hf
  have f2 : n_v vs 0 = n_v vs 3 := f2
  obtain ⟨f3, hf⟩ := fc_un (show (20 : Nat) < 100 from by decide) hf
  have f3 : 1 * w_fi ws (n_v vs 3) 170 + ((-1) * v_iv (n_v vs 8) + 0) ≤ 1 := f3
  obtain ⟨ta1, w1, le1, ⟨_, s1⟩, hf⟩ := fc_us (show ¬ (102 : Nat) < 100 from by decide) hf
  obtain ⟨f5, hf⟩ := fc_un (show (23 : Nat) < 100 from by decide) hf
  have f5 : 1 * v_iv (n_v vs 8) + ((-1) * v_iv (n_v vs 2) + ((-1) * v_iv (n_v vs 5) + 0)) ≤ 0 := f5
  obtain ⟨f6, hf⟩ := fc_un (show (7 : Nat) < 100 from by decide) hf
  have f6 : v_iv (n_v vs 5) < v_iv (n_v vs 6) := f6
  have q3 : n_v vs 3 = n_v vs 0 := f2.symm
  rw [q3] at f3
  have kz_0_170 : 0 ≤ w_fi ws (n_v vs 0) 170 ∧ w_fi ws (n_v vs 0) 170 ≤ 100000000 := tv_rng (th_fd hD hth r0 (g := GG_150) rfl (k := 170) (t := (0, 0, 100000000, [])) rfl rfl)
  have nf0 : fc_1 (20, [3, 2, 9], [30, 0, 1, 1, 170, -1, 0, 0, -1, 0, 0]) ws (vs) := by
    refine ⟨fun n hn => ?_, ?_⟩
    · have hn : n ∈ [3, 2, 9] := hn
      rw [hl]
      simp only [List.mem_cons, List.not_mem_nil, or_false] at hn
      show n < 10; omega
    · show 1 * w_fi ws (n_v vs 3) 170 + ((-1) * v_iv (n_v vs 2) + ((-1) * v_iv (n_v vs 9) + 0)) ≤ 0
      rw [q3]
      omega
  refine ⟨(fun _ h => (by cases h)), [], trivial, ?_, (fun _ h => (by cases h))⟩
  rw [List.append_nil]
  exact List.forall_mem_cons.mpr ⟨⟨show (20 : Nat) < 100 from by decide, nf0⟩, (fun _ h => (by cases h))⟩
def n_Mo_write_at_s5016_an : List an_T := [(2, [(0, (2, 0, 0, [150])), (1, (2, 0, 0, [5016])), (2, (0, 0, 6, []))], [], (0, 0), [(0, 0, 99998), (1, 5, 6), (0, 0, 100000)], [], [], [(2, 0, 0, [150]), (2, 0, 0, [5016]), (0, 0, 99999994, [])], 0, [], [(20, [3, 2, 5], [30, 0, 1, 1, 170, -1, 0, 0, -1, 0, 0]), (24, [0, 3], [])])]
def t_Mo_write_at_s5016_ct : ct_L := [(16, 448, e_jStr_length_v204), (43, 453, e_jStr_charAt_v205), (52, 1280, e_Mo_write1)]
set_option maxRecDepth 100000 in
theorem c_Mo_write_at_s5016 {l : Launch} {D : va_G} {kA : Nat → ClassId} (h_Mo_write1 : ct_ok l D kA GG y_Mo_write1 z_Mo_write1 e_Mo_write1) : ct_ok l D kA GG y_Mo_write_at_s5016 z_Mo_write_at_s5016 e_Mo_write_at_s5016 := chk_all_ok (FT := []) (PT := []) (CT := t_Mo_write_at_s5016_ct) (KT := []) (NT := []) (AN := n_Mo_write_at_s5016_an) (OT := [o_Mo_write_at_s5016_0, o_Mo_write_at_s5016_1, o_Mo_write_at_s5016_2, o_Mo_write_at_s5016_3]) 3 200 (List.forall_mem_cons.mpr ⟨oo_Mo_write_at_s5016_0, List.forall_mem_cons.mpr ⟨oo_Mo_write_at_s5016_1, List.forall_mem_cons.mpr ⟨oo_Mo_write_at_s5016_2, List.forall_mem_cons.mpr ⟨oo_Mo_write_at_s5016_3, List.forall_mem_nil _⟩⟩⟩⟩) (by decide +kernel) ⟨List.forall_mem_nil _, List.forall_mem_nil _, List.forall_mem_cons.mpr ⟨cl_string (y := y_jStr_length) (i := 16) rfl rfl (by decide +kernel) rfl c_jStr_length_v204 wm_674 wm_11 wm_3003 wm_672 wm_673 ⟨by decide, by decide, by decide +kernel⟩ (by decide), List.forall_mem_cons.mpr ⟨cl_string (y := y_jStr_charAt) (i := 16) rfl rfl (by decide +kernel) rfl c_jStr_charAt_v205 wm_684 wm_11 wm_3004 wm_682 wm_683 ⟨by decide, by decide, by decide +kernel⟩ (by decide), List.forall_mem_cons.mpr ⟨cl_virtual (y := y_Mo_write1) (ci := 13) rfl rfl ⟨_, _, rfl⟩ (by decide +kernel) h_Mo_write1 wm_3914 wm_9 wm_3911 wm_3913 wv_24_8 ⟨by decide, by decide, by decide +kernel⟩ (by decide), List.forall_mem_nil _⟩⟩⟩, List.forall_mem_nil _, List.forall_mem_nil _, GG_pl⟩ (by decide +kernel)
def o_Mo_write_at_s5017_0 : or_T := (2, 4, [(0, (2, 0, 0, [150])), (2, (0, 0, 99999997, [])), (3, (0, 0, 0, []))], [(20, [0, 2], [30, 0, 1, 1, 170, -1, 0, 0])], [], [], [(20, [0, 2, 3], [30, 0, 1, 1, 170, -1, 0, 0, -1, 0, 0]), (24, [0, 0], [])], [], [])
theorem oo_Mo_write_at_s5017_0 {kA : Nat → ClassId} : or_ok kA GG o_Mo_write_at_s5017_0 := by
  intro A ta ws vs hD hth hl hk hds hf
  have hl : vs.length = 4 := hl
  have hk : ∀ q ∈ ([(0, (2, 0, 0, [150])), (2, (0, 0, 99999997, [])), (3, (0, 0, 0, []))] : List (Nat × tv_T)), tv_ok ta q.2 (n_v vs q.1) := hk
  obtain ⟨t0, hk⟩ := List.forall_mem_cons.mp hk
  have t0 : tv_ok ta (2, 0, 0, [150]) (n_v vs 0) := t0
  have r0 : ta (v_ad (n_v vs 0)) = some 150 := tv_rg t0
  obtain ⟨t2, hk⟩ := List.forall_mem_cons.mp hk
  have t2 : tv_ok ta (0, 0, 99999997, []) (n_v vs 2) := t2
  have k2 : 0 ≤ v_iv (n_v vs 2) ∧ v_iv (n_v vs 2) ≤ 99999997 := tv_rng t2
  obtain ⟨t3, hk⟩ := List.forall_mem_cons.mp hk
  have t3 : tv_ok ta (0, 0, 0, []) (n_v vs 3) := t3
  have k3 : 0 ≤ v_iv (n_v vs 3) ∧ v_iv (n_v vs 3) ≤ 0 := tv_rng t3
  have hf : fc_ok [(20, [0, 2], [30, 0, 1, 1, 170, -1, 0, 0])] ta ws vs := hf
  obtain ⟨f0, hf⟩ := fc_un (show (20 : Nat) < 100 from by decide) hf
  have f0 : 1 * w_fi ws (n_v vs 0) 170 + ((-1) * v_iv (n_v vs 2) + 0) ≤ 0 := f0
  have kz_0_170 : 0 ≤ w_fi ws (n_v vs 0) 170 ∧ w_fi ws (n_v vs 0) 170 ≤ 100000000 := tv_rng (th_fd hD hth r0 (g := GG_150) rfl (k := 170) (t := (0, 0, 100000000, [])) rfl rfl)
  have nf0 : fc_1 (20, [0, 2, 3], [30, 0, 1, 1, 170, -1, 0, 0, -1, 0, 0]) ws (vs) := by
    refine ⟨fun n hn => ?_, ?_⟩
    · have hn : n ∈ [0, 2, 3] := hn
      rw [hl]
      simp only [List.mem_cons, List.not_mem_nil, or_false] at hn
      show n < 4; omega
    · show 1 * w_fi ws (n_v vs 0) 170 + ((-1) * v_iv (n_v vs 2) + ((-1) * v_iv (n_v vs 3) + 0)) ≤ 0
      omega
  have nf1 : fc_1 (24, [0, 0], []) ws (vs) := by
    refine ⟨fun n hn => ?_, ?_⟩
    · have hn : n ∈ [0, 0] := hn
      rw [hl]
      simp only [List.mem_cons, List.not_mem_nil, or_false] at hn
      show n < 4; omega
    · show n_v vs 0 = n_v vs 0
      first | rfl | simp only [true_and]
  refine ⟨(fun _ h => (by cases h)), [], trivial, ?_, (fun _ h => (by cases h))⟩
  rw [List.append_nil]
  exact List.forall_mem_cons.mpr ⟨⟨show (20 : Nat) < 100 from by decide, nf0⟩, List.forall_mem_cons.mpr ⟨⟨show (24 : Nat) < 100 from by decide, nf1⟩, (fun _ h => (by cases h))⟩⟩
def o_Mo_write_at_s5017_1 : or_T := (25, 7, [(0, (2, 0, 0, [150])), (2, (0, 0, 99999997, [])), (3, (2, 0, 0, [150])), (5, (0, 3, 3, [])), (6, (0, 3, 3, []))], [(7, [5, 6], [3]), (20, [3, 2, 5], [30, 0, 1, 1, 170, -1, 0, 0, -1, 0, 0]), (24, [0, 3], [])], [], [], [(20, [0, 2], [30, 3, 1, 1, 170, -1, 0, 0])], [], [])
theorem oo_Mo_write_at_s5017_1 {kA : Nat → ClassId} : or_ok kA GG o_Mo_write_at_s5017_1 := by
  intro A ta ws vs hD hth hl hk hds hf
  have hl : vs.length = 7 := hl
  have hk : ∀ q ∈ ([(0, (2, 0, 0, [150])), (2, (0, 0, 99999997, [])), (3, (2, 0, 0, [150])), (5, (0, 3, 3, [])), (6, (0, 3, 3, []))] : List (Nat × tv_T)), tv_ok ta q.2 (n_v vs q.1) := hk
  obtain ⟨t0, hk⟩ := List.forall_mem_cons.mp hk
  have t0 : tv_ok ta (2, 0, 0, [150]) (n_v vs 0) := t0
  have r0 : ta (v_ad (n_v vs 0)) = some 150 := tv_rg t0
  obtain ⟨t2, hk⟩ := List.forall_mem_cons.mp hk
  have t2 : tv_ok ta (0, 0, 99999997, []) (n_v vs 2) := t2
  have k2 : 0 ≤ v_iv (n_v vs 2) ∧ v_iv (n_v vs 2) ≤ 99999997 := tv_rng t2
  obtain ⟨t3, hk⟩ := List.forall_mem_cons.mp hk
  have t3 : tv_ok ta (2, 0, 0, [150]) (n_v vs 3) := t3
  have r3 : ta (v_ad (n_v vs 3)) = some 150 := tv_rg t3
  obtain ⟨t5, hk⟩ := List.forall_mem_cons.mp hk
  have t5 : tv_ok ta (0, 3, 3, []) (n_v vs 5) := t5
  have k5 : 3 ≤ v_iv (n_v vs 5) ∧ v_iv (n_v vs 5) ≤ 3 := tv_rng t5
  obtain ⟨t6, hk⟩ := List.forall_mem_cons.mp hk
  have t6 : tv_ok ta (0, 3, 3, []) (n_v vs 6) := t6
  have k6 : 3 ≤ v_iv (n_v vs 6) ∧ v_iv (n_v vs 6) ≤ 3 := tv_rng t6
  have hf : fc_ok [(7, [5, 6], [3]), (20, [3, 2, 5], [30, 0, 1, 1, 170, -1, 0, 0, -1, 0, 0]), (24, [0, 3], [])] ta ws vs := hf
  obtain ⟨f0, hf⟩ := fc_un (show (7 : Nat) < 100 from by decide) hf
  have f0 : v_iv (n_v vs 6) ≤ v_iv (n_v vs 5) := f0
  obtain ⟨f1, hf⟩ := fc_un (show (20 : Nat) < 100 from by decide) hf
  have f1 : 1 * w_fi ws (n_v vs 3) 170 + ((-1) * v_iv (n_v vs 2) + ((-1) * v_iv (n_v vs 5) + 0)) ≤ 0 := f1
  obtain ⟨f2, hf⟩ := fc_un (show (24 : Nat) < 100 from by decide) hf
  have f2 : n_v vs 0 = n_v vs 3 := f2
  have q3 : n_v vs 3 = n_v vs 0 := f2.symm
  rw [q3] at f1
  have kz_0_170 : 0 ≤ w_fi ws (n_v vs 0) 170 ∧ w_fi ws (n_v vs 0) 170 ≤ 100000000 := tv_rng (th_fd hD hth r0 (g := GG_150) rfl (k := 170) (t := (0, 0, 100000000, [])) rfl rfl)
  have nf0 : fc_1 (20, [0, 2], [30, 3, 1, 1, 170, -1, 0, 0]) ws (vs) := by
    refine ⟨fun n hn => ?_, ?_⟩
    · have hn : n ∈ [0, 2] := hn
      rw [hl]
      simp only [List.mem_cons, List.not_mem_nil, or_false] at hn
      show n < 7; omega
    · show 1 * w_fi ws (n_v vs 0) 170 + ((-1) * v_iv (n_v vs 2) + 0) ≤ 3
      omega
  refine ⟨(fun _ h => (by cases h)), [], trivial, ?_, (fun _ h => (by cases h))⟩
  rw [List.append_nil]
  exact List.forall_mem_cons.mpr ⟨⟨show (20 : Nat) < 100 from by decide, nf0⟩, (fun _ h => (by cases h))⟩
def o_Mo_write_at_s5017_2 : or_T := (16, 8, [(0, (2, 0, 0, [150])), (2, (0, 0, 99999997, [])), (3, (2, 0, 0, [150])), (5, (0, 0, 2, [])), (6, (0, 3, 3, []))], [(7, [5, 6], [2]), (20, [3, 2, 5], [30, 0, 1, 1, 170, -1, 0, 0, -1, 0, 0]), (24, [0, 3], [])], [], [(0, 0, 99999999, [])], [(20, [3, 8], [30, 0, 1, 1, 170, -1, 0, 0]), (23, [8, 2, 5], [0, 1, -1, -1])], [], [])
theorem oo_Mo_write_at_s5017_2 {kA : Nat → ClassId} : or_ok kA GG o_Mo_write_at_s5017_2 := by
  intro A ta ws vs hD hth hl hk hds hf
  have hl : vs.length = 8 := hl
  have hk : ∀ q ∈ ([(0, (2, 0, 0, [150])), (2, (0, 0, 99999997, [])), (3, (2, 0, 0, [150])), (5, (0, 0, 2, [])), (6, (0, 3, 3, []))] : List (Nat × tv_T)), tv_ok ta q.2 (n_v vs q.1) := hk
  obtain ⟨t0, hk⟩ := List.forall_mem_cons.mp hk
  have t0 : tv_ok ta (2, 0, 0, [150]) (n_v vs 0) := t0
  have r0 : ta (v_ad (n_v vs 0)) = some 150 := tv_rg t0
  obtain ⟨t2, hk⟩ := List.forall_mem_cons.mp hk
  have t2 : tv_ok ta (0, 0, 99999997, []) (n_v vs 2) := t2
  have k2 : 0 ≤ v_iv (n_v vs 2) ∧ v_iv (n_v vs 2) ≤ 99999997 := tv_rng t2
  obtain ⟨t3, hk⟩ := List.forall_mem_cons.mp hk
  have t3 : tv_ok ta (2, 0, 0, [150]) (n_v vs 3) := t3
  have r3 : ta (v_ad (n_v vs 3)) = some 150 := tv_rg t3
  obtain ⟨t5, hk⟩ := List.forall_mem_cons.mp hk
  have t5 : tv_ok ta (0, 0, 2, []) (n_v vs 5) := t5
  have k5 : 0 ≤ v_iv (n_v vs 5) ∧ v_iv (n_v vs 5) ≤ 2 := tv_rng t5
  obtain ⟨t6, hk⟩ := List.forall_mem_cons.mp hk
  have t6 : tv_ok ta (0, 3, 3, []) (n_v vs 6) := t6
  have k6 : 3 ≤ v_iv (n_v vs 6) ∧ v_iv (n_v vs 6) ≤ 3 := tv_rng t6
  have hf : fc_ok [(7, [5, 6], [2]), (20, [3, 2, 5], [30, 0, 1, 1, 170, -1, 0, 0, -1, 0, 0]), (24, [0, 3], [])] ta ws vs := hf
  obtain ⟨f0, hf⟩ := fc_un (show (7 : Nat) < 100 from by decide) hf
  have f0 : v_iv (n_v vs 5) < v_iv (n_v vs 6) := f0
  obtain ⟨f1, hf⟩ := fc_un (show (20 : Nat) < 100 from by decide) hf
  have f1 : 1 * w_fi ws (n_v vs 3) 170 + ((-1) * v_iv (n_v vs 2) + ((-1) * v_iv (n_v vs 5) + 0)) ≤ 0 := f1
  obtain ⟨f2, hf⟩ := fc_un (show (24 : Nat) < 100 from by decide) hf
  have f2 : n_v vs 0 = n_v vs 3 := f2
  have q3 : n_v vs 3 = n_v vs 0 := f2.symm
  rw [q3] at f1
  have kz_0_170 : 0 ≤ w_fi ws (n_v vs 0) 170 ∧ w_fi ws (n_v vs 0) 170 ≤ 100000000 := tv_rng (th_fd hD hth r0 (g := GG_150) rfl (k := 170) (t := (0, 0, 100000000, [])) rfl rfl)
  have kv0 : 0 ≤ w_fi ws (n_v vs 0) 170 ∧ w_fi ws (n_v vs 0) 170 ≤ 100000000 := tv_rng (th_fd hD hth r0 (g := GG_150) rfl (k := 170) (t := (0, 0, 100000000, [])) rfl rfl)
  obtain ⟨x, ex, hx⟩ := iv_ex (ta := ta) (lo := 0) (hi := 99999999) (z := w_fi ws (n_v vs 0) 170) (by omega) (by omega) (by omega) (by omega)
  have ex2 : v_iv (Value.int x) = w_fi ws (n_v vs 0) 170 := ex
  have ex3 : 0 ≤ v_iv (Value.int x) ∧ v_iv (Value.int x) ≤ 99999999 := tv_rng hx
  have e_2 : n_v (vs ++ [Value.int x]) 2 = n_v vs 2 := n_v_old (by rw [hl]; decide)
  have e_3 : n_v (vs ++ [Value.int x]) 3 = n_v vs 3 := n_v_old (by rw [hl]; decide)
  have e_5 : n_v (vs ++ [Value.int x]) 5 = n_v vs 5 := n_v_old (by rw [hl]; decide)
  have e_8 : n_v (vs ++ [Value.int x]) 8 = Value.int x := n_v_new hl
  have nf0 : fc_1 (20, [3, 8], [30, 0, 1, 1, 170, -1, 0, 0]) ws (vs ++ [Value.int x]) := by
    refine ⟨fun n hn => ?_, ?_⟩
    · have hn : n ∈ [3, 8] := hn
      rw [List.length_append, hl]
      simp only [List.mem_cons, List.not_mem_nil, or_false] at hn
      show n < 8 + 1; omega
    · show 1 * w_fi ws (n_v (vs ++ [Value.int x]) 3) 170 + ((-1) * v_iv (n_v (vs ++ [Value.int x]) 8) + 0) ≤ 0
      rw [e_3]
      rw [e_8]
      rw [q3]
      omega
  have nf1 : fc_1 (23, [8, 2, 5], [0, 1, -1, -1]) ws (vs ++ [Value.int x]) := by
    refine ⟨fun n hn => ?_, ?_⟩
    · have hn : n ∈ [8, 2, 5] := hn
      rw [List.length_append, hl]
      simp only [List.mem_cons, List.not_mem_nil, or_false] at hn
      show n < 8 + 1; omega
    · show 1 * v_iv (n_v (vs ++ [Value.int x]) 8) + ((-1) * v_iv (n_v (vs ++ [Value.int x]) 2) + ((-1) * v_iv (n_v (vs ++ [Value.int x]) 5) + 0)) ≤ 0
      rw [e_2]
      rw [e_5]
      rw [e_8]
      omega
  exact ⟨(fun _ h => (by cases h)), [Value.int x], ag_one hx, List.forall_mem_cons.mpr ⟨⟨show (20 : Nat) < 100 from by decide, nf0⟩, List.forall_mem_cons.mpr ⟨⟨show (23 : Nat) < 100 from by decide, nf1⟩, (fun _ h => (by cases h))⟩⟩, (fun _ h => (by cases h))⟩
def o_Mo_write_at_s5017_3 : or_T := (2, 10, [(0, (2, 0, 0, [150])), (2, (0, 0, 99999997, [])), (3, (2, 0, 0, [150])), (5, (0, 0, 2, [])), (6, (0, 3, 3, [])), (8, (0, 0, 99999999, [])), (9, (0, 1, 3, []))], [(6, [9, 5], [1]), (23, [8, 2, 5], [0, 1, -1, -1]), (24, [0, 3], []), (20, [3, 8], [30, 1, 1, 1, 170, -1, 0, 0]), (102, [8], [237142198758023568227473377297792835283496928595231875152809132048206089502588928, 13170]), (23, [8, 2, 5], [0, 1, -1, -1]), (7, [5, 6], [2])], [], [], [(20, [3, 2, 9], [30, 0, 1, 1, 170, -1, 0, 0, -1, 0, 0])], [], [(9, 5, 1, 1)])
theorem oo_Mo_write_at_s5017_3 {kA : Nat → ClassId} : or_ok kA GG o_Mo_write_at_s5017_3 := by
  intro A ta ws vs hD hth hl hk hds hf
  have hl : vs.length = 10 := hl
  have hk : ∀ q ∈ ([(0, (2, 0, 0, [150])), (2, (0, 0, 99999997, [])), (3, (2, 0, 0, [150])), (5, (0, 0, 2, [])), (6, (0, 3, 3, [])), (8, (0, 0, 99999999, [])), (9, (0, 1, 3, []))] : List (Nat × tv_T)), tv_ok ta q.2 (n_v vs q.1) := hk
  obtain ⟨t0, hk⟩ := List.forall_mem_cons.mp hk
  have t0 : tv_ok ta (2, 0, 0, [150]) (n_v vs 0) := t0
  have r0 : ta (v_ad (n_v vs 0)) = some 150 := tv_rg t0
  obtain ⟨t2, hk⟩ := List.forall_mem_cons.mp hk
  have t2 : tv_ok ta (0, 0, 99999997, []) (n_v vs 2) := t2
  have k2 : 0 ≤ v_iv (n_v vs 2) ∧ v_iv (n_v vs 2) ≤ 99999997 := tv_rng t2
  obtain ⟨t3, hk⟩ := List.forall_mem_cons.mp hk
  have t3 : tv_ok ta (2, 0, 0, [150]) (n_v vs 3) := t3
  have r3 : ta (v_ad (n_v vs 3)) = some 150 := tv_rg t3
  obtain ⟨t5, hk⟩ := List.forall_mem_cons.mp hk
  have t5 : tv_ok ta (0, 0, 2, []) (n_v vs 5) := t5
  have k5 : 0 ≤ v_iv (n_v vs 5) ∧ v_iv (n_v vs 5) ≤ 2 := tv_rng t5
  obtain ⟨t6, hk⟩ := List.forall_mem_cons.mp hk
  have t6 : tv_ok ta (0, 3, 3, []) (n_v vs 6) := t6
  have k6 : 3 ≤ v_iv (n_v vs 6) ∧ v_iv (n_v vs 6) ≤ 3 := tv_rng t6
  obtain ⟨t8, hk⟩ := List.forall_mem_cons.mp hk
  have t8 : tv_ok ta (0, 0, 99999999, []) (n_v vs 8) := t8
  have k8 : 0 ≤ v_iv (n_v vs 8) ∧ v_iv (n_v vs 8) ≤ 99999999 := tv_rng t8
  obtain ⟨t9, hk⟩ := List.forall_mem_cons.mp hk
  have t9 : tv_ok ta (0, 1, 3, []) (n_v vs 9) := t9
  have k9 : 1 ≤ v_iv (n_v vs 9) ∧ v_iv (n_v vs 9) ≤ 3 := tv_rng t9
  have hds : ∀ q ∈ ([(9, 5, 1, 1)] : List of_T), n_iv vs q.2.1 + q.2.2.1 ≤ n_iv vs q.1 ∧ n_iv vs q.1 ≤ n_iv vs q.2.1 + q.2.2.2 := hds
  obtain ⟨d0, hds⟩ := List.forall_mem_cons.mp hds
  have d0 : v_iv (n_v vs 5) + 1 ≤ v_iv (n_v vs 9) ∧ v_iv (n_v vs 9) ≤ v_iv (n_v vs 5) + 1 := d0
  have hf : fc_ok [(6, [9, 5], [1]), (23, [8, 2, 5], [0, 1, -1, -1]), (24, [0, 3], []), (20, [3, 8], [30, 1, 1, 1, 170, -1, 0, 0]), (102, [8], [237142198758023568227473377297792835283496928595231875152809132048206089502588928, 13170]), (23, [8, 2, 5], [0, 1, -1, -1]), (7, [5, 6], [2])] ta ws vs := hf
  obtain ⟨f0, hf⟩ := fc_un (show (6 : Nat) < 100 from by decide) hf
  have f0 : v_iv (n_v vs 9) = v_iv (n_v vs 5) + 1 := f0
  obtain ⟨f1, hf⟩ := fc_un (show (23 : Nat) < 100 from by decide) hf
  have f1 : 1 * v_iv (n_v vs 8) + ((-1) * v_iv (n_v vs 2) + ((-1) * v_iv (n_v vs 5) + 0)) ≤ 0 := f1
  obtain ⟨f2, hf⟩ := fc_un (show (24 : Nat) < 100 from by decide) hf
  have f2 : n_v vs 0 = n_v vs 3 := f2
  obtain ⟨f3, hf⟩ := fc_un (show (20 : Nat) < 100 from by decide) hf
  have f3 : 1 * w_fi ws (n_v vs 3) 170 + ((-1) * v_iv (n_v vs 8) + 0) ≤ 1 := f3
  obtain ⟨ta1, w1, le1, ⟨_, s1⟩, hf⟩ := fc_us (show ¬ (102 : Nat) < 100 from by decide) hf
  obtain ⟨f5, hf⟩ := fc_un (show (23 : Nat) < 100 from by decide) hf
  have f5 : 1 * v_iv (n_v vs 8) + ((-1) * v_iv (n_v vs 2) + ((-1) * v_iv (n_v vs 5) + 0)) ≤ 0 := f5
  obtain ⟨f6, hf⟩ := fc_un (show (7 : Nat) < 100 from by decide) hf
  have f6 : v_iv (n_v vs 5) < v_iv (n_v vs 6) := f6
  have q3 : n_v vs 3 = n_v vs 0 := f2.symm
  rw [q3] at f3
  have kz_0_170 : 0 ≤ w_fi ws (n_v vs 0) 170 ∧ w_fi ws (n_v vs 0) 170 ≤ 100000000 := tv_rng (th_fd hD hth r0 (g := GG_150) rfl (k := 170) (t := (0, 0, 100000000, [])) rfl rfl)
  have nf0 : fc_1 (20, [3, 2, 9], [30, 0, 1, 1, 170, -1, 0, 0, -1, 0, 0]) ws (vs) := by
    refine ⟨fun n hn => ?_, ?_⟩
    · have hn : n ∈ [3, 2, 9] := hn
      rw [hl]
      simp only [List.mem_cons, List.not_mem_nil, or_false] at hn
      show n < 10; omega
    · show 1 * w_fi ws (n_v vs 3) 170 + ((-1) * v_iv (n_v vs 2) + ((-1) * v_iv (n_v vs 9) + 0)) ≤ 0
      rw [q3]
      omega
  refine ⟨(fun _ h => (by cases h)), [], trivial, ?_, (fun _ h => (by cases h))⟩
  rw [List.append_nil]
  exact List.forall_mem_cons.mpr ⟨⟨show (20 : Nat) < 100 from by decide, nf0⟩, (fun _ h => (by cases h))⟩
def n_Mo_write_at_s5017_an : List an_T := [(2, [(0, (2, 0, 0, [150])), (1, (2, 0, 0, [5017])), (2, (0, 0, 3, []))], [], (0, 0), [(0, 0, 99998), (1, 5, 3), (0, 0, 100000)], [], [], [(2, 0, 0, [150]), (2, 0, 0, [5017]), (0, 0, 99999997, [])], 0, [], [(20, [3, 2, 5], [30, 0, 1, 1, 170, -1, 0, 0, -1, 0, 0]), (24, [0, 3], [])])]
def t_Mo_write_at_s5017_ct : ct_L := [(16, 448, e_jStr_length_v207), (43, 453, e_jStr_charAt_v208), (52, 1280, e_Mo_write1)]
set_option maxRecDepth 100000 in
theorem c_Mo_write_at_s5017 {l : Launch} {D : va_G} {kA : Nat → ClassId} (h_Mo_write1 : ct_ok l D kA GG y_Mo_write1 z_Mo_write1 e_Mo_write1) : ct_ok l D kA GG y_Mo_write_at_s5017 z_Mo_write_at_s5017 e_Mo_write_at_s5017 := chk_all_ok (FT := []) (PT := []) (CT := t_Mo_write_at_s5017_ct) (KT := []) (NT := []) (AN := n_Mo_write_at_s5017_an) (OT := [o_Mo_write_at_s5017_0, o_Mo_write_at_s5017_1, o_Mo_write_at_s5017_2, o_Mo_write_at_s5017_3]) 3 200 (List.forall_mem_cons.mpr ⟨oo_Mo_write_at_s5017_0, List.forall_mem_cons.mpr ⟨oo_Mo_write_at_s5017_1, List.forall_mem_cons.mpr ⟨oo_Mo_write_at_s5017_2, List.forall_mem_cons.mpr ⟨oo_Mo_write_at_s5017_3, List.forall_mem_nil _⟩⟩⟩⟩) (by decide +kernel) ⟨List.forall_mem_nil _, List.forall_mem_nil _, List.forall_mem_cons.mpr ⟨cl_string (y := y_jStr_length) (i := 17) rfl rfl (by decide +kernel) rfl c_jStr_length_v207 wm_674 wm_11 wm_3003 wm_672 wm_673 ⟨by decide, by decide, by decide +kernel⟩ (by decide), List.forall_mem_cons.mpr ⟨cl_string (y := y_jStr_charAt) (i := 17) rfl rfl (by decide +kernel) rfl c_jStr_charAt_v208 wm_684 wm_11 wm_3004 wm_682 wm_683 ⟨by decide, by decide, by decide +kernel⟩ (by decide), List.forall_mem_cons.mpr ⟨cl_virtual (y := y_Mo_write1) (ci := 13) rfl rfl ⟨_, _, rfl⟩ (by decide +kernel) h_Mo_write1 wm_3914 wm_9 wm_3911 wm_3913 wv_24_8 ⟨by decide, by decide, by decide +kernel⟩ (by decide), List.forall_mem_nil _⟩⟩⟩, List.forall_mem_nil _, List.forall_mem_nil _, GG_pl⟩ (by decide +kernel)
def o_Mo_write_at_s5018_0 : or_T := (2, 4, [(0, (2, 0, 0, [150])), (2, (0, 0, 99999998, [])), (3, (0, 0, 0, []))], [(20, [0, 2], [30, 0, 1, 1, 170, -1, 0, 0])], [], [], [(20, [0, 2, 3], [30, 0, 1, 1, 170, -1, 0, 0, -1, 0, 0]), (24, [0, 0], [])], [], [])
theorem oo_Mo_write_at_s5018_0 {kA : Nat → ClassId} : or_ok kA GG o_Mo_write_at_s5018_0 := by
  intro A ta ws vs hD hth hl hk hds hf
  have hl : vs.length = 4 := hl
  have hk : ∀ q ∈ ([(0, (2, 0, 0, [150])), (2, (0, 0, 99999998, [])), (3, (0, 0, 0, []))] : List (Nat × tv_T)), tv_ok ta q.2 (n_v vs q.1) := hk
  obtain ⟨t0, hk⟩ := List.forall_mem_cons.mp hk
  have t0 : tv_ok ta (2, 0, 0, [150]) (n_v vs 0) := t0
  have r0 : ta (v_ad (n_v vs 0)) = some 150 := tv_rg t0
  obtain ⟨t2, hk⟩ := List.forall_mem_cons.mp hk
  have t2 : tv_ok ta (0, 0, 99999998, []) (n_v vs 2) := t2
  have k2 : 0 ≤ v_iv (n_v vs 2) ∧ v_iv (n_v vs 2) ≤ 99999998 := tv_rng t2
  obtain ⟨t3, hk⟩ := List.forall_mem_cons.mp hk
  have t3 : tv_ok ta (0, 0, 0, []) (n_v vs 3) := t3
  have k3 : 0 ≤ v_iv (n_v vs 3) ∧ v_iv (n_v vs 3) ≤ 0 := tv_rng t3
  have hf : fc_ok [(20, [0, 2], [30, 0, 1, 1, 170, -1, 0, 0])] ta ws vs := hf
  obtain ⟨f0, hf⟩ := fc_un (show (20 : Nat) < 100 from by decide) hf
  have f0 : 1 * w_fi ws (n_v vs 0) 170 + ((-1) * v_iv (n_v vs 2) + 0) ≤ 0 := f0
  have kz_0_170 : 0 ≤ w_fi ws (n_v vs 0) 170 ∧ w_fi ws (n_v vs 0) 170 ≤ 100000000 := tv_rng (th_fd hD hth r0 (g := GG_150) rfl (k := 170) (t := (0, 0, 100000000, [])) rfl rfl)
  have nf0 : fc_1 (20, [0, 2, 3], [30, 0, 1, 1, 170, -1, 0, 0, -1, 0, 0]) ws (vs) := by
    refine ⟨fun n hn => ?_, ?_⟩
    · have hn : n ∈ [0, 2, 3] := hn
      rw [hl]
      simp only [List.mem_cons, List.not_mem_nil, or_false] at hn
      show n < 4; omega
    · show 1 * w_fi ws (n_v vs 0) 170 + ((-1) * v_iv (n_v vs 2) + ((-1) * v_iv (n_v vs 3) + 0)) ≤ 0
      omega
  have nf1 : fc_1 (24, [0, 0], []) ws (vs) := by
    refine ⟨fun n hn => ?_, ?_⟩
    · have hn : n ∈ [0, 0] := hn
      rw [hl]
      simp only [List.mem_cons, List.not_mem_nil, or_false] at hn
      show n < 4; omega
    · show n_v vs 0 = n_v vs 0
      first | rfl | simp only [true_and]
  refine ⟨(fun _ h => (by cases h)), [], trivial, ?_, (fun _ h => (by cases h))⟩
  rw [List.append_nil]
  exact List.forall_mem_cons.mpr ⟨⟨show (20 : Nat) < 100 from by decide, nf0⟩, List.forall_mem_cons.mpr ⟨⟨show (24 : Nat) < 100 from by decide, nf1⟩, (fun _ h => (by cases h))⟩⟩
def o_Mo_write_at_s5018_1 : or_T := (25, 7, [(0, (2, 0, 0, [150])), (2, (0, 0, 99999998, [])), (3, (2, 0, 0, [150])), (5, (0, 2, 2, [])), (6, (0, 2, 2, []))], [(7, [5, 6], [3]), (20, [3, 2, 5], [30, 0, 1, 1, 170, -1, 0, 0, -1, 0, 0]), (24, [0, 3], [])], [], [], [(20, [0, 2], [30, 2, 1, 1, 170, -1, 0, 0])], [], [(5, 2, -4294967296, 2)])
theorem oo_Mo_write_at_s5018_1 {kA : Nat → ClassId} : or_ok kA GG o_Mo_write_at_s5018_1 := by
  intro A ta ws vs hD hth hl hk hds hf
  have hl : vs.length = 7 := hl
  have hk : ∀ q ∈ ([(0, (2, 0, 0, [150])), (2, (0, 0, 99999998, [])), (3, (2, 0, 0, [150])), (5, (0, 2, 2, [])), (6, (0, 2, 2, []))] : List (Nat × tv_T)), tv_ok ta q.2 (n_v vs q.1) := hk
  obtain ⟨t0, hk⟩ := List.forall_mem_cons.mp hk
  have t0 : tv_ok ta (2, 0, 0, [150]) (n_v vs 0) := t0
  have r0 : ta (v_ad (n_v vs 0)) = some 150 := tv_rg t0
  obtain ⟨t2, hk⟩ := List.forall_mem_cons.mp hk
  have t2 : tv_ok ta (0, 0, 99999998, []) (n_v vs 2) := t2
  have k2 : 0 ≤ v_iv (n_v vs 2) ∧ v_iv (n_v vs 2) ≤ 99999998 := tv_rng t2
  obtain ⟨t3, hk⟩ := List.forall_mem_cons.mp hk
  have t3 : tv_ok ta (2, 0, 0, [150]) (n_v vs 3) := t3
  have r3 : ta (v_ad (n_v vs 3)) = some 150 := tv_rg t3
  obtain ⟨t5, hk⟩ := List.forall_mem_cons.mp hk
  have t5 : tv_ok ta (0, 2, 2, []) (n_v vs 5) := t5
  have k5 : 2 ≤ v_iv (n_v vs 5) ∧ v_iv (n_v vs 5) ≤ 2 := tv_rng t5
  obtain ⟨t6, hk⟩ := List.forall_mem_cons.mp hk
  have t6 : tv_ok ta (0, 2, 2, []) (n_v vs 6) := t6
  have k6 : 2 ≤ v_iv (n_v vs 6) ∧ v_iv (n_v vs 6) ≤ 2 := tv_rng t6
  have hds : ∀ q ∈ ([(5, 2, -4294967296, 2)] : List of_T), n_iv vs q.2.1 + q.2.2.1 ≤ n_iv vs q.1 ∧ n_iv vs q.1 ≤ n_iv vs q.2.1 + q.2.2.2 := hds
  obtain ⟨d0, hds⟩ := List.forall_mem_cons.mp hds
  have d0 : v_iv (n_v vs 2) + (-4294967296) ≤ v_iv (n_v vs 5) ∧ v_iv (n_v vs 5) ≤ v_iv (n_v vs 2) + 2 := d0
  have hf : fc_ok [(7, [5, 6], [3]), (20, [3, 2, 5], [30, 0, 1, 1, 170, -1, 0, 0, -1, 0, 0]), (24, [0, 3], [])] ta ws vs := hf
  obtain ⟨f0, hf⟩ := fc_un (show (7 : Nat) < 100 from by decide) hf
  have f0 : v_iv (n_v vs 6) ≤ v_iv (n_v vs 5) := f0
  obtain ⟨f1, hf⟩ := fc_un (show (20 : Nat) < 100 from by decide) hf
  have f1 : 1 * w_fi ws (n_v vs 3) 170 + ((-1) * v_iv (n_v vs 2) + ((-1) * v_iv (n_v vs 5) + 0)) ≤ 0 := f1
  obtain ⟨f2, hf⟩ := fc_un (show (24 : Nat) < 100 from by decide) hf
  have f2 : n_v vs 0 = n_v vs 3 := f2
  have q3 : n_v vs 3 = n_v vs 0 := f2.symm
  rw [q3] at f1
  have kz_0_170 : 0 ≤ w_fi ws (n_v vs 0) 170 ∧ w_fi ws (n_v vs 0) 170 ≤ 100000000 := tv_rng (th_fd hD hth r0 (g := GG_150) rfl (k := 170) (t := (0, 0, 100000000, [])) rfl rfl)
  have nf0 : fc_1 (20, [0, 2], [30, 2, 1, 1, 170, -1, 0, 0]) ws (vs) := by
    refine ⟨fun n hn => ?_, ?_⟩
    · have hn : n ∈ [0, 2] := hn
      rw [hl]
      simp only [List.mem_cons, List.not_mem_nil, or_false] at hn
      show n < 7; omega
    · show 1 * w_fi ws (n_v vs 0) 170 + ((-1) * v_iv (n_v vs 2) + 0) ≤ 2
      omega
  refine ⟨(fun _ h => (by cases h)), [], trivial, ?_, (fun _ h => (by cases h))⟩
  rw [List.append_nil]
  exact List.forall_mem_cons.mpr ⟨⟨show (20 : Nat) < 100 from by decide, nf0⟩, (fun _ h => (by cases h))⟩
def o_Mo_write_at_s5018_2 : or_T := (16, 8, [(0, (2, 0, 0, [150])), (2, (0, 0, 99999998, [])), (3, (2, 0, 0, [150])), (5, (0, 0, 1, [])), (6, (0, 2, 2, []))], [(7, [5, 6], [2]), (20, [3, 2, 5], [30, 0, 1, 1, 170, -1, 0, 0, -1, 0, 0]), (24, [0, 3], [])], [], [(0, 0, 99999999, [])], [(20, [3, 8], [30, 0, 1, 1, 170, -1, 0, 0]), (23, [8, 2, 5], [0, 1, -1, -1])], [], [(5, 2, -4294967296, 2)])
theorem oo_Mo_write_at_s5018_2 {kA : Nat → ClassId} : or_ok kA GG o_Mo_write_at_s5018_2 := by
  intro A ta ws vs hD hth hl hk hds hf
  have hl : vs.length = 8 := hl
  have hk : ∀ q ∈ ([(0, (2, 0, 0, [150])), (2, (0, 0, 99999998, [])), (3, (2, 0, 0, [150])), (5, (0, 0, 1, [])), (6, (0, 2, 2, []))] : List (Nat × tv_T)), tv_ok ta q.2 (n_v vs q.1) := hk
  obtain ⟨t0, hk⟩ := List.forall_mem_cons.mp hk
  have t0 : tv_ok ta (2, 0, 0, [150]) (n_v vs 0) := t0
  have r0 : ta (v_ad (n_v vs 0)) = some 150 := tv_rg t0
  obtain ⟨t2, hk⟩ := List.forall_mem_cons.mp hk
  have t2 : tv_ok ta (0, 0, 99999998, []) (n_v vs 2) := t2
  have k2 : 0 ≤ v_iv (n_v vs 2) ∧ v_iv (n_v vs 2) ≤ 99999998 := tv_rng t2
  obtain ⟨t3, hk⟩ := List.forall_mem_cons.mp hk
  have t3 : tv_ok ta (2, 0, 0, [150]) (n_v vs 3) := t3
  have r3 : ta (v_ad (n_v vs 3)) = some 150 := tv_rg t3
  obtain ⟨t5, hk⟩ := List.forall_mem_cons.mp hk
  have t5 : tv_ok ta (0, 0, 1, []) (n_v vs 5) := t5
  have k5 : 0 ≤ v_iv (n_v vs 5) ∧ v_iv (n_v vs 5) ≤ 1 := tv_rng t5
  obtain ⟨t6, hk⟩ := List.forall_mem_cons.mp hk
  have t6 : tv_ok ta (0, 2, 2, []) (n_v vs 6) := t6
  have k6 : 2 ≤ v_iv (n_v vs 6) ∧ v_iv (n_v vs 6) ≤ 2 := tv_rng t6
  have hds : ∀ q ∈ ([(5, 2, -4294967296, 2)] : List of_T), n_iv vs q.2.1 + q.2.2.1 ≤ n_iv vs q.1 ∧ n_iv vs q.1 ≤ n_iv vs q.2.1 + q.2.2.2 := hds
  obtain ⟨d0, hds⟩ := List.forall_mem_cons.mp hds
  have d0 : v_iv (n_v vs 2) + (-4294967296) ≤ v_iv (n_v vs 5) ∧ v_iv (n_v vs 5) ≤ v_iv (n_v vs 2) + 2 := d0
  have hf : fc_ok [(7, [5, 6], [2]), (20, [3, 2, 5], [30, 0, 1, 1, 170, -1, 0, 0, -1, 0, 0]), (24, [0, 3], [])] ta ws vs := hf
  obtain ⟨f0, hf⟩ := fc_un (show (7 : Nat) < 100 from by decide) hf
  have f0 : v_iv (n_v vs 5) < v_iv (n_v vs 6) := f0
  obtain ⟨f1, hf⟩ := fc_un (show (20 : Nat) < 100 from by decide) hf
  have f1 : 1 * w_fi ws (n_v vs 3) 170 + ((-1) * v_iv (n_v vs 2) + ((-1) * v_iv (n_v vs 5) + 0)) ≤ 0 := f1
  obtain ⟨f2, hf⟩ := fc_un (show (24 : Nat) < 100 from by decide) hf
  have f2 : n_v vs 0 = n_v vs 3 := f2
  have q3 : n_v vs 3 = n_v vs 0 := f2.symm
  rw [q3] at f1
  have kz_0_170 : 0 ≤ w_fi ws (n_v vs 0) 170 ∧ w_fi ws (n_v vs 0) 170 ≤ 100000000 := tv_rng (th_fd hD hth r0 (g := GG_150) rfl (k := 170) (t := (0, 0, 100000000, [])) rfl rfl)
  have kv0 : 0 ≤ w_fi ws (n_v vs 0) 170 ∧ w_fi ws (n_v vs 0) 170 ≤ 100000000 := tv_rng (th_fd hD hth r0 (g := GG_150) rfl (k := 170) (t := (0, 0, 100000000, [])) rfl rfl)
  obtain ⟨x, ex, hx⟩ := iv_ex (ta := ta) (lo := 0) (hi := 99999999) (z := w_fi ws (n_v vs 0) 170) (by omega) (by omega) (by omega) (by omega)
  have ex2 : v_iv (Value.int x) = w_fi ws (n_v vs 0) 170 := ex
  have ex3 : 0 ≤ v_iv (Value.int x) ∧ v_iv (Value.int x) ≤ 99999999 := tv_rng hx
  have e_2 : n_v (vs ++ [Value.int x]) 2 = n_v vs 2 := n_v_old (by rw [hl]; decide)
  have e_3 : n_v (vs ++ [Value.int x]) 3 = n_v vs 3 := n_v_old (by rw [hl]; decide)
  have e_5 : n_v (vs ++ [Value.int x]) 5 = n_v vs 5 := n_v_old (by rw [hl]; decide)
  have e_8 : n_v (vs ++ [Value.int x]) 8 = Value.int x := n_v_new hl
  have nf0 : fc_1 (20, [3, 8], [30, 0, 1, 1, 170, -1, 0, 0]) ws (vs ++ [Value.int x]) := by
    refine ⟨fun n hn => ?_, ?_⟩
    · have hn : n ∈ [3, 8] := hn
      rw [List.length_append, hl]
      simp only [List.mem_cons, List.not_mem_nil, or_false] at hn
      show n < 8 + 1; omega
    · show 1 * w_fi ws (n_v (vs ++ [Value.int x]) 3) 170 + ((-1) * v_iv (n_v (vs ++ [Value.int x]) 8) + 0) ≤ 0
      rw [e_3]
      rw [e_8]
      rw [q3]
      omega
  have nf1 : fc_1 (23, [8, 2, 5], [0, 1, -1, -1]) ws (vs ++ [Value.int x]) := by
    refine ⟨fun n hn => ?_, ?_⟩
    · have hn : n ∈ [8, 2, 5] := hn
      rw [List.length_append, hl]
      simp only [List.mem_cons, List.not_mem_nil, or_false] at hn
      show n < 8 + 1; omega
    · show 1 * v_iv (n_v (vs ++ [Value.int x]) 8) + ((-1) * v_iv (n_v (vs ++ [Value.int x]) 2) + ((-1) * v_iv (n_v (vs ++ [Value.int x]) 5) + 0)) ≤ 0
      rw [e_2]
      rw [e_5]
      rw [e_8]
      omega
  exact ⟨(fun _ h => (by cases h)), [Value.int x], ag_one hx, List.forall_mem_cons.mpr ⟨⟨show (20 : Nat) < 100 from by decide, nf0⟩, List.forall_mem_cons.mpr ⟨⟨show (23 : Nat) < 100 from by decide, nf1⟩, (fun _ h => (by cases h))⟩⟩, (fun _ h => (by cases h))⟩
def o_Mo_write_at_s5018_3 : or_T := (2, 10, [(0, (2, 0, 0, [150])), (2, (0, 0, 99999998, [])), (3, (2, 0, 0, [150])), (5, (0, 0, 1, [])), (6, (0, 2, 2, [])), (8, (0, 0, 99999999, [])), (9, (0, 1, 2, []))], [(6, [9, 5], [1]), (23, [8, 2, 5], [0, 1, -1, -1]), (24, [0, 3], []), (20, [3, 8], [30, 1, 1, 1, 170, -1, 0, 0]), (102, [8], [237142198758023568227473377297792835283496928595231875152809132048206089502588928, 13170]), (23, [8, 2, 5], [0, 1, -1, -1]), (7, [5, 6], [2])], [], [], [(20, [3, 2, 9], [30, 0, 1, 1, 170, -1, 0, 0, -1, 0, 0])], [], [(9, 5, 1, 1), (9, 2, -4294967296, 3), (5, 2, -4294967296, 2)])
theorem oo_Mo_write_at_s5018_3 {kA : Nat → ClassId} : or_ok kA GG o_Mo_write_at_s5018_3 := by
  intro A ta ws vs hD hth hl hk hds hf
  have hl : vs.length = 10 := hl
  have hk : ∀ q ∈ ([(0, (2, 0, 0, [150])), (2, (0, 0, 99999998, [])), (3, (2, 0, 0, [150])), (5, (0, 0, 1, [])), (6, (0, 2, 2, [])), (8, (0, 0, 99999999, [])), (9, (0, 1, 2, []))] : List (Nat × tv_T)), tv_ok ta q.2 (n_v vs q.1) := hk
  obtain ⟨t0, hk⟩ := List.forall_mem_cons.mp hk
  have t0 : tv_ok ta (2, 0, 0, [150]) (n_v vs 0) := t0
  have r0 : ta (v_ad (n_v vs 0)) = some 150 := tv_rg t0
  obtain ⟨t2, hk⟩ := List.forall_mem_cons.mp hk
  have t2 : tv_ok ta (0, 0, 99999998, []) (n_v vs 2) := t2
  have k2 : 0 ≤ v_iv (n_v vs 2) ∧ v_iv (n_v vs 2) ≤ 99999998 := tv_rng t2
  obtain ⟨t3, hk⟩ := List.forall_mem_cons.mp hk
  have t3 : tv_ok ta (2, 0, 0, [150]) (n_v vs 3) := t3
  have r3 : ta (v_ad (n_v vs 3)) = some 150 := tv_rg t3
  obtain ⟨t5, hk⟩ := List.forall_mem_cons.mp hk
  have t5 : tv_ok ta (0, 0, 1, []) (n_v vs 5) := t5
  have k5 : 0 ≤ v_iv (n_v vs 5) ∧ v_iv (n_v vs 5) ≤ 1 := tv_rng t5
  obtain ⟨t6, hk⟩ := List.forall_mem_cons.mp hk
  have t6 : tv_ok ta (0, 2, 2, []) (n_v vs 6) := t6
  have k6 : 2 ≤ v_iv (n_v vs 6) ∧ v_iv (n_v vs 6) ≤ 2 := tv_rng t6
  obtain ⟨t8, hk⟩ := List.forall_mem_cons.mp hk
  have t8 : tv_ok ta (0, 0, 99999999, []) (n_v vs 8) := t8
  have k8 : 0 ≤ v_iv (n_v vs 8) ∧ v_iv (n_v vs 8) ≤ 99999999 := tv_rng t8
  obtain ⟨t9, hk⟩ := List.forall_mem_cons.mp hk
  have t9 : tv_ok ta (0, 1, 2, []) (n_v vs 9) := t9
  have k9 : 1 ≤ v_iv (n_v vs 9) ∧ v_iv (n_v vs 9) ≤ 2 := tv_rng t9
  have hds : ∀ q ∈ ([(9, 5, 1, 1), (9, 2, -4294967296, 3), (5, 2, -4294967296, 2)] : List of_T), n_iv vs q.2.1 + q.2.2.1 ≤ n_iv vs q.1 ∧ n_iv vs q.1 ≤ n_iv vs q.2.1 + q.2.2.2 := hds
  obtain ⟨d0, hds⟩ := List.forall_mem_cons.mp hds
  have d0 : v_iv (n_v vs 5) + 1 ≤ v_iv (n_v vs 9) ∧ v_iv (n_v vs 9) ≤ v_iv (n_v vs 5) + 1 := d0
  obtain ⟨d1, hds⟩ := List.forall_mem_cons.mp hds
  have d1 : v_iv (n_v vs 2) + (-4294967296) ≤ v_iv (n_v vs 9) ∧ v_iv (n_v vs 9) ≤ v_iv (n_v vs 2) + 3 := d1
  obtain ⟨d2, hds⟩ := List.forall_mem_cons.mp hds
  have d2 : v_iv (n_v vs 2) + (-4294967296) ≤ v_iv (n_v vs 5) ∧ v_iv (n_v vs 5) ≤ v_iv (n_v vs 2) + 2 := d2
  have hf : fc_ok [(6, [9, 5], [1]), (23, [8, 2, 5], [0, 1, -1, -1]), (24, [0, 3], []), (20, [3, 8], [30, 1, 1, 1, 170, -1, 0, 0]), (102, [8], [237142198758023568227473377297792835283496928595231875152809132048206089502588928, 13170]), (23, [8, 2, 5], [0, 1, -1, -1]), (7, [5, 6], [2])] ta ws vs := hf
  obtain ⟨f0, hf⟩ := fc_un (show (6 : Nat) < 100 from by decide) hf
  have f0 : v_iv (n_v vs 9) = v_iv (n_v vs 5) + 1 := f0
  obtain ⟨f1, hf⟩ := fc_un (show (23 : Nat) < 100 from by decide) hf
  have f1 : 1 * v_iv (n_v vs 8) + ((-1) * v_iv (n_v vs 2) + ((-1) * v_iv (n_v vs 5) + 0)) ≤ 0 := f1
  obtain ⟨f2, hf⟩ := fc_un (show (24 : Nat) < 100 from by decide) hf
  have f2 : n_v vs 0 = n_v vs 3 := f2
  obtain ⟨f3, hf⟩ := fc_un (show (20 : Nat) < 100 from by decide) hf
  have f3 : 1 * w_fi ws (n_v vs 3) 170 + ((-1) * v_iv (n_v vs 8) + 0) ≤ 1 := f3
  obtain ⟨ta1, w1, le1, ⟨_, s1⟩, hf⟩ := fc_us (show ¬ (102 : Nat) < 100 from by decide) hf
  obtain ⟨f5, hf⟩ := fc_un (show (23 : Nat) < 100 from by decide) hf
  have f5 : 1 * v_iv (n_v vs 8) + ((-1) * v_iv (n_v vs 2) + ((-1) * v_iv (n_v vs 5) + 0)) ≤ 0 := f5
  obtain ⟨f6, hf⟩ := fc_un (show (7 : Nat) < 100 from by decide) hf
  have f6 : v_iv (n_v vs 5) < v_iv (n_v vs 6) := f6
  have q3 : n_v vs 3 = n_v vs 0 := f2.symm
  rw [q3] at f3
  have kz_0_170 : 0 ≤ w_fi ws (n_v vs 0) 170 ∧ w_fi ws (n_v vs 0) 170 ≤ 100000000 := tv_rng (th_fd hD hth r0 (g := GG_150) rfl (k := 170) (t := (0, 0, 100000000, [])) rfl rfl)
  have nf0 : fc_1 (20, [3, 2, 9], [30, 0, 1, 1, 170, -1, 0, 0, -1, 0, 0]) ws (vs) := by
    refine ⟨fun n hn => ?_, ?_⟩
    · have hn : n ∈ [3, 2, 9] := hn
      rw [hl]
      simp only [List.mem_cons, List.not_mem_nil, or_false] at hn
      show n < 10; omega
    · show 1 * w_fi ws (n_v vs 3) 170 + ((-1) * v_iv (n_v vs 2) + ((-1) * v_iv (n_v vs 9) + 0)) ≤ 0
      rw [q3]
      omega
  refine ⟨(fun _ h => (by cases h)), [], trivial, ?_, (fun _ h => (by cases h))⟩
  rw [List.append_nil]
  exact List.forall_mem_cons.mpr ⟨⟨show (20 : Nat) < 100 from by decide, nf0⟩, (fun _ h => (by cases h))⟩
def n_Mo_write_at_s5018_an : List an_T := [(2, [(0, (2, 0, 0, [150])), (1, (2, 0, 0, [5018])), (2, (0, 0, 2, []))], [], (0, 0), [(0, 0, 99998), (1, 5, 2), (0, 0, 100000)], [(5, 2, -1000000000000, 2)], [], [(2, 0, 0, [150]), (2, 0, 0, [5018]), (0, 0, 99999998, [])], 0, [], [(20, [3, 2, 5], [30, 0, 1, 1, 170, -1, 0, 0, -1, 0, 0]), (24, [0, 3], [])])]
def t_Mo_write_at_s5018_ct : ct_L := [(16, 448, e_jStr_length_v210), (43, 453, e_jStr_charAt_v211), (52, 1280, e_Mo_write1)]
set_option maxRecDepth 100000 in
theorem c_Mo_write_at_s5018 {l : Launch} {D : va_G} {kA : Nat → ClassId} (h_Mo_write1 : ct_ok l D kA GG y_Mo_write1 z_Mo_write1 e_Mo_write1) : ct_ok l D kA GG y_Mo_write_at_s5018 z_Mo_write_at_s5018 e_Mo_write_at_s5018 := chk_all_ok (FT := []) (PT := []) (CT := t_Mo_write_at_s5018_ct) (KT := []) (NT := []) (AN := n_Mo_write_at_s5018_an) (OT := [o_Mo_write_at_s5018_0, o_Mo_write_at_s5018_1, o_Mo_write_at_s5018_2, o_Mo_write_at_s5018_3]) 3 200 (List.forall_mem_cons.mpr ⟨oo_Mo_write_at_s5018_0, List.forall_mem_cons.mpr ⟨oo_Mo_write_at_s5018_1, List.forall_mem_cons.mpr ⟨oo_Mo_write_at_s5018_2, List.forall_mem_cons.mpr ⟨oo_Mo_write_at_s5018_3, List.forall_mem_nil _⟩⟩⟩⟩) (by decide +kernel) ⟨List.forall_mem_nil _, List.forall_mem_nil _, List.forall_mem_cons.mpr ⟨cl_string (y := y_jStr_length) (i := 18) rfl rfl (by decide +kernel) rfl c_jStr_length_v210 wm_674 wm_11 wm_3003 wm_672 wm_673 ⟨by decide, by decide, by decide +kernel⟩ (by decide), List.forall_mem_cons.mpr ⟨cl_string (y := y_jStr_charAt) (i := 18) rfl rfl (by decide +kernel) rfl c_jStr_charAt_v211 wm_684 wm_11 wm_3004 wm_682 wm_683 ⟨by decide, by decide, by decide +kernel⟩ (by decide), List.forall_mem_cons.mpr ⟨cl_virtual (y := y_Mo_write1) (ci := 13) rfl rfl ⟨_, _, rfl⟩ (by decide +kernel) h_Mo_write1 wm_3914 wm_9 wm_3911 wm_3913 wv_24_8 ⟨by decide, by decide, by decide +kernel⟩ (by decide), List.forall_mem_nil _⟩⟩⟩, List.forall_mem_nil _, List.forall_mem_nil _, GG_pl⟩ (by decide +kernel)
def o_Mo_write_at_s5019_0 : or_T := (2, 4, [(0, (2, 0, 0, [150])), (2, (0, 0, 99999997, [])), (3, (0, 0, 0, []))], [(20, [0, 2], [30, 0, 1, 1, 170, -1, 0, 0])], [], [], [(20, [0, 2, 3], [30, 0, 1, 1, 170, -1, 0, 0, -1, 0, 0]), (24, [0, 0], [])], [], [])
theorem oo_Mo_write_at_s5019_0 {kA : Nat → ClassId} : or_ok kA GG o_Mo_write_at_s5019_0 := by
  intro A ta ws vs hD hth hl hk hds hf
  have hl : vs.length = 4 := hl
  have hk : ∀ q ∈ ([(0, (2, 0, 0, [150])), (2, (0, 0, 99999997, [])), (3, (0, 0, 0, []))] : List (Nat × tv_T)), tv_ok ta q.2 (n_v vs q.1) := hk
  obtain ⟨t0, hk⟩ := List.forall_mem_cons.mp hk
  have t0 : tv_ok ta (2, 0, 0, [150]) (n_v vs 0) := t0
  have r0 : ta (v_ad (n_v vs 0)) = some 150 := tv_rg t0
  obtain ⟨t2, hk⟩ := List.forall_mem_cons.mp hk
  have t2 : tv_ok ta (0, 0, 99999997, []) (n_v vs 2) := t2
  have k2 : 0 ≤ v_iv (n_v vs 2) ∧ v_iv (n_v vs 2) ≤ 99999997 := tv_rng t2
  obtain ⟨t3, hk⟩ := List.forall_mem_cons.mp hk
  have t3 : tv_ok ta (0, 0, 0, []) (n_v vs 3) := t3
  have k3 : 0 ≤ v_iv (n_v vs 3) ∧ v_iv (n_v vs 3) ≤ 0 := tv_rng t3
  have hf : fc_ok [(20, [0, 2], [30, 0, 1, 1, 170, -1, 0, 0])] ta ws vs := hf
  obtain ⟨f0, hf⟩ := fc_un (show (20 : Nat) < 100 from by decide) hf
  have f0 : 1 * w_fi ws (n_v vs 0) 170 + ((-1) * v_iv (n_v vs 2) + 0) ≤ 0 := f0
  have kz_0_170 : 0 ≤ w_fi ws (n_v vs 0) 170 ∧ w_fi ws (n_v vs 0) 170 ≤ 100000000 := tv_rng (th_fd hD hth r0 (g := GG_150) rfl (k := 170) (t := (0, 0, 100000000, [])) rfl rfl)
  have nf0 : fc_1 (20, [0, 2, 3], [30, 0, 1, 1, 170, -1, 0, 0, -1, 0, 0]) ws (vs) := by
    refine ⟨fun n hn => ?_, ?_⟩
    · have hn : n ∈ [0, 2, 3] := hn
      rw [hl]
      simp only [List.mem_cons, List.not_mem_nil, or_false] at hn
      show n < 4; omega
    · show 1 * w_fi ws (n_v vs 0) 170 + ((-1) * v_iv (n_v vs 2) + ((-1) * v_iv (n_v vs 3) + 0)) ≤ 0
      omega
  have nf1 : fc_1 (24, [0, 0], []) ws (vs) := by
    refine ⟨fun n hn => ?_, ?_⟩
    · have hn : n ∈ [0, 0] := hn
      rw [hl]
      simp only [List.mem_cons, List.not_mem_nil, or_false] at hn
      show n < 4; omega
    · show n_v vs 0 = n_v vs 0
      first | rfl | simp only [true_and]
  refine ⟨(fun _ h => (by cases h)), [], trivial, ?_, (fun _ h => (by cases h))⟩
  rw [List.append_nil]
  exact List.forall_mem_cons.mpr ⟨⟨show (20 : Nat) < 100 from by decide, nf0⟩, List.forall_mem_cons.mpr ⟨⟨show (24 : Nat) < 100 from by decide, nf1⟩, (fun _ h => (by cases h))⟩⟩
def o_Mo_write_at_s5019_1 : or_T := (25, 7, [(0, (2, 0, 0, [150])), (2, (0, 0, 99999997, [])), (3, (2, 0, 0, [150])), (5, (0, 3, 3, [])), (6, (0, 3, 3, []))], [(7, [5, 6], [3]), (20, [3, 2, 5], [30, 0, 1, 1, 170, -1, 0, 0, -1, 0, 0]), (24, [0, 3], [])], [], [], [(20, [0, 2], [30, 3, 1, 1, 170, -1, 0, 0])], [], [])
theorem oo_Mo_write_at_s5019_1 {kA : Nat → ClassId} : or_ok kA GG o_Mo_write_at_s5019_1 := by
  intro A ta ws vs hD hth hl hk hds hf
  have hl : vs.length = 7 := hl
  have hk : ∀ q ∈ ([(0, (2, 0, 0, [150])), (2, (0, 0, 99999997, [])), (3, (2, 0, 0, [150])), (5, (0, 3, 3, [])), (6, (0, 3, 3, []))] : List (Nat × tv_T)), tv_ok ta q.2 (n_v vs q.1) := hk
  obtain ⟨t0, hk⟩ := List.forall_mem_cons.mp hk
  have t0 : tv_ok ta (2, 0, 0, [150]) (n_v vs 0) := t0
  have r0 : ta (v_ad (n_v vs 0)) = some 150 := tv_rg t0
  obtain ⟨t2, hk⟩ := List.forall_mem_cons.mp hk
  have t2 : tv_ok ta (0, 0, 99999997, []) (n_v vs 2) := t2
  have k2 : 0 ≤ v_iv (n_v vs 2) ∧ v_iv (n_v vs 2) ≤ 99999997 := tv_rng t2
  obtain ⟨t3, hk⟩ := List.forall_mem_cons.mp hk
  have t3 : tv_ok ta (2, 0, 0, [150]) (n_v vs 3) := t3
  have r3 : ta (v_ad (n_v vs 3)) = some 150 := tv_rg t3
  obtain ⟨t5, hk⟩ := List.forall_mem_cons.mp hk
  have t5 : tv_ok ta (0, 3, 3, []) (n_v vs 5) := t5
  have k5 : 3 ≤ v_iv (n_v vs 5) ∧ v_iv (n_v vs 5) ≤ 3 := tv_rng t5
  obtain ⟨t6, hk⟩ := List.forall_mem_cons.mp hk
  have t6 : tv_ok ta (0, 3, 3, []) (n_v vs 6) := t6
  have k6 : 3 ≤ v_iv (n_v vs 6) ∧ v_iv (n_v vs 6) ≤ 3 := tv_rng t6
  have hf : fc_ok [(7, [5, 6], [3]), (20, [3, 2, 5], [30, 0, 1, 1, 170, -1, 0, 0, -1, 0, 0]), (24, [0, 3], [])] ta ws vs := hf
  obtain ⟨f0, hf⟩ := fc_un (show (7 : Nat) < 100 from by decide) hf
  have f0 : v_iv (n_v vs 6) ≤ v_iv (n_v vs 5) := f0
  obtain ⟨f1, hf⟩ := fc_un (show (20 : Nat) < 100 from by decide) hf
  have f1 : 1 * w_fi ws (n_v vs 3) 170 + ((-1) * v_iv (n_v vs 2) + ((-1) * v_iv (n_v vs 5) + 0)) ≤ 0 := f1
  obtain ⟨f2, hf⟩ := fc_un (show (24 : Nat) < 100 from by decide) hf
  have f2 : n_v vs 0 = n_v vs 3 := f2
  have q3 : n_v vs 3 = n_v vs 0 := f2.symm
  rw [q3] at f1
  have kz_0_170 : 0 ≤ w_fi ws (n_v vs 0) 170 ∧ w_fi ws (n_v vs 0) 170 ≤ 100000000 := tv_rng (th_fd hD hth r0 (g := GG_150) rfl (k := 170) (t := (0, 0, 100000000, [])) rfl rfl)
  have nf0 : fc_1 (20, [0, 2], [30, 3, 1, 1, 170, -1, 0, 0]) ws (vs) := by
    refine ⟨fun n hn => ?_, ?_⟩
    · have hn : n ∈ [0, 2] := hn
      rw [hl]
      simp only [List.mem_cons, List.not_mem_nil, or_false] at hn
      show n < 7; omega
    · show 1 * w_fi ws (n_v vs 0) 170 + ((-1) * v_iv (n_v vs 2) + 0) ≤ 3
      omega
  refine ⟨(fun _ h => (by cases h)), [], trivial, ?_, (fun _ h => (by cases h))⟩
  rw [List.append_nil]
  exact List.forall_mem_cons.mpr ⟨⟨show (20 : Nat) < 100 from by decide, nf0⟩, (fun _ h => (by cases h))⟩
def o_Mo_write_at_s5019_2 : or_T := (16, 8, [(0, (2, 0, 0, [150])), (2, (0, 0, 99999997, [])), (3, (2, 0, 0, [150])), (5, (0, 0, 2, [])), (6, (0, 3, 3, []))], [(7, [5, 6], [2]), (20, [3, 2, 5], [30, 0, 1, 1, 170, -1, 0, 0, -1, 0, 0]), (24, [0, 3], [])], [], [(0, 0, 99999999, [])], [(20, [3, 8], [30, 0, 1, 1, 170, -1, 0, 0]), (23, [8, 2, 5], [0, 1, -1, -1])], [], [])
theorem oo_Mo_write_at_s5019_2 {kA : Nat → ClassId} : or_ok kA GG o_Mo_write_at_s5019_2 := by
  intro A ta ws vs hD hth hl hk hds hf
  have hl : vs.length = 8 := hl
  have hk : ∀ q ∈ ([(0, (2, 0, 0, [150])), (2, (0, 0, 99999997, [])), (3, (2, 0, 0, [150])), (5, (0, 0, 2, [])), (6, (0, 3, 3, []))] : List (Nat × tv_T)), tv_ok ta q.2 (n_v vs q.1) := hk
  obtain ⟨t0, hk⟩ := List.forall_mem_cons.mp hk
  have t0 : tv_ok ta (2, 0, 0, [150]) (n_v vs 0) := t0
  have r0 : ta (v_ad (n_v vs 0)) = some 150 := tv_rg t0
  obtain ⟨t2, hk⟩ := List.forall_mem_cons.mp hk
  have t2 : tv_ok ta (0, 0, 99999997, []) (n_v vs 2) := t2
  have k2 : 0 ≤ v_iv (n_v vs 2) ∧ v_iv (n_v vs 2) ≤ 99999997 := tv_rng t2
  obtain ⟨t3, hk⟩ := List.forall_mem_cons.mp hk
  have t3 : tv_ok ta (2, 0, 0, [150]) (n_v vs 3) := t3
  have r3 : ta (v_ad (n_v vs 3)) = some 150 := tv_rg t3
  obtain ⟨t5, hk⟩ := List.forall_mem_cons.mp hk
  have t5 : tv_ok ta (0, 0, 2, []) (n_v vs 5) := t5
  have k5 : 0 ≤ v_iv (n_v vs 5) ∧ v_iv (n_v vs 5) ≤ 2 := tv_rng t5
  obtain ⟨t6, hk⟩ := List.forall_mem_cons.mp hk
  have t6 : tv_ok ta (0, 3, 3, []) (n_v vs 6) := t6
  have k6 : 3 ≤ v_iv (n_v vs 6) ∧ v_iv (n_v vs 6) ≤ 3 := tv_rng t6
  have hf : fc_ok [(7, [5, 6], [2]), (20, [3, 2, 5], [30, 0, 1, 1, 170, -1, 0, 0, -1, 0, 0]), (24, [0, 3], [])] ta ws vs := hf
  obtain ⟨f0, hf⟩ := fc_un (show (7 : Nat) < 100 from by decide) hf
  have f0 : v_iv (n_v vs 5) < v_iv (n_v vs 6) := f0
  obtain ⟨f1, hf⟩ := fc_un (show (20 : Nat) < 100 from by decide) hf
  have f1 : 1 * w_fi ws (n_v vs 3) 170 + ((-1) * v_iv (n_v vs 2) + ((-1) * v_iv (n_v vs 5) + 0)) ≤ 0 := f1
  obtain ⟨f2, hf⟩ := fc_un (show (24 : Nat) < 100 from by decide) hf
  have f2 : n_v vs 0 = n_v vs 3 := f2
  have q3 : n_v vs 3 = n_v vs 0 := f2.symm
  rw [q3] at f1
  have kz_0_170 : 0 ≤ w_fi ws (n_v vs 0) 170 ∧ w_fi ws (n_v vs 0) 170 ≤ 100000000 := tv_rng (th_fd hD hth r0 (g := GG_150) rfl (k := 170) (t := (0, 0, 100000000, [])) rfl rfl)
  have kv0 : 0 ≤ w_fi ws (n_v vs 0) 170 ∧ w_fi ws (n_v vs 0) 170 ≤ 100000000 := tv_rng (th_fd hD hth r0 (g := GG_150) rfl (k := 170) (t := (0, 0, 100000000, [])) rfl rfl)
  obtain ⟨x, ex, hx⟩ := iv_ex (ta := ta) (lo := 0) (hi := 99999999) (z := w_fi ws (n_v vs 0) 170) (by omega) (by omega) (by omega) (by omega)
  have ex2 : v_iv (Value.int x) = w_fi ws (n_v vs 0) 170 := ex
  have ex3 : 0 ≤ v_iv (Value.int x) ∧ v_iv (Value.int x) ≤ 99999999 := tv_rng hx
  have e_2 : n_v (vs ++ [Value.int x]) 2 = n_v vs 2 := n_v_old (by rw [hl]; decide)
  have e_3 : n_v (vs ++ [Value.int x]) 3 = n_v vs 3 := n_v_old (by rw [hl]; decide)
  have e_5 : n_v (vs ++ [Value.int x]) 5 = n_v vs 5 := n_v_old (by rw [hl]; decide)
  have e_8 : n_v (vs ++ [Value.int x]) 8 = Value.int x := n_v_new hl
  have nf0 : fc_1 (20, [3, 8], [30, 0, 1, 1, 170, -1, 0, 0]) ws (vs ++ [Value.int x]) := by
    refine ⟨fun n hn => ?_, ?_⟩
    · have hn : n ∈ [3, 8] := hn
      rw [List.length_append, hl]
      simp only [List.mem_cons, List.not_mem_nil, or_false] at hn
      show n < 8 + 1; omega
    · show 1 * w_fi ws (n_v (vs ++ [Value.int x]) 3) 170 + ((-1) * v_iv (n_v (vs ++ [Value.int x]) 8) + 0) ≤ 0
      rw [e_3]
      rw [e_8]
      rw [q3]
      omega
  have nf1 : fc_1 (23, [8, 2, 5], [0, 1, -1, -1]) ws (vs ++ [Value.int x]) := by
    refine ⟨fun n hn => ?_, ?_⟩
    · have hn : n ∈ [8, 2, 5] := hn
      rw [List.length_append, hl]
      simp only [List.mem_cons, List.not_mem_nil, or_false] at hn
      show n < 8 + 1; omega
    · show 1 * v_iv (n_v (vs ++ [Value.int x]) 8) + ((-1) * v_iv (n_v (vs ++ [Value.int x]) 2) + ((-1) * v_iv (n_v (vs ++ [Value.int x]) 5) + 0)) ≤ 0
      rw [e_2]
      rw [e_5]
      rw [e_8]
      omega
  exact ⟨(fun _ h => (by cases h)), [Value.int x], ag_one hx, List.forall_mem_cons.mpr ⟨⟨show (20 : Nat) < 100 from by decide, nf0⟩, List.forall_mem_cons.mpr ⟨⟨show (23 : Nat) < 100 from by decide, nf1⟩, (fun _ h => (by cases h))⟩⟩, (fun _ h => (by cases h))⟩
def o_Mo_write_at_s5019_3 : or_T := (2, 10, [(0, (2, 0, 0, [150])), (2, (0, 0, 99999997, [])), (3, (2, 0, 0, [150])), (5, (0, 0, 2, [])), (6, (0, 3, 3, [])), (8, (0, 0, 99999999, [])), (9, (0, 1, 3, []))], [(6, [9, 5], [1]), (23, [8, 2, 5], [0, 1, -1, -1]), (24, [0, 3], []), (20, [3, 8], [30, 1, 1, 1, 170, -1, 0, 0]), (102, [8], [237142198758023568227473377297792835283496928595231875152809132048206089502588928, 13170]), (23, [8, 2, 5], [0, 1, -1, -1]), (7, [5, 6], [2])], [], [], [(20, [3, 2, 9], [30, 0, 1, 1, 170, -1, 0, 0, -1, 0, 0])], [], [(9, 5, 1, 1)])
theorem oo_Mo_write_at_s5019_3 {kA : Nat → ClassId} : or_ok kA GG o_Mo_write_at_s5019_3 := by
  intro A ta ws vs hD hth hl hk hds hf
  have hl : vs.length = 10 := hl
  have hk : ∀ q ∈ ([(0, (2, 0, 0, [150])), (2, (0, 0, 99999997, [])), (3, (2, 0, 0, [150])), (5, (0, 0, 2, [])), (6, (0, 3, 3, [])), (8, (0, 0, 99999999, [])), (9, (0, 1, 3, []))] : List (Nat × tv_T)), tv_ok ta q.2 (n_v vs q.1) := hk
  obtain ⟨t0, hk⟩ := List.forall_mem_cons.mp hk
  have t0 : tv_ok ta (2, 0, 0, [150]) (n_v vs 0) := t0
  have r0 : ta (v_ad (n_v vs 0)) = some 150 := tv_rg t0
  obtain ⟨t2, hk⟩ := List.forall_mem_cons.mp hk
  have t2 : tv_ok ta (0, 0, 99999997, []) (n_v vs 2) := t2
  have k2 : 0 ≤ v_iv (n_v vs 2) ∧ v_iv (n_v vs 2) ≤ 99999997 := tv_rng t2
  obtain ⟨t3, hk⟩ := List.forall_mem_cons.mp hk
  have t3 : tv_ok ta (2, 0, 0, [150]) (n_v vs 3) := t3
  have r3 : ta (v_ad (n_v vs 3)) = some 150 := tv_rg t3
  obtain ⟨t5, hk⟩ := List.forall_mem_cons.mp hk
  have t5 : tv_ok ta (0, 0, 2, []) (n_v vs 5) := t5
  have k5 : 0 ≤ v_iv (n_v vs 5) ∧ v_iv (n_v vs 5) ≤ 2 := tv_rng t5
  obtain ⟨t6, hk⟩ := List.forall_mem_cons.mp hk
  have t6 : tv_ok ta (0, 3, 3, []) (n_v vs 6) := t6
  have k6 : 3 ≤ v_iv (n_v vs 6) ∧ v_iv (n_v vs 6) ≤ 3 := tv_rng t6
  obtain ⟨t8, hk⟩ := List.forall_mem_cons.mp hk
  have t8 : tv_ok ta (0, 0, 99999999, []) (n_v vs 8) := t8
  have k8 : 0 ≤ v_iv (n_v vs 8) ∧ v_iv (n_v vs 8) ≤ 99999999 := tv_rng t8
  obtain ⟨t9, hk⟩ := List.forall_mem_cons.mp hk
  have t9 : tv_ok ta (0, 1, 3, []) (n_v vs 9) := t9
  have k9 : 1 ≤ v_iv (n_v vs 9) ∧ v_iv (n_v vs 9) ≤ 3 := tv_rng t9
  have hds : ∀ q ∈ ([(9, 5, 1, 1)] : List of_T), n_iv vs q.2.1 + q.2.2.1 ≤ n_iv vs q.1 ∧ n_iv vs q.1 ≤ n_iv vs q.2.1 + q.2.2.2 := hds
  obtain ⟨d0, hds⟩ := List.forall_mem_cons.mp hds
  have d0 : v_iv (n_v vs 5) + 1 ≤ v_iv (n_v vs 9) ∧ v_iv (n_v vs 9) ≤ v_iv (n_v vs 5) + 1 := d0
  have hf : fc_ok [(6, [9, 5], [1]), (23, [8, 2, 5], [0, 1, -1, -1]), (24, [0, 3], []), (20, [3, 8], [30, 1, 1, 1, 170, -1, 0, 0]), (102, [8], [237142198758023568227473377297792835283496928595231875152809132048206089502588928, 13170]), (23, [8, 2, 5], [0, 1, -1, -1]), (7, [5, 6], [2])] ta ws vs := hf
  obtain ⟨f0, hf⟩ := fc_un (show (6 : Nat) < 100 from by decide) hf
  have f0 : v_iv (n_v vs 9) = v_iv (n_v vs 5) + 1 := f0
  obtain ⟨f1, hf⟩ := fc_un (show (23 : Nat) < 100 from by decide) hf
  have f1 : 1 * v_iv (n_v vs 8) + ((-1) * v_iv (n_v vs 2) + ((-1) * v_iv (n_v vs 5) + 0)) ≤ 0 := f1
  obtain ⟨f2, hf⟩ := fc_un (show (24 : Nat) < 100 from by decide) hf
  have f2 : n_v vs 0 = n_v vs 3 := f2
  obtain ⟨f3, hf⟩ := fc_un (show (20 : Nat) < 100 from by decide) hf
  have f3 : 1 * w_fi ws (n_v vs 3) 170 + ((-1) * v_iv (n_v vs 8) + 0) ≤ 1 := f3
  obtain ⟨ta1, w1, le1, ⟨_, s1⟩, hf⟩ := fc_us (show ¬ (102 : Nat) < 100 from by decide) hf
  obtain ⟨f5, hf⟩ := fc_un (show (23 : Nat) < 100 from by decide) hf
  have f5 : 1 * v_iv (n_v vs 8) + ((-1) * v_iv (n_v vs 2) + ((-1) * v_iv (n_v vs 5) + 0)) ≤ 0 := f5
  obtain ⟨f6, hf⟩ := fc_un (show (7 : Nat) < 100 from by decide) hf
  have f6 : v_iv (n_v vs 5) < v_iv (n_v vs 6) := f6
  have q3 : n_v vs 3 = n_v vs 0 := f2.symm
  rw [q3] at f3
  have kz_0_170 : 0 ≤ w_fi ws (n_v vs 0) 170 ∧ w_fi ws (n_v vs 0) 170 ≤ 100000000 := tv_rng (th_fd hD hth r0 (g := GG_150) rfl (k := 170) (t := (0, 0, 100000000, [])) rfl rfl)
  have nf0 : fc_1 (20, [3, 2, 9], [30, 0, 1, 1, 170, -1, 0, 0, -1, 0, 0]) ws (vs) := by
    refine ⟨fun n hn => ?_, ?_⟩
    · have hn : n ∈ [3, 2, 9] := hn
      rw [hl]
      simp only [List.mem_cons, List.not_mem_nil, or_false] at hn
      show n < 10; omega
    · show 1 * w_fi ws (n_v vs 3) 170 + ((-1) * v_iv (n_v vs 2) + ((-1) * v_iv (n_v vs 9) + 0)) ≤ 0
      rw [q3]
      omega
  refine ⟨(fun _ h => (by cases h)), [], trivial, ?_, (fun _ h => (by cases h))⟩
  rw [List.append_nil]
  exact List.forall_mem_cons.mpr ⟨⟨show (20 : Nat) < 100 from by decide, nf0⟩, (fun _ h => (by cases h))⟩
def n_Mo_write_at_s5019_an : List an_T := [(2, [(0, (2, 0, 0, [150])), (1, (2, 0, 0, [5019])), (2, (0, 0, 3, []))], [], (0, 0), [(0, 0, 99998), (1, 5, 3), (0, 0, 100000)], [], [], [(2, 0, 0, [150]), (2, 0, 0, [5019]), (0, 0, 99999997, [])], 0, [], [(20, [3, 2, 5], [30, 0, 1, 1, 170, -1, 0, 0, -1, 0, 0]), (24, [0, 3], [])])]
def t_Mo_write_at_s5019_ct : ct_L := [(16, 448, e_jStr_length_v213), (43, 453, e_jStr_charAt_v214), (52, 1280, e_Mo_write1)]
set_option maxRecDepth 100000 in
theorem c_Mo_write_at_s5019 {l : Launch} {D : va_G} {kA : Nat → ClassId} (h_Mo_write1 : ct_ok l D kA GG y_Mo_write1 z_Mo_write1 e_Mo_write1) : ct_ok l D kA GG y_Mo_write_at_s5019 z_Mo_write_at_s5019 e_Mo_write_at_s5019 := chk_all_ok (FT := []) (PT := []) (CT := t_Mo_write_at_s5019_ct) (KT := []) (NT := []) (AN := n_Mo_write_at_s5019_an) (OT := [o_Mo_write_at_s5019_0, o_Mo_write_at_s5019_1, o_Mo_write_at_s5019_2, o_Mo_write_at_s5019_3]) 3 200 (List.forall_mem_cons.mpr ⟨oo_Mo_write_at_s5019_0, List.forall_mem_cons.mpr ⟨oo_Mo_write_at_s5019_1, List.forall_mem_cons.mpr ⟨oo_Mo_write_at_s5019_2, List.forall_mem_cons.mpr ⟨oo_Mo_write_at_s5019_3, List.forall_mem_nil _⟩⟩⟩⟩) (by decide +kernel) ⟨List.forall_mem_nil _, List.forall_mem_nil _, List.forall_mem_cons.mpr ⟨cl_string (y := y_jStr_length) (i := 19) rfl rfl (by decide +kernel) rfl c_jStr_length_v213 wm_674 wm_11 wm_3003 wm_672 wm_673 ⟨by decide, by decide, by decide +kernel⟩ (by decide), List.forall_mem_cons.mpr ⟨cl_string (y := y_jStr_charAt) (i := 19) rfl rfl (by decide +kernel) rfl c_jStr_charAt_v214 wm_684 wm_11 wm_3004 wm_682 wm_683 ⟨by decide, by decide, by decide +kernel⟩ (by decide), List.forall_mem_cons.mpr ⟨cl_virtual (y := y_Mo_write1) (ci := 13) rfl rfl ⟨_, _, rfl⟩ (by decide +kernel) h_Mo_write1 wm_3914 wm_9 wm_3911 wm_3913 wv_24_8 ⟨by decide, by decide, by decide +kernel⟩ (by decide), List.forall_mem_nil _⟩⟩⟩, List.forall_mem_nil _, List.forall_mem_nil _, GG_pl⟩ (by decide +kernel)
def o_Mo_write_at_s5020_0 : or_T := (2, 4, [(0, (2, 0, 0, [150])), (2, (0, 0, 99999997, [])), (3, (0, 0, 0, []))], [(20, [0, 2], [30, 0, 1, 1, 170, -1, 0, 0])], [], [], [(20, [0, 2, 3], [30, 0, 1, 1, 170, -1, 0, 0, -1, 0, 0]), (24, [0, 0], [])], [], [])
theorem oo_Mo_write_at_s5020_0 {kA : Nat → ClassId} : or_ok kA GG o_Mo_write_at_s5020_0 := by
  intro A ta ws vs hD hth hl hk hds hf
  have hl : vs.length = 4 := hl
  have hk : ∀ q ∈ ([(0, (2, 0, 0, [150])), (2, (0, 0, 99999997, [])), (3, (0, 0, 0, []))] : List (Nat × tv_T)), tv_ok ta q.2 (n_v vs q.1) := hk
  obtain ⟨t0, hk⟩ := List.forall_mem_cons.mp hk
  have t0 : tv_ok ta (2, 0, 0, [150]) (n_v vs 0) := t0
  have r0 : ta (v_ad (n_v vs 0)) = some 150 := tv_rg t0
  obtain ⟨t2, hk⟩ := List.forall_mem_cons.mp hk
  have t2 : tv_ok ta (0, 0, 99999997, []) (n_v vs 2) := t2
  have k2 : 0 ≤ v_iv (n_v vs 2) ∧ v_iv (n_v vs 2) ≤ 99999997 := tv_rng t2
  obtain ⟨t3, hk⟩ := List.forall_mem_cons.mp hk
  have t3 : tv_ok ta (0, 0, 0, []) (n_v vs 3) := t3
  have k3 : 0 ≤ v_iv (n_v vs 3) ∧ v_iv (n_v vs 3) ≤ 0 := tv_rng t3
  have hf : fc_ok [(20, [0, 2], [30, 0, 1, 1, 170, -1, 0, 0])] ta ws vs := hf
  obtain ⟨f0, hf⟩ := fc_un (show (20 : Nat) < 100 from by decide) hf
  have f0 : 1 * w_fi ws (n_v vs 0) 170 + ((-1) * v_iv (n_v vs 2) + 0) ≤ 0 := f0
  have kz_0_170 : 0 ≤ w_fi ws (n_v vs 0) 170 ∧ w_fi ws (n_v vs 0) 170 ≤ 100000000 := tv_rng (th_fd hD hth r0 (g := GG_150) rfl (k := 170) (t := (0, 0, 100000000, [])) rfl rfl)
  have nf0 : fc_1 (20, [0, 2, 3], [30, 0, 1, 1, 170, -1, 0, 0, -1, 0, 0]) ws (vs) := by
    refine ⟨fun n hn => ?_, ?_⟩
    · have hn : n ∈ [0, 2, 3] := hn
      rw [hl]
      simp only [List.mem_cons, List.not_mem_nil, or_false] at hn
      show n < 4; omega
    · show 1 * w_fi ws (n_v vs 0) 170 + ((-1) * v_iv (n_v vs 2) + ((-1) * v_iv (n_v vs 3) + 0)) ≤ 0
      omega
  have nf1 : fc_1 (24, [0, 0], []) ws (vs) := by
    refine ⟨fun n hn => ?_, ?_⟩
    · have hn : n ∈ [0, 0] := hn
      rw [hl]
      simp only [List.mem_cons, List.not_mem_nil, or_false] at hn
      show n < 4; omega
    · show n_v vs 0 = n_v vs 0
      first | rfl | simp only [true_and]
  refine ⟨(fun _ h => (by cases h)), [], trivial, ?_, (fun _ h => (by cases h))⟩
  rw [List.append_nil]
  exact List.forall_mem_cons.mpr ⟨⟨show (20 : Nat) < 100 from by decide, nf0⟩, List.forall_mem_cons.mpr ⟨⟨show (24 : Nat) < 100 from by decide, nf1⟩, (fun _ h => (by cases h))⟩⟩
def o_Mo_write_at_s5020_1 : or_T := (25, 7, [(0, (2, 0, 0, [150])), (2, (0, 0, 99999997, [])), (3, (2, 0, 0, [150])), (5, (0, 3, 3, [])), (6, (0, 3, 3, []))], [(7, [5, 6], [3]), (20, [3, 2, 5], [30, 0, 1, 1, 170, -1, 0, 0, -1, 0, 0]), (24, [0, 3], [])], [], [], [(20, [0, 2], [30, 3, 1, 1, 170, -1, 0, 0])], [], [])
theorem oo_Mo_write_at_s5020_1 {kA : Nat → ClassId} : or_ok kA GG o_Mo_write_at_s5020_1 := by
  intro A ta ws vs hD hth hl hk hds hf
  have hl : vs.length = 7 := hl
  have hk : ∀ q ∈ ([(0, (2, 0, 0, [150])), (2, (0, 0, 99999997, [])), (3, (2, 0, 0, [150])), (5, (0, 3, 3, [])), (6, (0, 3, 3, []))] : List (Nat × tv_T)), tv_ok ta q.2 (n_v vs q.1) := hk
  obtain ⟨t0, hk⟩ := List.forall_mem_cons.mp hk
  have t0 : tv_ok ta (2, 0, 0, [150]) (n_v vs 0) := t0
  have r0 : ta (v_ad (n_v vs 0)) = some 150 := tv_rg t0
  obtain ⟨t2, hk⟩ := List.forall_mem_cons.mp hk
  have t2 : tv_ok ta (0, 0, 99999997, []) (n_v vs 2) := t2
  have k2 : 0 ≤ v_iv (n_v vs 2) ∧ v_iv (n_v vs 2) ≤ 99999997 := tv_rng t2
  obtain ⟨t3, hk⟩ := List.forall_mem_cons.mp hk
  have t3 : tv_ok ta (2, 0, 0, [150]) (n_v vs 3) := t3
  have r3 : ta (v_ad (n_v vs 3)) = some 150 := tv_rg t3
  obtain ⟨t5, hk⟩ := List.forall_mem_cons.mp hk
  have t5 : tv_ok ta (0, 3, 3, []) (n_v vs 5) := t5
  have k5 : 3 ≤ v_iv (n_v vs 5) ∧ v_iv (n_v vs 5) ≤ 3 := tv_rng t5
  obtain ⟨t6, hk⟩ := List.forall_mem_cons.mp hk
  have t6 : tv_ok ta (0, 3, 3, []) (n_v vs 6) := t6
  have k6 : 3 ≤ v_iv (n_v vs 6) ∧ v_iv (n_v vs 6) ≤ 3 := tv_rng t6
  have hf : fc_ok [(7, [5, 6], [3]), (20, [3, 2, 5], [30, 0, 1, 1, 170, -1, 0, 0, -1, 0, 0]), (24, [0, 3], [])] ta ws vs := hf
  obtain ⟨f0, hf⟩ := fc_un (show (7 : Nat) < 100 from by decide) hf
  have f0 : v_iv (n_v vs 6) ≤ v_iv (n_v vs 5) := f0
  obtain ⟨f1, hf⟩ := fc_un (show (20 : Nat) < 100 from by decide) hf
  have f1 : 1 * w_fi ws (n_v vs 3) 170 + ((-1) * v_iv (n_v vs 2) + ((-1) * v_iv (n_v vs 5) + 0)) ≤ 0 := f1
  obtain ⟨f2, hf⟩ := fc_un (show (24 : Nat) < 100 from by decide) hf
  have f2 : n_v vs 0 = n_v vs 3 := f2
  have q3 : n_v vs 3 = n_v vs 0 := f2.symm
  rw [q3] at f1
  have kz_0_170 : 0 ≤ w_fi ws (n_v vs 0) 170 ∧ w_fi ws (n_v vs 0) 170 ≤ 100000000 := tv_rng (th_fd hD hth r0 (g := GG_150) rfl (k := 170) (t := (0, 0, 100000000, [])) rfl rfl)
  have nf0 : fc_1 (20, [0, 2], [30, 3, 1, 1, 170, -1, 0, 0]) ws (vs) := by
    refine ⟨fun n hn => ?_, ?_⟩
    · have hn : n ∈ [0, 2] := hn
      rw [hl]
      simp only [List.mem_cons, List.not_mem_nil, or_false] at hn
      show n < 7; omega
    · show 1 * w_fi ws (n_v vs 0) 170 + ((-1) * v_iv (n_v vs 2) + 0) ≤ 3
      omega
  refine ⟨(fun _ h => (by cases h)), [], trivial, ?_, (fun _ h => (by cases h))⟩
  rw [List.append_nil]
  exact List.forall_mem_cons.mpr ⟨⟨show (20 : Nat) < 100 from by decide, nf0⟩, (fun _ h => (by cases h))⟩
def o_Mo_write_at_s5020_2 : or_T := (16, 8, [(0, (2, 0, 0, [150])), (2, (0, 0, 99999997, [])), (3, (2, 0, 0, [150])), (5, (0, 0, 2, [])), (6, (0, 3, 3, []))], [(7, [5, 6], [2]), (20, [3, 2, 5], [30, 0, 1, 1, 170, -1, 0, 0, -1, 0, 0]), (24, [0, 3], [])], [], [(0, 0, 99999999, [])], [(20, [3, 8], [30, 0, 1, 1, 170, -1, 0, 0]), (23, [8, 2, 5], [0, 1, -1, -1])], [], [])
theorem oo_Mo_write_at_s5020_2 {kA : Nat → ClassId} : or_ok kA GG o_Mo_write_at_s5020_2 := by
  intro A ta ws vs hD hth hl hk hds hf
  have hl : vs.length = 8 := hl
  have hk : ∀ q ∈ ([(0, (2, 0, 0, [150])), (2, (0, 0, 99999997, [])), (3, (2, 0, 0, [150])), (5, (0, 0, 2, [])), (6, (0, 3, 3, []))] : List (Nat × tv_T)), tv_ok ta q.2 (n_v vs q.1) := hk
  obtain ⟨t0, hk⟩ := List.forall_mem_cons.mp hk
  have t0 : tv_ok ta (2, 0, 0, [150]) (n_v vs 0) := t0
  have r0 : ta (v_ad (n_v vs 0)) = some 150 := tv_rg t0
  obtain ⟨t2, hk⟩ := List.forall_mem_cons.mp hk
  have t2 : tv_ok ta (0, 0, 99999997, []) (n_v vs 2) := t2
  have k2 : 0 ≤ v_iv (n_v vs 2) ∧ v_iv (n_v vs 2) ≤ 99999997 := tv_rng t2
  obtain ⟨t3, hk⟩ := List.forall_mem_cons.mp hk
  have t3 : tv_ok ta (2, 0, 0, [150]) (n_v vs 3) := t3
  have r3 : ta (v_ad (n_v vs 3)) = some 150 := tv_rg t3
  obtain ⟨t5, hk⟩ := List.forall_mem_cons.mp hk
  have t5 : tv_ok ta (0, 0, 2, []) (n_v vs 5) := t5
  have k5 : 0 ≤ v_iv (n_v vs 5) ∧ v_iv (n_v vs 5) ≤ 2 := tv_rng t5
  obtain ⟨t6, hk⟩ := List.forall_mem_cons.mp hk
  have t6 : tv_ok ta (0, 3, 3, []) (n_v vs 6) := t6
  have k6 : 3 ≤ v_iv (n_v vs 6) ∧ v_iv (n_v vs 6) ≤ 3 := tv_rng t6
  have hf : fc_ok [(7, [5, 6], [2]), (20, [3, 2, 5], [30, 0, 1, 1, 170, -1, 0, 0, -1, 0, 0]), (24, [0, 3], [])] ta ws vs := hf
  obtain ⟨f0, hf⟩ := fc_un (show (7 : Nat) < 100 from by decide) hf
  have f0 : v_iv (n_v vs 5) < v_iv (n_v vs 6) := f0
  obtain ⟨f1, hf⟩ := fc_un (show (20 : Nat) < 100 from by decide) hf
  have f1 : 1 * w_fi ws (n_v vs 3) 170 + ((-1) * v_iv (n_v vs 2) + ((-1) * v_iv (n_v vs 5) + 0)) ≤ 0 := f1
  obtain ⟨f2, hf⟩ := fc_un (show (24 : Nat) < 100 from by decide) hf
  have f2 : n_v vs 0 = n_v vs 3 := f2
  have q3 : n_v vs 3 = n_v vs 0 := f2.symm
  rw [q3] at f1
  have kz_0_170 : 0 ≤ w_fi ws (n_v vs 0) 170 ∧ w_fi ws (n_v vs 0) 170 ≤ 100000000 := tv_rng (th_fd hD hth r0 (g := GG_150) rfl (k := 170) (t := (0, 0, 100000000, [])) rfl rfl)
  have kv0 : 0 ≤ w_fi ws (n_v vs 0) 170 ∧ w_fi ws (n_v vs 0) 170 ≤ 100000000 := tv_rng (th_fd hD hth r0 (g := GG_150) rfl (k := 170) (t := (0, 0, 100000000, [])) rfl rfl)
  obtain ⟨x, ex, hx⟩ := iv_ex (ta := ta) (lo := 0) (hi := 99999999) (z := w_fi ws (n_v vs 0) 170) (by omega) (by omega) (by omega) (by omega)
  have ex2 : v_iv (Value.int x) = w_fi ws (n_v vs 0) 170 := ex
  have ex3 : 0 ≤ v_iv (Value.int x) ∧ v_iv (Value.int x) ≤ 99999999 := tv_rng hx
  have e_2 : n_v (vs ++ [Value.int x]) 2 = n_v vs 2 := n_v_old (by rw [hl]; decide)
  have e_3 : n_v (vs ++ [Value.int x]) 3 = n_v vs 3 := n_v_old (by rw [hl]; decide)
  have e_5 : n_v (vs ++ [Value.int x]) 5 = n_v vs 5 := n_v_old (by rw [hl]; decide)
  have e_8 : n_v (vs ++ [Value.int x]) 8 = Value.int x := n_v_new hl
  have nf0 : fc_1 (20, [3, 8], [30, 0, 1, 1, 170, -1, 0, 0]) ws (vs ++ [Value.int x]) := by
    refine ⟨fun n hn => ?_, ?_⟩
    · have hn : n ∈ [3, 8] := hn
      rw [List.length_append, hl]
      simp only [List.mem_cons, List.not_mem_nil, or_false] at hn
      show n < 8 + 1; omega
    · show 1 * w_fi ws (n_v (vs ++ [Value.int x]) 3) 170 + ((-1) * v_iv (n_v (vs ++ [Value.int x]) 8) + 0) ≤ 0
      rw [e_3]
      rw [e_8]
      rw [q3]
      omega
  have nf1 : fc_1 (23, [8, 2, 5], [0, 1, -1, -1]) ws (vs ++ [Value.int x]) := by
    refine ⟨fun n hn => ?_, ?_⟩
    · have hn : n ∈ [8, 2, 5] := hn
      rw [List.length_append, hl]
      simp only [List.mem_cons, List.not_mem_nil, or_false] at hn
      show n < 8 + 1; omega
    · show 1 * v_iv (n_v (vs ++ [Value.int x]) 8) + ((-1) * v_iv (n_v (vs ++ [Value.int x]) 2) + ((-1) * v_iv (n_v (vs ++ [Value.int x]) 5) + 0)) ≤ 0
      rw [e_2]
      rw [e_5]
      rw [e_8]
      omega
  exact ⟨(fun _ h => (by cases h)), [Value.int x], ag_one hx, List.forall_mem_cons.mpr ⟨⟨show (20 : Nat) < 100 from by decide, nf0⟩, List.forall_mem_cons.mpr ⟨⟨show (23 : Nat) < 100 from by decide, nf1⟩, (fun _ h => (by cases h))⟩⟩, (fun _ h => (by cases h))⟩
def o_Mo_write_at_s5020_3 : or_T := (2, 10, [(0, (2, 0, 0, [150])), (2, (0, 0, 99999997, [])), (3, (2, 0, 0, [150])), (5, (0, 0, 2, [])), (6, (0, 3, 3, [])), (8, (0, 0, 99999999, [])), (9, (0, 1, 3, []))], [(6, [9, 5], [1]), (23, [8, 2, 5], [0, 1, -1, -1]), (24, [0, 3], []), (20, [3, 8], [30, 1, 1, 1, 170, -1, 0, 0]), (102, [8], [237142198758023568227473377297792835283496928595231875152809132048206089502588928, 13170]), (23, [8, 2, 5], [0, 1, -1, -1]), (7, [5, 6], [2])], [], [], [(20, [3, 2, 9], [30, 0, 1, 1, 170, -1, 0, 0, -1, 0, 0])], [], [(9, 5, 1, 1)])
theorem oo_Mo_write_at_s5020_3 {kA : Nat → ClassId} : or_ok kA GG o_Mo_write_at_s5020_3 := by
  intro A ta ws vs hD hth hl hk hds hf
  have hl : vs.length = 10 := hl
  have hk : ∀ q ∈ ([(0, (2, 0, 0, [150])), (2, (0, 0, 99999997, [])), (3, (2, 0, 0, [150])), (5, (0, 0, 2, [])), (6, (0, 3, 3, [])), (8, (0, 0, 99999999, [])), (9, (0, 1, 3, []))] : List (Nat × tv_T)), tv_ok ta q.2 (n_v vs q.1) := hk
  obtain ⟨t0, hk⟩ := List.forall_mem_cons.mp hk
  have t0 : tv_ok ta (2, 0, 0, [150]) (n_v vs 0) := t0
  have r0 : ta (v_ad (n_v vs 0)) = some 150 := tv_rg t0
  obtain ⟨t2, hk⟩ := List.forall_mem_cons.mp hk
  have t2 : tv_ok ta (0, 0, 99999997, []) (n_v vs 2) := t2
  have k2 : 0 ≤ v_iv (n_v vs 2) ∧ v_iv (n_v vs 2) ≤ 99999997 := tv_rng t2
  obtain ⟨t3, hk⟩ := List.forall_mem_cons.mp hk
  have t3 : tv_ok ta (2, 0, 0, [150]) (n_v vs 3) := t3
  have r3 : ta (v_ad (n_v vs 3)) = some 150 := tv_rg t3
  obtain ⟨t5, hk⟩ := List.forall_mem_cons.mp hk
  have t5 : tv_ok ta (0, 0, 2, []) (n_v vs 5) := t5
  have k5 : 0 ≤ v_iv (n_v vs 5) ∧ v_iv (n_v vs 5) ≤ 2 := tv_rng t5
  obtain ⟨t6, hk⟩ := List.forall_mem_cons.mp hk
  have t6 : tv_ok ta (0, 3, 3, []) (n_v vs 6) := t6
  have k6 : 3 ≤ v_iv (n_v vs 6) ∧ v_iv (n_v vs 6) ≤ 3 := tv_rng t6
  obtain ⟨t8, hk⟩ := List.forall_mem_cons.mp hk
  have t8 : tv_ok ta (0, 0, 99999999, []) (n_v vs 8) := t8
  have k8 : 0 ≤ v_iv (n_v vs 8) ∧ v_iv (n_v vs 8) ≤ 99999999 := tv_rng t8
  obtain ⟨t9, hk⟩ := List.forall_mem_cons.mp hk
  have t9 : tv_ok ta (0, 1, 3, []) (n_v vs 9) := t9
  have k9 : 1 ≤ v_iv (n_v vs 9) ∧ v_iv (n_v vs 9) ≤ 3 := tv_rng t9
  have hds : ∀ q ∈ ([(9, 5, 1, 1)] : List of_T), n_iv vs q.2.1 + q.2.2.1 ≤ n_iv vs q.1 ∧ n_iv vs q.1 ≤ n_iv vs q.2.1 + q.2.2.2 := hds
  obtain ⟨d0, hds⟩ := List.forall_mem_cons.mp hds
  have d0 : v_iv (n_v vs 5) + 1 ≤ v_iv (n_v vs 9) ∧ v_iv (n_v vs 9) ≤ v_iv (n_v vs 5) + 1 := d0
  have hf : fc_ok [(6, [9, 5], [1]), (23, [8, 2, 5], [0, 1, -1, -1]), (24, [0, 3], []), (20, [3, 8], [30, 1, 1, 1, 170, -1, 0, 0]), (102, [8], [237142198758023568227473377297792835283496928595231875152809132048206089502588928, 13170]), (23, [8, 2, 5], [0, 1, -1, -1]), (7, [5, 6], [2])] ta ws vs := hf
  obtain ⟨f0, hf⟩ := fc_un (show (6 : Nat) < 100 from by decide) hf
  have f0 : v_iv (n_v vs 9) = v_iv (n_v vs 5) + 1 := f0
  obtain ⟨f1, hf⟩ := fc_un (show (23 : Nat) < 100 from by decide) hf
  have f1 : 1 * v_iv (n_v vs 8) + ((-1) * v_iv (n_v vs 2) + ((-1) * v_iv (n_v vs 5) + 0)) ≤ 0 := f1
  obtain ⟨f2, hf⟩ := fc_un (show (24 : Nat) < 100 from by decide) hf
  have f2 : n_v vs 0 = n_v vs 3 := f2
  obtain ⟨f3, hf⟩ := fc_un (show (20 : Nat) < 100 from by decide) hf
  have f3 : 1 * w_fi ws (n_v vs 3) 170 + ((-1) * v_iv (n_v vs 8) + 0) ≤ 1 := f3
  obtain ⟨ta1, w1, le1, ⟨_, s1⟩, hf⟩ := fc_us (show ¬ (102 : Nat) < 100 from by decide) hf
  obtain ⟨f5, hf⟩ := fc_un (show (23 : Nat) < 100 from by decide) hf
  have f5 : 1 * v_iv (n_v vs 8) + ((-1) * v_iv (n_v vs 2) + ((-1) * v_iv (n_v vs 5) + 0)) ≤ 0 := f5
  obtain ⟨f6, hf⟩ := fc_un (show (7 : Nat) < 100 from by decide) hf
  have f6 : v_iv (n_v vs 5) < v_iv (n_v vs 6) := f6
  have q3 : n_v vs 3 = n_v vs 0 := f2.symm
  rw [q3] at f3
  have kz_0_170 : 0 ≤ w_fi ws (n_v vs 0) 170 ∧ w_fi ws (n_v vs 0) 170 ≤ 100000000 := tv_rng (th_fd hD hth r0 (g := GG_150) rfl (k := 170) (t := (0, 0, 100000000, [])) rfl rfl)
  have nf0 : fc_1 (20, [3, 2, 9], [30, 0, 1, 1, 170, -1, 0, 0, -1, 0, 0]) ws (vs) := by
    refine ⟨fun n hn => ?_, ?_⟩
    · have hn : n ∈ [3, 2, 9] := hn
      rw [hl]
      simp only [List.mem_cons, List.not_mem_nil, or_false] at hn
      show n < 10; omega
    · show 1 * w_fi ws (n_v vs 3) 170 + ((-1) * v_iv (n_v vs 2) + ((-1) * v_iv (n_v vs 9) + 0)) ≤ 0
      rw [q3]
      omega
  refine ⟨(fun _ h => (by cases h)), [], trivial, ?_, (fun _ h => (by cases h))⟩
  rw [List.append_nil]
  exact List.forall_mem_cons.mpr ⟨⟨show (20 : Nat) < 100 from by decide, nf0⟩, (fun _ h => (by cases h))⟩
def n_Mo_write_at_s5020_an : List an_T := [(2, [(0, (2, 0, 0, [150])), (1, (2, 0, 0, [5020])), (2, (0, 0, 3, []))], [], (0, 0), [(0, 0, 99998), (1, 5, 3), (0, 0, 100000)], [], [], [(2, 0, 0, [150]), (2, 0, 0, [5020]), (0, 0, 99999997, [])], 0, [], [(20, [3, 2, 5], [30, 0, 1, 1, 170, -1, 0, 0, -1, 0, 0]), (24, [0, 3], [])])]
def t_Mo_write_at_s5020_ct : ct_L := [(16, 448, e_jStr_length_v216), (43, 453, e_jStr_charAt_v217), (52, 1280, e_Mo_write1)]
set_option maxRecDepth 100000 in
theorem c_Mo_write_at_s5020 {l : Launch} {D : va_G} {kA : Nat → ClassId} (h_Mo_write1 : ct_ok l D kA GG y_Mo_write1 z_Mo_write1 e_Mo_write1) : ct_ok l D kA GG y_Mo_write_at_s5020 z_Mo_write_at_s5020 e_Mo_write_at_s5020 := chk_all_ok (FT := []) (PT := []) (CT := t_Mo_write_at_s5020_ct) (KT := []) (NT := []) (AN := n_Mo_write_at_s5020_an) (OT := [o_Mo_write_at_s5020_0, o_Mo_write_at_s5020_1, o_Mo_write_at_s5020_2, o_Mo_write_at_s5020_3]) 3 200 (List.forall_mem_cons.mpr ⟨oo_Mo_write_at_s5020_0, List.forall_mem_cons.mpr ⟨oo_Mo_write_at_s5020_1, List.forall_mem_cons.mpr ⟨oo_Mo_write_at_s5020_2, List.forall_mem_cons.mpr ⟨oo_Mo_write_at_s5020_3, List.forall_mem_nil _⟩⟩⟩⟩) (by decide +kernel) ⟨List.forall_mem_nil _, List.forall_mem_nil _, List.forall_mem_cons.mpr ⟨cl_string (y := y_jStr_length) (i := 20) rfl rfl (by decide +kernel) rfl c_jStr_length_v216 wm_674 wm_11 wm_3003 wm_672 wm_673 ⟨by decide, by decide, by decide +kernel⟩ (by decide), List.forall_mem_cons.mpr ⟨cl_string (y := y_jStr_charAt) (i := 20) rfl rfl (by decide +kernel) rfl c_jStr_charAt_v217 wm_684 wm_11 wm_3004 wm_682 wm_683 ⟨by decide, by decide, by decide +kernel⟩ (by decide), List.forall_mem_cons.mpr ⟨cl_virtual (y := y_Mo_write1) (ci := 13) rfl rfl ⟨_, _, rfl⟩ (by decide +kernel) h_Mo_write1 wm_3914 wm_9 wm_3911 wm_3913 wv_24_8 ⟨by decide, by decide, by decide +kernel⟩ (by decide), List.forall_mem_nil _⟩⟩⟩, List.forall_mem_nil _, List.forall_mem_nil _, GG_pl⟩ (by decide +kernel)
def o_Mo_write_at_s5021_0 : or_T := (2, 4, [(0, (2, 0, 0, [150])), (2, (0, 0, 99999991, [])), (3, (0, 0, 0, []))], [(20, [0, 2], [30, 0, 1, 1, 170, -1, 0, 0])], [], [], [(20, [0, 2, 3], [30, 0, 1, 1, 170, -1, 0, 0, -1, 0, 0]), (24, [0, 0], [])], [], [])
theorem oo_Mo_write_at_s5021_0 {kA : Nat → ClassId} : or_ok kA GG o_Mo_write_at_s5021_0 := by
  intro A ta ws vs hD hth hl hk hds hf
  have hl : vs.length = 4 := hl
  have hk : ∀ q ∈ ([(0, (2, 0, 0, [150])), (2, (0, 0, 99999991, [])), (3, (0, 0, 0, []))] : List (Nat × tv_T)), tv_ok ta q.2 (n_v vs q.1) := hk
  obtain ⟨t0, hk⟩ := List.forall_mem_cons.mp hk
  have t0 : tv_ok ta (2, 0, 0, [150]) (n_v vs 0) := t0
  have r0 : ta (v_ad (n_v vs 0)) = some 150 := tv_rg t0
  obtain ⟨t2, hk⟩ := List.forall_mem_cons.mp hk
  have t2 : tv_ok ta (0, 0, 99999991, []) (n_v vs 2) := t2
  have k2 : 0 ≤ v_iv (n_v vs 2) ∧ v_iv (n_v vs 2) ≤ 99999991 := tv_rng t2
  obtain ⟨t3, hk⟩ := List.forall_mem_cons.mp hk
  have t3 : tv_ok ta (0, 0, 0, []) (n_v vs 3) := t3
  have k3 : 0 ≤ v_iv (n_v vs 3) ∧ v_iv (n_v vs 3) ≤ 0 := tv_rng t3
  have hf : fc_ok [(20, [0, 2], [30, 0, 1, 1, 170, -1, 0, 0])] ta ws vs := hf
  obtain ⟨f0, hf⟩ := fc_un (show (20 : Nat) < 100 from by decide) hf
  have f0 : 1 * w_fi ws (n_v vs 0) 170 + ((-1) * v_iv (n_v vs 2) + 0) ≤ 0 := f0
  have kz_0_170 : 0 ≤ w_fi ws (n_v vs 0) 170 ∧ w_fi ws (n_v vs 0) 170 ≤ 100000000 := tv_rng (th_fd hD hth r0 (g := GG_150) rfl (k := 170) (t := (0, 0, 100000000, [])) rfl rfl)
  have nf0 : fc_1 (20, [0, 2, 3], [30, 0, 1, 1, 170, -1, 0, 0, -1, 0, 0]) ws (vs) := by
    refine ⟨fun n hn => ?_, ?_⟩
    · have hn : n ∈ [0, 2, 3] := hn
      rw [hl]
      simp only [List.mem_cons, List.not_mem_nil, or_false] at hn
      show n < 4; omega
    · show 1 * w_fi ws (n_v vs 0) 170 + ((-1) * v_iv (n_v vs 2) + ((-1) * v_iv (n_v vs 3) + 0)) ≤ 0
      omega
  have nf1 : fc_1 (24, [0, 0], []) ws (vs) := by
    refine ⟨fun n hn => ?_, ?_⟩
    · have hn : n ∈ [0, 0] := hn
      rw [hl]
      simp only [List.mem_cons, List.not_mem_nil, or_false] at hn
      show n < 4; omega
    · show n_v vs 0 = n_v vs 0
      first | rfl | simp only [true_and]
  refine ⟨(fun _ h => (by cases h)), [], trivial, ?_, (fun _ h => (by cases h))⟩
  rw [List.append_nil]
  exact List.forall_mem_cons.mpr ⟨⟨show (20 : Nat) < 100 from by decide, nf0⟩, List.forall_mem_cons.mpr ⟨⟨show (24 : Nat) < 100 from by decide, nf1⟩, (fun _ h => (by cases h))⟩⟩
def o_Mo_write_at_s5021_1 : or_T := (25, 7, [(0, (2, 0, 0, [150])), (2, (0, 0, 99999991, [])), (3, (2, 0, 0, [150])), (5, (0, 9, 9, [])), (6, (0, 9, 9, []))], [(7, [5, 6], [3]), (20, [3, 2, 5], [30, 0, 1, 1, 170, -1, 0, 0, -1, 0, 0]), (24, [0, 3], [])], [], [], [(20, [0, 2], [30, 9, 1, 1, 170, -1, 0, 0])], [], [])
theorem oo_Mo_write_at_s5021_1 {kA : Nat → ClassId} : or_ok kA GG o_Mo_write_at_s5021_1 := by
  intro A ta ws vs hD hth hl hk hds hf
  have hl : vs.length = 7 := hl
  have hk : ∀ q ∈ ([(0, (2, 0, 0, [150])), (2, (0, 0, 99999991, [])), (3, (2, 0, 0, [150])), (5, (0, 9, 9, [])), (6, (0, 9, 9, []))] : List (Nat × tv_T)), tv_ok ta q.2 (n_v vs q.1) := hk
  obtain ⟨t0, hk⟩ := List.forall_mem_cons.mp hk
  have t0 : tv_ok ta (2, 0, 0, [150]) (n_v vs 0) := t0
  have r0 : ta (v_ad (n_v vs 0)) = some 150 := tv_rg t0
  obtain ⟨t2, hk⟩ := List.forall_mem_cons.mp hk
  have t2 : tv_ok ta (0, 0, 99999991, []) (n_v vs 2) := t2
  have k2 : 0 ≤ v_iv (n_v vs 2) ∧ v_iv (n_v vs 2) ≤ 99999991 := tv_rng t2
  obtain ⟨t3, hk⟩ := List.forall_mem_cons.mp hk
  have t3 : tv_ok ta (2, 0, 0, [150]) (n_v vs 3) := t3
  have r3 : ta (v_ad (n_v vs 3)) = some 150 := tv_rg t3
  obtain ⟨t5, hk⟩ := List.forall_mem_cons.mp hk
  have t5 : tv_ok ta (0, 9, 9, []) (n_v vs 5) := t5
  have k5 : 9 ≤ v_iv (n_v vs 5) ∧ v_iv (n_v vs 5) ≤ 9 := tv_rng t5
  obtain ⟨t6, hk⟩ := List.forall_mem_cons.mp hk
  have t6 : tv_ok ta (0, 9, 9, []) (n_v vs 6) := t6
  have k6 : 9 ≤ v_iv (n_v vs 6) ∧ v_iv (n_v vs 6) ≤ 9 := tv_rng t6
  have hf : fc_ok [(7, [5, 6], [3]), (20, [3, 2, 5], [30, 0, 1, 1, 170, -1, 0, 0, -1, 0, 0]), (24, [0, 3], [])] ta ws vs := hf
  obtain ⟨f0, hf⟩ := fc_un (show (7 : Nat) < 100 from by decide) hf
  have f0 : v_iv (n_v vs 6) ≤ v_iv (n_v vs 5) := f0
  obtain ⟨f1, hf⟩ := fc_un (show (20 : Nat) < 100 from by decide) hf
  have f1 : 1 * w_fi ws (n_v vs 3) 170 + ((-1) * v_iv (n_v vs 2) + ((-1) * v_iv (n_v vs 5) + 0)) ≤ 0 := f1
  obtain ⟨f2, hf⟩ := fc_un (show (24 : Nat) < 100 from by decide) hf
  have f2 : n_v vs 0 = n_v vs 3 := f2
  have q3 : n_v vs 3 = n_v vs 0 := f2.symm
  rw [q3] at f1
  have kz_0_170 : 0 ≤ w_fi ws (n_v vs 0) 170 ∧ w_fi ws (n_v vs 0) 170 ≤ 100000000 := tv_rng (th_fd hD hth r0 (g := GG_150) rfl (k := 170) (t := (0, 0, 100000000, [])) rfl rfl)
  have nf0 : fc_1 (20, [0, 2], [30, 9, 1, 1, 170, -1, 0, 0]) ws (vs) := by
    refine ⟨fun n hn => ?_, ?_⟩
    · have hn : n ∈ [0, 2] := hn
      rw [hl]
      simp only [List.mem_cons, List.not_mem_nil, or_false] at hn
      show n < 7; omega
    · show 1 * w_fi ws (n_v vs 0) 170 + ((-1) * v_iv (n_v vs 2) + 0) ≤ 9
      omega
  refine ⟨(fun _ h => (by cases h)), [], trivial, ?_, (fun _ h => (by cases h))⟩
  rw [List.append_nil]
  exact List.forall_mem_cons.mpr ⟨⟨show (20 : Nat) < 100 from by decide, nf0⟩, (fun _ h => (by cases h))⟩
def o_Mo_write_at_s5021_2 : or_T := (16, 8, [(0, (2, 0, 0, [150])), (2, (0, 0, 99999991, [])), (3, (2, 0, 0, [150])), (5, (0, 0, 8, [])), (6, (0, 9, 9, []))], [(7, [5, 6], [2]), (20, [3, 2, 5], [30, 0, 1, 1, 170, -1, 0, 0, -1, 0, 0]), (24, [0, 3], [])], [], [(0, 0, 99999999, [])], [(20, [3, 8], [30, 0, 1, 1, 170, -1, 0, 0]), (23, [8, 2, 5], [0, 1, -1, -1])], [], [])
theorem oo_Mo_write_at_s5021_2 {kA : Nat → ClassId} : or_ok kA GG o_Mo_write_at_s5021_2 := by
  intro A ta ws vs hD hth hl hk hds hf
  have hl : vs.length = 8 := hl
  have hk : ∀ q ∈ ([(0, (2, 0, 0, [150])), (2, (0, 0, 99999991, [])), (3, (2, 0, 0, [150])), (5, (0, 0, 8, [])), (6, (0, 9, 9, []))] : List (Nat × tv_T)), tv_ok ta q.2 (n_v vs q.1) := hk
  obtain ⟨t0, hk⟩ := List.forall_mem_cons.mp hk
  have t0 : tv_ok ta (2, 0, 0, [150]) (n_v vs 0) := t0
  have r0 : ta (v_ad (n_v vs 0)) = some 150 := tv_rg t0
  obtain ⟨t2, hk⟩ := List.forall_mem_cons.mp hk
  have t2 : tv_ok ta (0, 0, 99999991, []) (n_v vs 2) := t2
  have k2 : 0 ≤ v_iv (n_v vs 2) ∧ v_iv (n_v vs 2) ≤ 99999991 := tv_rng t2
  obtain ⟨t3, hk⟩ := List.forall_mem_cons.mp hk
  have t3 : tv_ok ta (2, 0, 0, [150]) (n_v vs 3) := t3
  have r3 : ta (v_ad (n_v vs 3)) = some 150 := tv_rg t3
  obtain ⟨t5, hk⟩ := List.forall_mem_cons.mp hk
  have t5 : tv_ok ta (0, 0, 8, []) (n_v vs 5) := t5
  have k5 : 0 ≤ v_iv (n_v vs 5) ∧ v_iv (n_v vs 5) ≤ 8 := tv_rng t5
  obtain ⟨t6, hk⟩ := List.forall_mem_cons.mp hk
  have t6 : tv_ok ta (0, 9, 9, []) (n_v vs 6) := t6
  have k6 : 9 ≤ v_iv (n_v vs 6) ∧ v_iv (n_v vs 6) ≤ 9 := tv_rng t6
  have hf : fc_ok [(7, [5, 6], [2]), (20, [3, 2, 5], [30, 0, 1, 1, 170, -1, 0, 0, -1, 0, 0]), (24, [0, 3], [])] ta ws vs := hf
  obtain ⟨f0, hf⟩ := fc_un (show (7 : Nat) < 100 from by decide) hf
  have f0 : v_iv (n_v vs 5) < v_iv (n_v vs 6) := f0
  obtain ⟨f1, hf⟩ := fc_un (show (20 : Nat) < 100 from by decide) hf
  have f1 : 1 * w_fi ws (n_v vs 3) 170 + ((-1) * v_iv (n_v vs 2) + ((-1) * v_iv (n_v vs 5) + 0)) ≤ 0 := f1
  obtain ⟨f2, hf⟩ := fc_un (show (24 : Nat) < 100 from by decide) hf
  have f2 : n_v vs 0 = n_v vs 3 := f2
  have q3 : n_v vs 3 = n_v vs 0 := f2.symm
  rw [q3] at f1
  have kz_0_170 : 0 ≤ w_fi ws (n_v vs 0) 170 ∧ w_fi ws (n_v vs 0) 170 ≤ 100000000 := tv_rng (th_fd hD hth r0 (g := GG_150) rfl (k := 170) (t := (0, 0, 100000000, [])) rfl rfl)
  have kv0 : 0 ≤ w_fi ws (n_v vs 0) 170 ∧ w_fi ws (n_v vs 0) 170 ≤ 100000000 := tv_rng (th_fd hD hth r0 (g := GG_150) rfl (k := 170) (t := (0, 0, 100000000, [])) rfl rfl)
  obtain ⟨x, ex, hx⟩ := iv_ex (ta := ta) (lo := 0) (hi := 99999999) (z := w_fi ws (n_v vs 0) 170) (by omega) (by omega) (by omega) (by omega)
  have ex2 : v_iv (Value.int x) = w_fi ws (n_v vs 0) 170 := ex
  have ex3 : 0 ≤ v_iv (Value.int x) ∧ v_iv (Value.int x) ≤ 99999999 := tv_rng hx
  have e_2 : n_v (vs ++ [Value.int x]) 2 = n_v vs 2 := n_v_old (by rw [hl]; decide)
  have e_3 : n_v (vs ++ [Value.int x]) 3 = n_v vs 3 := n_v_old (by rw [hl]; decide)
  have e_5 : n_v (vs ++ [Value.int x]) 5 = n_v vs 5 := n_v_old (by rw [hl]; decide)
  have e_8 : n_v (vs ++ [Value.int x]) 8 = Value.int x := n_v_new hl
  have nf0 : fc_1 (20, [3, 8], [30, 0, 1, 1, 170, -1, 0, 0]) ws (vs ++ [Value.int x]) := by
    refine ⟨fun n hn => ?_, ?_⟩
    · have hn : n ∈ [3, 8] := hn
      rw [List.length_append, hl]
      simp only [List.mem_cons, List.not_mem_nil, or_false] at hn
      show n < 8 + 1; omega
    · show 1 * w_fi ws (n_v (vs ++ [Value.int x]) 3) 170 + ((-1) * v_iv (n_v (vs ++ [Value.int x]) 8) + 0) ≤ 0
      rw [e_3]
      rw [e_8]
      rw [q3]
      omega
  have nf1 : fc_1 (23, [8, 2, 5], [0, 1, -1, -1]) ws (vs ++ [Value.int x]) := by
    refine ⟨fun n hn => ?_, ?_⟩
    · have hn : n ∈ [8, 2, 5] := hn
      rw [List.length_append, hl]
      simp only [List.mem_cons, List.not_mem_nil, or_false] at hn
      show n < 8 + 1; omega
    · show 1 * v_iv (n_v (vs ++ [Value.int x]) 8) + ((-1) * v_iv (n_v (vs ++ [Value.int x]) 2) + ((-1) * v_iv (n_v (vs ++ [Value.int x]) 5) + 0)) ≤ 0
      rw [e_2]
      rw [e_5]
      rw [e_8]
      omega
  exact ⟨(fun _ h => (by cases h)), [Value.int x], ag_one hx, List.forall_mem_cons.mpr ⟨⟨show (20 : Nat) < 100 from by decide, nf0⟩, List.forall_mem_cons.mpr ⟨⟨show (23 : Nat) < 100 from by decide, nf1⟩, (fun _ h => (by cases h))⟩⟩, (fun _ h => (by cases h))⟩
def o_Mo_write_at_s5021_3 : or_T := (2, 10, [(0, (2, 0, 0, [150])), (2, (0, 0, 99999991, [])), (3, (2, 0, 0, [150])), (5, (0, 0, 8, [])), (6, (0, 9, 9, [])), (8, (0, 0, 99999999, [])), (9, (0, 1, 9, []))], [(6, [9, 5], [1]), (23, [8, 2, 5], [0, 1, -1, -1]), (24, [0, 3], []), (20, [3, 8], [30, 1, 1, 1, 170, -1, 0, 0]), (102, [8], [237142198758023568227473377297792835283496928595231875152809132048206089502588928, 13170]), (23, [8, 2, 5], [0, 1, -1, -1]), (7, [5, 6], [2])], [], [], [(20, [3, 2, 9], [30, 0, 1, 1, 170, -1, 0, 0, -1, 0, 0])], [], [(9, 5, 1, 1)])
theorem oo_Mo_write_at_s5021_3 {kA : Nat → ClassId} : or_ok kA GG o_Mo_write_at_s5021_3 := by
  intro A ta ws vs hD hth hl hk hds hf
  have hl : vs.length = 10 := hl
  have hk : ∀ q ∈ ([(0, (2, 0, 0, [150])), (2, (0, 0, 99999991, [])), (3, (2, 0, 0, [150])), (5, (0, 0, 8, [])), (6, (0, 9, 9, [])), (8, (0, 0, 99999999, [])), (9, (0, 1, 9, []))] : List (Nat × tv_T)), tv_ok ta q.2 (n_v vs q.1) := hk
  obtain ⟨t0, hk⟩ := List.forall_mem_cons.mp hk
  have t0 : tv_ok ta (2, 0, 0, [150]) (n_v vs 0) := t0
  have r0 : ta (v_ad (n_v vs 0)) = some 150 := tv_rg t0
  obtain ⟨t2, hk⟩ := List.forall_mem_cons.mp hk
  have t2 : tv_ok ta (0, 0, 99999991, []) (n_v vs 2) := t2
  have k2 : 0 ≤ v_iv (n_v vs 2) ∧ v_iv (n_v vs 2) ≤ 99999991 := tv_rng t2
  obtain ⟨t3, hk⟩ := List.forall_mem_cons.mp hk
  have t3 : tv_ok ta (2, 0, 0, [150]) (n_v vs 3) := t3
  have r3 : ta (v_ad (n_v vs 3)) = some 150 := tv_rg t3
  obtain ⟨t5, hk⟩ := List.forall_mem_cons.mp hk
  have t5 : tv_ok ta (0, 0, 8, []) (n_v vs 5) := t5
  have k5 : 0 ≤ v_iv (n_v vs 5) ∧ v_iv (n_v vs 5) ≤ 8 := tv_rng t5
  obtain ⟨t6, hk⟩ := List.forall_mem_cons.mp hk
  have t6 : tv_ok ta (0, 9, 9, []) (n_v vs 6) := t6
  have k6 : 9 ≤ v_iv (n_v vs 6) ∧ v_iv (n_v vs 6) ≤ 9 := tv_rng t6
  obtain ⟨t8, hk⟩ := List.forall_mem_cons.mp hk
  have t8 : tv_ok ta (0, 0, 99999999, []) (n_v vs 8) := t8
  have k8 : 0 ≤ v_iv (n_v vs 8) ∧ v_iv (n_v vs 8) ≤ 99999999 := tv_rng t8
  obtain ⟨t9, hk⟩ := List.forall_mem_cons.mp hk
  have t9 : tv_ok ta (0, 1, 9, []) (n_v vs 9) := t9
  have k9 : 1 ≤ v_iv (n_v vs 9) ∧ v_iv (n_v vs 9) ≤ 9 := tv_rng t9
  have hds : ∀ q ∈ ([(9, 5, 1, 1)] : List of_T), n_iv vs q.2.1 + q.2.2.1 ≤ n_iv vs q.1 ∧ n_iv vs q.1 ≤ n_iv vs q.2.1 + q.2.2.2 := hds
  obtain ⟨d0, hds⟩ := List.forall_mem_cons.mp hds
  have d0 : v_iv (n_v vs 5) + 1 ≤ v_iv (n_v vs 9) ∧ v_iv (n_v vs 9) ≤ v_iv (n_v vs 5) + 1 := d0
  have hf : fc_ok [(6, [9, 5], [1]), (23, [8, 2, 5], [0, 1, -1, -1]), (24, [0, 3], []), (20, [3, 8], [30, 1, 1, 1, 170, -1, 0, 0]), (102, [8], [237142198758023568227473377297792835283496928595231875152809132048206089502588928, 13170]), (23, [8, 2, 5], [0, 1, -1, -1]), (7, [5, 6], [2])] ta ws vs := hf
  obtain ⟨f0, hf⟩ := fc_un (show (6 : Nat) < 100 from by decide) hf
  have f0 : v_iv (n_v vs 9) = v_iv (n_v vs 5) + 1 := f0
  obtain ⟨f1, hf⟩ := fc_un (show (23 : Nat) < 100 from by decide) hf
  have f1 : 1 * v_iv (n_v vs 8) + ((-1) * v_iv (n_v vs 2) + ((-1) * v_iv (n_v vs 5) + 0)) ≤ 0 := f1
  obtain ⟨f2, hf⟩ := fc_un (show (24 : Nat) < 100 from by decide) hf
  have f2 : n_v vs 0 = n_v vs 3 := f2
  obtain ⟨f3, hf⟩ := fc_un (show (20 : Nat) < 100 from by decide) hf
  have f3 : 1 * w_fi ws (n_v vs 3) 170 + ((-1) * v_iv (n_v vs 8) + 0) ≤ 1 := f3
  obtain ⟨ta1, w1, le1, ⟨_, s1⟩, hf⟩ := fc_us (show ¬ (102 : Nat) < 100 from by decide) hf
  obtain ⟨f5, hf⟩ := fc_un (show (23 : Nat) < 100 from by decide) hf
  have f5 : 1 * v_iv (n_v vs 8) + ((-1) * v_iv (n_v vs 2) + ((-1) * v_iv (n_v vs 5) + 0)) ≤ 0 := f5
  obtain ⟨f6, hf⟩ := fc_un (show (7 : Nat) < 100 from by decide) hf
  have f6 : v_iv (n_v vs 5) < v_iv (n_v vs 6) := f6
  have q3 : n_v vs 3 = n_v vs 0 := f2.symm
  rw [q3] at f3
  have kz_0_170 : 0 ≤ w_fi ws (n_v vs 0) 170 ∧ w_fi ws (n_v vs 0) 170 ≤ 100000000 := tv_rng (th_fd hD hth r0 (g := GG_150) rfl (k := 170) (t := (0, 0, 100000000, [])) rfl rfl)
  have nf0 : fc_1 (20, [3, 2, 9], [30, 0, 1, 1, 170, -1, 0, 0, -1, 0, 0]) ws (vs) := by
    refine ⟨fun n hn => ?_, ?_⟩
    · have hn : n ∈ [3, 2, 9] := hn
      rw [hl]
      simp only [List.mem_cons, List.not_mem_nil, or_false] at hn
      show n < 10; omega
    · show 1 * w_fi ws (n_v vs 3) 170 + ((-1) * v_iv (n_v vs 2) + ((-1) * v_iv (n_v vs 9) + 0)) ≤ 0
      rw [q3]
      omega
  refine ⟨(fun _ h => (by cases h)), [], trivial, ?_, (fun _ h => (by cases h))⟩
  rw [List.append_nil]
  exact List.forall_mem_cons.mpr ⟨⟨show (20 : Nat) < 100 from by decide, nf0⟩, (fun _ h => (by cases h))⟩
def n_Mo_write_at_s5021_an : List an_T := [(2, [(0, (2, 0, 0, [150])), (1, (2, 0, 0, [5021])), (2, (0, 0, 9, []))], [], (0, 0), [(0, 0, 99998), (1, 5, 9), (0, 0, 100000)], [], [], [(2, 0, 0, [150]), (2, 0, 0, [5021]), (0, 0, 99999991, [])], 0, [], [(20, [3, 2, 5], [30, 0, 1, 1, 170, -1, 0, 0, -1, 0, 0]), (24, [0, 3], [])])]
def t_Mo_write_at_s5021_ct : ct_L := [(16, 448, e_jStr_length_v219), (43, 453, e_jStr_charAt_v220), (52, 1280, e_Mo_write1)]
set_option maxRecDepth 100000 in
theorem c_Mo_write_at_s5021 {l : Launch} {D : va_G} {kA : Nat → ClassId} (h_Mo_write1 : ct_ok l D kA GG y_Mo_write1 z_Mo_write1 e_Mo_write1) : ct_ok l D kA GG y_Mo_write_at_s5021 z_Mo_write_at_s5021 e_Mo_write_at_s5021 := chk_all_ok (FT := []) (PT := []) (CT := t_Mo_write_at_s5021_ct) (KT := []) (NT := []) (AN := n_Mo_write_at_s5021_an) (OT := [o_Mo_write_at_s5021_0, o_Mo_write_at_s5021_1, o_Mo_write_at_s5021_2, o_Mo_write_at_s5021_3]) 3 200 (List.forall_mem_cons.mpr ⟨oo_Mo_write_at_s5021_0, List.forall_mem_cons.mpr ⟨oo_Mo_write_at_s5021_1, List.forall_mem_cons.mpr ⟨oo_Mo_write_at_s5021_2, List.forall_mem_cons.mpr ⟨oo_Mo_write_at_s5021_3, List.forall_mem_nil _⟩⟩⟩⟩) (by decide +kernel) ⟨List.forall_mem_nil _, List.forall_mem_nil _, List.forall_mem_cons.mpr ⟨cl_string (y := y_jStr_length) (i := 21) rfl rfl (by decide +kernel) rfl c_jStr_length_v219 wm_674 wm_11 wm_3003 wm_672 wm_673 ⟨by decide, by decide, by decide +kernel⟩ (by decide), List.forall_mem_cons.mpr ⟨cl_string (y := y_jStr_charAt) (i := 21) rfl rfl (by decide +kernel) rfl c_jStr_charAt_v220 wm_684 wm_11 wm_3004 wm_682 wm_683 ⟨by decide, by decide, by decide +kernel⟩ (by decide), List.forall_mem_cons.mpr ⟨cl_virtual (y := y_Mo_write1) (ci := 13) rfl rfl ⟨_, _, rfl⟩ (by decide +kernel) h_Mo_write1 wm_3914 wm_9 wm_3911 wm_3913 wv_24_8 ⟨by decide, by decide, by decide +kernel⟩ (by decide), List.forall_mem_nil _⟩⟩⟩, List.forall_mem_nil _, List.forall_mem_nil _, GG_pl⟩ (by decide +kernel)
def o_Mo_write_at_s5045_0 : or_T := (2, 4, [(0, (2, 0, 0, [150])), (2, (0, 0, 99999999, [])), (3, (0, 0, 0, []))], [(20, [0, 2], [30, 0, 1, 1, 170, -1, 0, 0])], [], [], [(20, [0, 2, 3], [30, 0, 1, 1, 170, -1, 0, 0, -1, 0, 0]), (24, [0, 0], [])], [], [])
theorem oo_Mo_write_at_s5045_0 {kA : Nat → ClassId} : or_ok kA GG o_Mo_write_at_s5045_0 := by
  intro A ta ws vs hD hth hl hk hds hf
  have hl : vs.length = 4 := hl
  have hk : ∀ q ∈ ([(0, (2, 0, 0, [150])), (2, (0, 0, 99999999, [])), (3, (0, 0, 0, []))] : List (Nat × tv_T)), tv_ok ta q.2 (n_v vs q.1) := hk
  obtain ⟨t0, hk⟩ := List.forall_mem_cons.mp hk
  have t0 : tv_ok ta (2, 0, 0, [150]) (n_v vs 0) := t0
  have r0 : ta (v_ad (n_v vs 0)) = some 150 := tv_rg t0
  obtain ⟨t2, hk⟩ := List.forall_mem_cons.mp hk
  have t2 : tv_ok ta (0, 0, 99999999, []) (n_v vs 2) := t2
  have k2 : 0 ≤ v_iv (n_v vs 2) ∧ v_iv (n_v vs 2) ≤ 99999999 := tv_rng t2
  obtain ⟨t3, hk⟩ := List.forall_mem_cons.mp hk
  have t3 : tv_ok ta (0, 0, 0, []) (n_v vs 3) := t3
  have k3 : 0 ≤ v_iv (n_v vs 3) ∧ v_iv (n_v vs 3) ≤ 0 := tv_rng t3
  have hf : fc_ok [(20, [0, 2], [30, 0, 1, 1, 170, -1, 0, 0])] ta ws vs := hf
  obtain ⟨f0, hf⟩ := fc_un (show (20 : Nat) < 100 from by decide) hf
  have f0 : 1 * w_fi ws (n_v vs 0) 170 + ((-1) * v_iv (n_v vs 2) + 0) ≤ 0 := f0
  have kz_0_170 : 0 ≤ w_fi ws (n_v vs 0) 170 ∧ w_fi ws (n_v vs 0) 170 ≤ 100000000 := tv_rng (th_fd hD hth r0 (g := GG_150) rfl (k := 170) (t := (0, 0, 100000000, [])) rfl rfl)
  have nf0 : fc_1 (20, [0, 2, 3], [30, 0, 1, 1, 170, -1, 0, 0, -1, 0, 0]) ws (vs) := by
    refine ⟨fun n hn => ?_, ?_⟩
    · have hn : n ∈ [0, 2, 3] := hn
      rw [hl]
      simp only [List.mem_cons, List.not_mem_nil, or_false] at hn
      show n < 4; omega
    · show 1 * w_fi ws (n_v vs 0) 170 + ((-1) * v_iv (n_v vs 2) + ((-1) * v_iv (n_v vs 3) + 0)) ≤ 0
      omega
  have nf1 : fc_1 (24, [0, 0], []) ws (vs) := by
    refine ⟨fun n hn => ?_, ?_⟩
    · have hn : n ∈ [0, 0] := hn
      rw [hl]
      simp only [List.mem_cons, List.not_mem_nil, or_false] at hn
      show n < 4; omega
    · show n_v vs 0 = n_v vs 0
      first | rfl | simp only [true_and]
  refine ⟨(fun _ h => (by cases h)), [], trivial, ?_, (fun _ h => (by cases h))⟩
  rw [List.append_nil]
  exact List.forall_mem_cons.mpr ⟨⟨show (20 : Nat) < 100 from by decide, nf0⟩, List.forall_mem_cons.mpr ⟨⟨show (24 : Nat) < 100 from by decide, nf1⟩, (fun _ h => (by cases h))⟩⟩
def o_Mo_write_at_s5045_1 : or_T := (25, 7, [(0, (2, 0, 0, [150])), (2, (0, 0, 99999999, [])), (3, (2, 0, 0, [150])), (5, (0, 1, 1, [])), (6, (0, 1, 1, []))], [(7, [5, 6], [3]), (20, [3, 2, 5], [30, 0, 1, 1, 170, -1, 0, 0, -1, 0, 0]), (24, [0, 3], [])], [], [], [(20, [0, 2], [30, 1, 1, 1, 170, -1, 0, 0])], [], [(5, 2, -4294967296, 1)])
theorem oo_Mo_write_at_s5045_1 {kA : Nat → ClassId} : or_ok kA GG o_Mo_write_at_s5045_1 := by
  intro A ta ws vs hD hth hl hk hds hf
  have hl : vs.length = 7 := hl
  have hk : ∀ q ∈ ([(0, (2, 0, 0, [150])), (2, (0, 0, 99999999, [])), (3, (2, 0, 0, [150])), (5, (0, 1, 1, [])), (6, (0, 1, 1, []))] : List (Nat × tv_T)), tv_ok ta q.2 (n_v vs q.1) := hk
  obtain ⟨t0, hk⟩ := List.forall_mem_cons.mp hk
  have t0 : tv_ok ta (2, 0, 0, [150]) (n_v vs 0) := t0
  have r0 : ta (v_ad (n_v vs 0)) = some 150 := tv_rg t0
  obtain ⟨t2, hk⟩ := List.forall_mem_cons.mp hk
  have t2 : tv_ok ta (0, 0, 99999999, []) (n_v vs 2) := t2
  have k2 : 0 ≤ v_iv (n_v vs 2) ∧ v_iv (n_v vs 2) ≤ 99999999 := tv_rng t2
  obtain ⟨t3, hk⟩ := List.forall_mem_cons.mp hk
  have t3 : tv_ok ta (2, 0, 0, [150]) (n_v vs 3) := t3
  have r3 : ta (v_ad (n_v vs 3)) = some 150 := tv_rg t3
  obtain ⟨t5, hk⟩ := List.forall_mem_cons.mp hk
  have t5 : tv_ok ta (0, 1, 1, []) (n_v vs 5) := t5
  have k5 : 1 ≤ v_iv (n_v vs 5) ∧ v_iv (n_v vs 5) ≤ 1 := tv_rng t5
  obtain ⟨t6, hk⟩ := List.forall_mem_cons.mp hk
  have t6 : tv_ok ta (0, 1, 1, []) (n_v vs 6) := t6
  have k6 : 1 ≤ v_iv (n_v vs 6) ∧ v_iv (n_v vs 6) ≤ 1 := tv_rng t6
  have hds : ∀ q ∈ ([(5, 2, -4294967296, 1)] : List of_T), n_iv vs q.2.1 + q.2.2.1 ≤ n_iv vs q.1 ∧ n_iv vs q.1 ≤ n_iv vs q.2.1 + q.2.2.2 := hds
  obtain ⟨d0, hds⟩ := List.forall_mem_cons.mp hds
  have d0 : v_iv (n_v vs 2) + (-4294967296) ≤ v_iv (n_v vs 5) ∧ v_iv (n_v vs 5) ≤ v_iv (n_v vs 2) + 1 := d0
  have hf : fc_ok [(7, [5, 6], [3]), (20, [3, 2, 5], [30, 0, 1, 1, 170, -1, 0, 0, -1, 0, 0]), (24, [0, 3], [])] ta ws vs := hf
  obtain ⟨f0, hf⟩ := fc_un (show (7 : Nat) < 100 from by decide) hf
  have f0 : v_iv (n_v vs 6) ≤ v_iv (n_v vs 5) := f0
  obtain ⟨f1, hf⟩ := fc_un (show (20 : Nat) < 100 from by decide) hf
  have f1 : 1 * w_fi ws (n_v vs 3) 170 + ((-1) * v_iv (n_v vs 2) + ((-1) * v_iv (n_v vs 5) + 0)) ≤ 0 := f1
  obtain ⟨f2, hf⟩ := fc_un (show (24 : Nat) < 100 from by decide) hf
  have f2 : n_v vs 0 = n_v vs 3 := f2
  have q3 : n_v vs 3 = n_v vs 0 := f2.symm
  rw [q3] at f1
  have kz_0_170 : 0 ≤ w_fi ws (n_v vs 0) 170 ∧ w_fi ws (n_v vs 0) 170 ≤ 100000000 := tv_rng (th_fd hD hth r0 (g := GG_150) rfl (k := 170) (t := (0, 0, 100000000, [])) rfl rfl)
  have nf0 : fc_1 (20, [0, 2], [30, 1, 1, 1, 170, -1, 0, 0]) ws (vs) := by
    refine ⟨fun n hn => ?_, ?_⟩
    · have hn : n ∈ [0, 2] := hn
      rw [hl]
      simp only [List.mem_cons, List.not_mem_nil, or_false] at hn
      show n < 7; omega
    · show 1 * w_fi ws (n_v vs 0) 170 + ((-1) * v_iv (n_v vs 2) + 0) ≤ 1
      omega
  refine ⟨(fun _ h => (by cases h)), [], trivial, ?_, (fun _ h => (by cases h))⟩
  rw [List.append_nil]
  exact List.forall_mem_cons.mpr ⟨⟨show (20 : Nat) < 100 from by decide, nf0⟩, (fun _ h => (by cases h))⟩
def o_Mo_write_at_s5045_2 : or_T := (16, 8, [(0, (2, 0, 0, [150])), (2, (0, 0, 99999999, [])), (3, (2, 0, 0, [150])), (5, (0, 0, 0, [])), (6, (0, 1, 1, []))], [(7, [5, 6], [2]), (20, [3, 2, 5], [30, 0, 1, 1, 170, -1, 0, 0, -1, 0, 0]), (24, [0, 3], [])], [], [(0, 0, 99999999, [])], [(20, [3, 8], [30, 0, 1, 1, 170, -1, 0, 0]), (23, [8, 2, 5], [0, 1, -1, -1])], [], [(5, 2, -4294967296, 1)])
theorem oo_Mo_write_at_s5045_2 {kA : Nat → ClassId} : or_ok kA GG o_Mo_write_at_s5045_2 := by
  intro A ta ws vs hD hth hl hk hds hf
  have hl : vs.length = 8 := hl
  have hk : ∀ q ∈ ([(0, (2, 0, 0, [150])), (2, (0, 0, 99999999, [])), (3, (2, 0, 0, [150])), (5, (0, 0, 0, [])), (6, (0, 1, 1, []))] : List (Nat × tv_T)), tv_ok ta q.2 (n_v vs q.1) := hk
  obtain ⟨t0, hk⟩ := List.forall_mem_cons.mp hk
  have t0 : tv_ok ta (2, 0, 0, [150]) (n_v vs 0) := t0
  have r0 : ta (v_ad (n_v vs 0)) = some 150 := tv_rg t0
  obtain ⟨t2, hk⟩ := List.forall_mem_cons.mp hk
  have t2 : tv_ok ta (0, 0, 99999999, []) (n_v vs 2) := t2
  have k2 : 0 ≤ v_iv (n_v vs 2) ∧ v_iv (n_v vs 2) ≤ 99999999 := tv_rng t2
  obtain ⟨t3, hk⟩ := List.forall_mem_cons.mp hk
  have t3 : tv_ok ta (2, 0, 0, [150]) (n_v vs 3) := t3
  have r3 : ta (v_ad (n_v vs 3)) = some 150 := tv_rg t3
  obtain ⟨t5, hk⟩ := List.forall_mem_cons.mp hk
  have t5 : tv_ok ta (0, 0, 0, []) (n_v vs 5) := t5
  have k5 : 0 ≤ v_iv (n_v vs 5) ∧ v_iv (n_v vs 5) ≤ 0 := tv_rng t5
  obtain ⟨t6, hk⟩ := List.forall_mem_cons.mp hk
  have t6 : tv_ok ta (0, 1, 1, []) (n_v vs 6) := t6
  have k6 : 1 ≤ v_iv (n_v vs 6) ∧ v_iv (n_v vs 6) ≤ 1 := tv_rng t6
  have hds : ∀ q ∈ ([(5, 2, -4294967296, 1)] : List of_T), n_iv vs q.2.1 + q.2.2.1 ≤ n_iv vs q.1 ∧ n_iv vs q.1 ≤ n_iv vs q.2.1 + q.2.2.2 := hds
  obtain ⟨d0, hds⟩ := List.forall_mem_cons.mp hds
  have d0 : v_iv (n_v vs 2) + (-4294967296) ≤ v_iv (n_v vs 5) ∧ v_iv (n_v vs 5) ≤ v_iv (n_v vs 2) + 1 := d0
  have hf : fc_ok [(7, [5, 6], [2]), (20, [3, 2, 5], [30, 0, 1, 1, 170, -1, 0, 0, -1, 0, 0]), (24, [0, 3], [])] ta ws vs := hf
  obtain ⟨f0, hf⟩ := fc_un (show (7 : Nat) < 100 from by decide) hf
  have f0 : v_iv (n_v vs 5) < v_iv (n_v vs 6) := f0
  obtain ⟨f1, hf⟩ := fc_un (show (20 : Nat) < 100 from by decide) hf
  have f1 : 1 * w_fi ws (n_v vs 3) 170 + ((-1) * v_iv (n_v vs 2) + ((-1) * v_iv (n_v vs 5) + 0)) ≤ 0 := f1
  obtain ⟨f2, hf⟩ := fc_un (show (24 : Nat) < 100 from by decide) hf
  have f2 : n_v vs 0 = n_v vs 3 := f2
  have q3 : n_v vs 3 = n_v vs 0 := f2.symm
  rw [q3] at f1
  have kz_0_170 : 0 ≤ w_fi ws (n_v vs 0) 170 ∧ w_fi ws (n_v vs 0) 170 ≤ 100000000 := tv_rng (th_fd hD hth r0 (g := GG_150) rfl (k := 170) (t := (0, 0, 100000000, [])) rfl rfl)
  have kv0 : 0 ≤ w_fi ws (n_v vs 0) 170 ∧ w_fi ws (n_v vs 0) 170 ≤ 100000000 := tv_rng (th_fd hD hth r0 (g := GG_150) rfl (k := 170) (t := (0, 0, 100000000, [])) rfl rfl)
  obtain ⟨x, ex, hx⟩ := iv_ex (ta := ta) (lo := 0) (hi := 99999999) (z := w_fi ws (n_v vs 0) 170) (by omega) (by omega) (by omega) (by omega)
  have ex2 : v_iv (Value.int x) = w_fi ws (n_v vs 0) 170 := ex
  have ex3 : 0 ≤ v_iv (Value.int x) ∧ v_iv (Value.int x) ≤ 99999999 := tv_rng hx
  have e_2 : n_v (vs ++ [Value.int x]) 2 = n_v vs 2 := n_v_old (by rw [hl]; decide)
  have e_3 : n_v (vs ++ [Value.int x]) 3 = n_v vs 3 := n_v_old (by rw [hl]; decide)
  have e_5 : n_v (vs ++ [Value.int x]) 5 = n_v vs 5 := n_v_old (by rw [hl]; decide)
  have e_8 : n_v (vs ++ [Value.int x]) 8 = Value.int x := n_v_new hl
  have nf0 : fc_1 (20, [3, 8], [30, 0, 1, 1, 170, -1, 0, 0]) ws (vs ++ [Value.int x]) := by
    refine ⟨fun n hn => ?_, ?_⟩
    · have hn : n ∈ [3, 8] := hn
      rw [List.length_append, hl]
      simp only [List.mem_cons, List.not_mem_nil, or_false] at hn
      show n < 8 + 1; omega
    · show 1 * w_fi ws (n_v (vs ++ [Value.int x]) 3) 170 + ((-1) * v_iv (n_v (vs ++ [Value.int x]) 8) + 0) ≤ 0
      rw [e_3]
      rw [e_8]
      rw [q3]
      omega
  have nf1 : fc_1 (23, [8, 2, 5], [0, 1, -1, -1]) ws (vs ++ [Value.int x]) := by
    refine ⟨fun n hn => ?_, ?_⟩
    · have hn : n ∈ [8, 2, 5] := hn
      rw [List.length_append, hl]
      simp only [List.mem_cons, List.not_mem_nil, or_false] at hn
      show n < 8 + 1; omega
    · show 1 * v_iv (n_v (vs ++ [Value.int x]) 8) + ((-1) * v_iv (n_v (vs ++ [Value.int x]) 2) + ((-1) * v_iv (n_v (vs ++ [Value.int x]) 5) + 0)) ≤ 0
      rw [e_2]
      rw [e_5]
      rw [e_8]
      omega
  exact ⟨(fun _ h => (by cases h)), [Value.int x], ag_one hx, List.forall_mem_cons.mpr ⟨⟨show (20 : Nat) < 100 from by decide, nf0⟩, List.forall_mem_cons.mpr ⟨⟨show (23 : Nat) < 100 from by decide, nf1⟩, (fun _ h => (by cases h))⟩⟩, (fun _ h => (by cases h))⟩
def o_Mo_write_at_s5045_3 : or_T := (2, 10, [(0, (2, 0, 0, [150])), (2, (0, 0, 99999999, [])), (3, (2, 0, 0, [150])), (5, (0, 0, 0, [])), (6, (0, 1, 1, [])), (8, (0, 0, 99999999, [])), (9, (0, 1, 1, []))], [(6, [9, 5], [1]), (23, [8, 2, 5], [0, 1, -1, -1]), (24, [0, 3], []), (20, [3, 8], [30, 1, 1, 1, 170, -1, 0, 0]), (102, [8], [237142198758023568227473377297792835283496928595231875152809132048206089502588928, 13170]), (23, [8, 2, 5], [0, 1, -1, -1]), (7, [5, 6], [2])], [], [], [(20, [3, 2, 9], [30, 0, 1, 1, 170, -1, 0, 0, -1, 0, 0])], [], [(9, 5, 1, 1), (9, 2, -4294967296, 2), (5, 2, -4294967296, 1)])
theorem oo_Mo_write_at_s5045_3 {kA : Nat → ClassId} : or_ok kA GG o_Mo_write_at_s5045_3 := by
  intro A ta ws vs hD hth hl hk hds hf
  have hl : vs.length = 10 := hl
  have hk : ∀ q ∈ ([(0, (2, 0, 0, [150])), (2, (0, 0, 99999999, [])), (3, (2, 0, 0, [150])), (5, (0, 0, 0, [])), (6, (0, 1, 1, [])), (8, (0, 0, 99999999, [])), (9, (0, 1, 1, []))] : List (Nat × tv_T)), tv_ok ta q.2 (n_v vs q.1) := hk
  obtain ⟨t0, hk⟩ := List.forall_mem_cons.mp hk
  have t0 : tv_ok ta (2, 0, 0, [150]) (n_v vs 0) := t0
  have r0 : ta (v_ad (n_v vs 0)) = some 150 := tv_rg t0
  obtain ⟨t2, hk⟩ := List.forall_mem_cons.mp hk
  have t2 : tv_ok ta (0, 0, 99999999, []) (n_v vs 2) := t2
  have k2 : 0 ≤ v_iv (n_v vs 2) ∧ v_iv (n_v vs 2) ≤ 99999999 := tv_rng t2
  obtain ⟨t3, hk⟩ := List.forall_mem_cons.mp hk
  have t3 : tv_ok ta (2, 0, 0, [150]) (n_v vs 3) := t3
  have r3 : ta (v_ad (n_v vs 3)) = some 150 := tv_rg t3
  obtain ⟨t5, hk⟩ := List.forall_mem_cons.mp hk
  have t5 : tv_ok ta (0, 0, 0, []) (n_v vs 5) := t5
  have k5 : 0 ≤ v_iv (n_v vs 5) ∧ v_iv (n_v vs 5) ≤ 0 := tv_rng t5
  obtain ⟨t6, hk⟩ := List.forall_mem_cons.mp hk
  have t6 : tv_ok ta (0, 1, 1, []) (n_v vs 6) := t6
  have k6 : 1 ≤ v_iv (n_v vs 6) ∧ v_iv (n_v vs 6) ≤ 1 := tv_rng t6
  obtain ⟨t8, hk⟩ := List.forall_mem_cons.mp hk
  have t8 : tv_ok ta (0, 0, 99999999, []) (n_v vs 8) := t8
  have k8 : 0 ≤ v_iv (n_v vs 8) ∧ v_iv (n_v vs 8) ≤ 99999999 := tv_rng t8
  obtain ⟨t9, hk⟩ := List.forall_mem_cons.mp hk
  have t9 : tv_ok ta (0, 1, 1, []) (n_v vs 9) := t9
  have k9 : 1 ≤ v_iv (n_v vs 9) ∧ v_iv (n_v vs 9) ≤ 1 := tv_rng t9
  have hds : ∀ q ∈ ([(9, 5, 1, 1), (9, 2, -4294967296, 2), (5, 2, -4294967296, 1)] : List of_T), n_iv vs q.2.1 + q.2.2.1 ≤ n_iv vs q.1 ∧ n_iv vs q.1 ≤ n_iv vs q.2.1 + q.2.2.2 := hds
  obtain ⟨d0, hds⟩ := List.forall_mem_cons.mp hds
  have d0 : v_iv (n_v vs 5) + 1 ≤ v_iv (n_v vs 9) ∧ v_iv (n_v vs 9) ≤ v_iv (n_v vs 5) + 1 := d0
  obtain ⟨d1, hds⟩ := List.forall_mem_cons.mp hds
  have d1 : v_iv (n_v vs 2) + (-4294967296) ≤ v_iv (n_v vs 9) ∧ v_iv (n_v vs 9) ≤ v_iv (n_v vs 2) + 2 := d1
  obtain ⟨d2, hds⟩ := List.forall_mem_cons.mp hds
  have d2 : v_iv (n_v vs 2) + (-4294967296) ≤ v_iv (n_v vs 5) ∧ v_iv (n_v vs 5) ≤ v_iv (n_v vs 2) + 1 := d2
  have hf : fc_ok [(6, [9, 5], [1]), (23, [8, 2, 5], [0, 1, -1, -1]), (24, [0, 3], []), (20, [3, 8], [30, 1, 1, 1, 170, -1, 0, 0]), (102, [8], [237142198758023568227473377297792835283496928595231875152809132048206089502588928, 13170]), (23, [8, 2, 5], [0, 1, -1, -1]), (7, [5, 6], [2])] ta ws vs := hf
  obtain ⟨f0, hf⟩ := fc_un (show (6 : Nat) < 100 from by decide) hf
  have f0 : v_iv (n_v vs 9) = v_iv (n_v vs 5) + 1 := f0
  obtain ⟨f1, hf⟩ := fc_un (show (23 : Nat) < 100 from by decide) hf
  have f1 : 1 * v_iv (n_v vs 8) + ((-1) * v_iv (n_v vs 2) + ((-1) * v_iv (n_v vs 5) + 0)) ≤ 0 := f1
  obtain ⟨f2, hf⟩ := fc_un (show (24 : Nat) < 100 from by decide) hf
  have f2 : n_v vs 0 = n_v vs 3 := f2
  obtain ⟨f3, hf⟩ := fc_un (show (20 : Nat) < 100 from by decide) hf
  have f3 : 1 * w_fi ws (n_v vs 3) 170 + ((-1) * v_iv (n_v vs 8) + 0) ≤ 1 := f3
  obtain ⟨ta1, w1, le1, ⟨_, s1⟩, hf⟩ := fc_us (show ¬ (102 : Nat) < 100 from by decide) hf
  obtain ⟨f5, hf⟩ := fc_un (show (23 : Nat) < 100 from by decide) hf
  have f5 : 1 * v_iv (n_v vs 8) + ((-1) * v_iv (n_v vs 2) + ((-1) * v_iv (n_v vs 5) + 0)) ≤ 0 := f5
  obtain ⟨f6, hf⟩ := fc_un (show (7 : Nat) < 100 from by decide) hf
  have f6 : v_iv (n_v vs 5) < v_iv (n_v vs 6) := f6
  have q3 : n_v vs 3 = n_v vs 0 := f2.symm
  rw [q3] at f3
  have kz_0_170 : 0 ≤ w_fi ws (n_v vs 0) 170 ∧ w_fi ws (n_v vs 0) 170 ≤ 100000000 := tv_rng (th_fd hD hth r0 (g := GG_150) rfl (k := 170) (t := (0, 0, 100000000, [])) rfl rfl)
  have nf0 : fc_1 (20, [3, 2, 9], [30, 0, 1, 1, 170, -1, 0, 0, -1, 0, 0]) ws (vs) := by
    refine ⟨fun n hn => ?_, ?_⟩
    · have hn : n ∈ [3, 2, 9] := hn
      rw [hl]
      simp only [List.mem_cons, List.not_mem_nil, or_false] at hn
      show n < 10; omega
    · show 1 * w_fi ws (n_v vs 3) 170 + ((-1) * v_iv (n_v vs 2) + ((-1) * v_iv (n_v vs 9) + 0)) ≤ 0
      rw [q3]
      omega
  refine ⟨(fun _ h => (by cases h)), [], trivial, ?_, (fun _ h => (by cases h))⟩
  rw [List.append_nil]
  exact List.forall_mem_cons.mpr ⟨⟨show (20 : Nat) < 100 from by decide, nf0⟩, (fun _ h => (by cases h))⟩
def n_Mo_write_at_s5045_an : List an_T := [(2, [(0, (2, 0, 0, [150])), (1, (2, 0, 0, [5045])), (2, (0, 0, 1, []))], [], (0, 0), [(0, 0, 99998), (1, 5, 1), (0, 0, 100000)], [(5, 2, -1000000000000, 1)], [], [(2, 0, 0, [150]), (2, 0, 0, [5045]), (0, 0, 99999999, [])], 0, [], [(20, [3, 2, 5], [30, 0, 1, 1, 170, -1, 0, 0, -1, 0, 0]), (24, [0, 3], [])])]
def t_Mo_write_at_s5045_ct : ct_L := [(16, 448, e_jStr_length_v326), (43, 453, e_jStr_charAt_v327), (52, 1280, e_Mo_write1)]
set_option maxRecDepth 100000 in
theorem c_Mo_write_at_s5045 {l : Launch} {D : va_G} {kA : Nat → ClassId} (h_Mo_write1 : ct_ok l D kA GG y_Mo_write1 z_Mo_write1 e_Mo_write1) : ct_ok l D kA GG y_Mo_write_at_s5045 z_Mo_write_at_s5045 e_Mo_write_at_s5045 := chk_all_ok (FT := []) (PT := []) (CT := t_Mo_write_at_s5045_ct) (KT := []) (NT := []) (AN := n_Mo_write_at_s5045_an) (OT := [o_Mo_write_at_s5045_0, o_Mo_write_at_s5045_1, o_Mo_write_at_s5045_2, o_Mo_write_at_s5045_3]) 3 200 (List.forall_mem_cons.mpr ⟨oo_Mo_write_at_s5045_0, List.forall_mem_cons.mpr ⟨oo_Mo_write_at_s5045_1, List.forall_mem_cons.mpr ⟨oo_Mo_write_at_s5045_2, List.forall_mem_cons.mpr ⟨oo_Mo_write_at_s5045_3, List.forall_mem_nil _⟩⟩⟩⟩) (by decide +kernel) ⟨List.forall_mem_nil _, List.forall_mem_nil _, List.forall_mem_cons.mpr ⟨cl_string (y := y_jStr_length) (i := 45) rfl rfl (by decide +kernel) rfl c_jStr_length_v326 wm_674 wm_11 wm_3003 wm_672 wm_673 ⟨by decide, by decide, by decide +kernel⟩ (by decide), List.forall_mem_cons.mpr ⟨cl_string (y := y_jStr_charAt) (i := 45) rfl rfl (by decide +kernel) rfl c_jStr_charAt_v327 wm_684 wm_11 wm_3004 wm_682 wm_683 ⟨by decide, by decide, by decide +kernel⟩ (by decide), List.forall_mem_cons.mpr ⟨cl_virtual (y := y_Mo_write1) (ci := 13) rfl rfl ⟨_, _, rfl⟩ (by decide +kernel) h_Mo_write1 wm_3914 wm_9 wm_3911 wm_3913 wv_24_8 ⟨by decide, by decide, by decide +kernel⟩ (by decide), List.forall_mem_nil _⟩⟩⟩, List.forall_mem_nil _, List.forall_mem_nil _, GG_pl⟩ (by decide +kernel)
def o_La_stretchRows_0 : or_T := (22, 5, [(0, (2, 0, 0, [4])), (4, (0, 0, 25, []))], [(9, [4, 0], [2]), (20, [0], [30, -1, -1, 1, 2])], [(4, (0, 1, 25, []))], [], [], [], [])
theorem oo_La_stretchRows_0 {kA : Nat → ClassId} : or_ok kA GG o_La_stretchRows_0 := by
  intro A ta ws vs hD hth hl hk hds hf
  have hl : vs.length = 5 := hl
  have hk : ∀ q ∈ ([(0, (2, 0, 0, [4])), (4, (0, 0, 25, []))] : List (Nat × tv_T)), tv_ok ta q.2 (n_v vs q.1) := hk
  obtain ⟨t0, hk⟩ := List.forall_mem_cons.mp hk
  have t0 : tv_ok ta (2, 0, 0, [4]) (n_v vs 0) := t0
  have r0 : ta (v_ad (n_v vs 0)) = some 4 := tv_rg t0
  obtain ⟨t4, hk⟩ := List.forall_mem_cons.mp hk
  have t4 : tv_ok ta (0, 0, 25, []) (n_v vs 4) := t4
  have k4 : 0 ≤ v_iv (n_v vs 4) ∧ v_iv (n_v vs 4) ≤ 25 := tv_rng t4
  have hf : fc_ok [(9, [4, 0], [2]), (20, [0], [30, -1, -1, 1, 2])] ta ws vs := hf
  obtain ⟨f0, hf⟩ := fc_un (show (9 : Nat) < 100 from by decide) hf
  have f0 : n_v vs 4 = w_fd ws (v_ad (n_v vs 0)) 2 := f0
  obtain ⟨f1, hf⟩ := fc_un (show (20 : Nat) < 100 from by decide) hf
  have f1 : (-1) * w_fi ws (n_v vs 0) 2 + 0 ≤ (-1) := f1
  have g0 : v_iv (n_v vs 4) = w_fi ws (n_v vs 0) 2 := congrArg v_iv f0
  have kz_0_2 : 0 ≤ w_fi ws (n_v vs 0) 2 ∧ w_fi ws (n_v vs 0) 2 ≤ 25 := tv_rng (th_fd hD hth r0 (g := GG_4) rfl (k := 2) (t := (0, 0, 25, [])) rfl rfl)
  have rf4 : tv_ok ta (0, 1, 25, []) (n_v vs 4) := tv_in t4 (by omega) (by omega)
  refine ⟨List.forall_mem_cons.mpr ⟨rf4, (fun _ h => (by cases h))⟩, [], trivial, ?_, (fun _ h => (by cases h))⟩
  rw [List.append_nil]
  exact (fun _ h => (by cases h))
def n_La_stretchRows_an : List an_T := [(13, [(0, (2, 0, 0, [4])), (1, (0, 0, 120, []))], [], (0, 0), [(0, 0, 99987), (1, 1, 120), (0, 0, 100000), (0, 0, 0), (0, 0, 0)], [], [((0, 1), (2, 0, 0, [3]))], [], 0, [], [(20, [0], [30, -1, -1, 1, 2])]), (120, [(0, (2, 0, 0, [4])), (1, (0, 0, 25, []))], [], (0, 0), [(0, 0, 99880), (1, 1, 25), (0, 0, 100000), (0, 0, 0), (0, 0, 0)], [], [((0, 1), (2, 0, 0, [3]))], [], 0, [], []), (137, [(0, (2, 0, 0, [4])), (1, (0, 0, 24, [])), (2, (0, 1, 73, []))], [], (0, 0), [(0, 0, 99880), (1, 1, 25), (0, 0, 99863), (1, 2, 73), (0, 0, 100000)], [(2, 1, -1000000000000, 73)], [((0, 1), (2, 0, 0, [3]))], [], 0, [], [])]
def t_La_stretchRows_ct : ct_L := [(1, 142, e_St_begin), (1, 159, e_St_addPiece), (1, 163, e_St_addGap), (1, 166, e_St_solve), (1, 245, e_La_halfOf)]
set_option maxRecDepth 100000 in
theorem c_La_stretchRows {l : Launch} {D : va_G} {kA : Nat → ClassId} (h_La_halfOf : ct_ok l D kA GG y_La_halfOf z_La_halfOf e_La_halfOf) (h_St_addGap : ct_ok l D kA GG y_St_addGap z_St_addGap e_St_addGap) (h_St_addPiece : ct_ok l D kA GG y_St_addPiece z_St_addPiece e_St_addPiece) (h_St_begin : ct_ok l D kA GG y_St_begin z_St_begin e_St_begin) (h_St_solve : ct_ok l D kA GG y_St_solve z_St_solve e_St_solve) : ct_ok l D kA GG y_La_stretchRows z_La_stretchRows e_La_stretchRows := chk_all_ok (FT := [(12, 4, 0), (18, 4, 1), (22, 4, 2), (26, 4, 3), (36, 4, 6), (39, 4, 7), (42, 4, 8), (45, 4, 9), (48, 4, 10), (57, 4, 13), (139, 3, 0)]) (PT := []) (CT := t_La_stretchRows_ct) (KT := []) (NT := []) (AN := n_La_stretchRows_an) (OT := [o_La_stretchRows_0]) 5 880 (List.forall_mem_cons.mpr ⟨oo_La_stretchRows_0, List.forall_mem_nil _⟩) (by decide +kernel) ⟨List.forall_mem_cons.mpr ⟨gf_La_12, List.forall_mem_cons.mpr ⟨gf_La_18, List.forall_mem_cons.mpr ⟨gf_La_22, List.forall_mem_cons.mpr ⟨gf_La_26, List.forall_mem_cons.mpr ⟨gf_La_36, List.forall_mem_cons.mpr ⟨gf_La_39, List.forall_mem_cons.mpr ⟨gf_La_42, List.forall_mem_cons.mpr ⟨gf_La_45, List.forall_mem_cons.mpr ⟨gf_La_48, List.forall_mem_cons.mpr ⟨gf_La_57, List.forall_mem_cons.mpr ⟨gf_La_139, List.forall_mem_nil _⟩⟩⟩⟩⟩⟩⟩⟩⟩⟩⟩, List.forall_mem_nil _, List.forall_mem_cons.mpr ⟨cl_virtual (y := y_St_begin) (ci := 10) rfl rfl ⟨_, _, rfl⟩ (by decide +kernel) h_St_begin wm_1317 wm_19 wm_1314 wm_1315 wm_1316 ⟨by decide, by decide, by decide +kernel⟩ (by decide), List.forall_mem_cons.mpr ⟨cl_virtual (y := y_St_addPiece) (ci := 10) rfl rfl ⟨_, _, rfl⟩ (by decide +kernel) h_St_addPiece wm_1329 wm_19 wm_1326 wm_1327 wm_1328 ⟨by decide, by decide, by decide +kernel⟩ (by decide), List.forall_mem_cons.mpr ⟨cl_virtual (y := y_St_addGap) (ci := 10) rfl rfl ⟨_, _, rfl⟩ (by decide +kernel) h_St_addGap wm_1337 wm_19 wm_1334 wm_1335 wm_1336 ⟨by decide, by decide, by decide +kernel⟩ (by decide), List.forall_mem_cons.mpr ⟨cl_virtual (y := y_St_solve) (ci := 10) rfl rfl ⟨_, _, rfl⟩ (by decide +kernel) h_St_solve wm_1342 wm_19 wm_1339 wm_1340 wm_1341 ⟨by decide, by decide, by decide +kernel⟩ (by decide), List.forall_mem_cons.mpr ⟨cl_virtual (y := y_La_halfOf) (ci := 4) rfl rfl ⟨_, _, rfl⟩ (by decide +kernel) h_La_halfOf wm_1448 wm_18 wm_1445 wm_1447 wv_6_2 ⟨by decide, by decide, by decide +kernel⟩ (by decide), List.forall_mem_nil _⟩⟩⟩⟩⟩, List.forall_mem_nil _, List.forall_mem_nil _, GG_pl⟩ (by decide +kernel)
def n_Mo_areaOf_an : List an_T := []
def t_Mo_areaOf_ct : ct_L := [(1, 1157, e_Mo_bounds)]
set_option maxRecDepth 100000 in
theorem c_Mo_areaOf {l : Launch} {D : va_G} {kA : Nat → ClassId} (h_Mo_bounds : ct_ok l D kA GG y_Mo_bounds z_Mo_bounds e_Mo_bounds) : ct_ok l D kA GG y_Mo_areaOf z_Mo_areaOf e_Mo_areaOf := chk_all_ok (FT := [(1142, 13, 153), (1145, 13, 154), (1148, 13, 155), (1151, 13, 156)]) (PT := []) (CT := t_Mo_areaOf_ct) (KT := []) (NT := []) (AN := n_Mo_areaOf_an) (OT := []) 0 200 (List.forall_mem_nil _) (by decide +kernel) ⟨List.forall_mem_cons.mpr ⟨gf_Mo_1142, List.forall_mem_cons.mpr ⟨gf_Mo_1145, List.forall_mem_cons.mpr ⟨gf_Mo_1148, List.forall_mem_cons.mpr ⟨gf_Mo_1151, List.forall_mem_nil _⟩⟩⟩⟩, List.forall_mem_nil _, List.forall_mem_cons.mpr ⟨cl_virtual (y := y_Mo_bounds) (ci := 13) rfl rfl ⟨_, _, rfl⟩ (by decide +kernel) h_Mo_bounds wm_3778 wm_9 wm_3775 wm_3777 wv_23_0 ⟨by decide, by decide, by decide +kernel⟩ (by decide), List.forall_mem_nil _⟩, List.forall_mem_nil _, List.forall_mem_nil _, GG_pl⟩ (by decide +kernel)
def n_Mo_areas_an : List an_T := [(17, [(0, (2, 0, 0, [150])), (1, (0, 0, 3, [])), (2, (0, 8, 512, [])), (3, (0, 0, 32, []))], [], (0, 0), [(0, 0, 99983), (1, 3, 32), (0, 0, 100000)], [], [], [], 0, [], []), (54, [(0, (2, 0, 0, [150])), (1, (0, 0, 3, [])), (2, (0, 8, 512, [])), (3, (0, 0, 8, []))], [], (0, 0), [(0, 0, 99946), (1, 3, 8), (0, 0, 100000)], [], [], [], 0, [], []), (135, [(0, (2, 0, 0, [150])), (1, (0, 0, 3, [])), (2, (0, 8, 512, [])), (3, (0, 0, 24, []))], [], (0, 0), [(0, 0, 99865), (1, 3, 24), (0, 0, 100000)], [], [], [], 0, [], [])]
def t_Mo_areas_ct : ct_L := [(0, 387, e_Mo_in), (1, 475, e_Mo_nodes), (1, 509, e_Mo_groups), (1, 745, e_Mo_sizeOfGroup), (1, 960, e_Mo_setBox), (1, 964, e_Mo_gather), (1, 967, e_Mo_squares)]
set_option maxRecDepth 100000 in
theorem c_Mo_areas {l : Launch} {D : va_G} {kA : Nat → ClassId} (h_Mo_gather : ct_ok l D kA GG y_Mo_gather z_Mo_gather e_Mo_gather) (h_Mo_groups : ct_ok l D kA GG y_Mo_groups z_Mo_groups e_Mo_groups) (h_Mo_in : ct_ok l D kA GG y_Mo_in z_Mo_in e_Mo_in) (h_Mo_nodes : ct_ok l D kA GG y_Mo_nodes z_Mo_nodes e_Mo_nodes) (h_Mo_setBox : ct_ok l D kA GG y_Mo_setBox z_Mo_setBox e_Mo_setBox) (h_Mo_sizeOfGroup : ct_ok l D kA GG y_Mo_sizeOfGroup z_Mo_sizeOfGroup e_Mo_sizeOfGroup) (h_Mo_squares : ct_ok l D kA GG y_Mo_squares z_Mo_squares e_Mo_squares) : ct_ok l D kA GG y_Mo_areas z_Mo_areas e_Mo_areas := chk_all_ok (FT := [(150, 13, 71), (153, 13, 72), (159, 13, 74), (162, 13, 75)]) (PT := []) (CT := t_Mo_areas_ct) (KT := []) (NT := []) (AN := n_Mo_areas_an) (OT := []) 3 564 (List.forall_mem_nil _) (by decide +kernel) ⟨List.forall_mem_cons.mpr ⟨gf_Mo_150, List.forall_mem_cons.mpr ⟨gf_Mo_153, List.forall_mem_cons.mpr ⟨gf_Mo_159, List.forall_mem_cons.mpr ⟨gf_Mo_162, List.forall_mem_nil _⟩⟩⟩⟩, List.forall_mem_nil _, List.forall_mem_cons.mpr ⟨cl_static (y := y_Mo_in) h_Mo_in wm_2971 wm_9 wm_2969 wm_2970 ⟨by decide, by decide, by decide +kernel⟩ (by decide), List.forall_mem_cons.mpr ⟨cl_virtual (y := y_Mo_nodes) (ci := 13) rfl rfl ⟨_, _, rfl⟩ (by decide +kernel) h_Mo_nodes wm_3025 wm_9 wm_3022 wm_3024 wv_13_3 ⟨by decide, by decide, by decide +kernel⟩ (by decide), List.forall_mem_cons.mpr ⟨cl_virtual (y := y_Mo_groups) (ci := 13) rfl rfl ⟨_, _, rfl⟩ (by decide +kernel) h_Mo_groups wm_3070 wm_9 wm_3067 wm_3069 wv_13_14 ⟨by decide, by decide, by decide +kernel⟩ (by decide), List.forall_mem_cons.mpr ⟨cl_virtual (y := y_Mo_sizeOfGroup) (ci := 13) rfl rfl ⟨_, _, rfl⟩ (by decide +kernel) h_Mo_sizeOfGroup wm_3351 wm_9 wm_3348 wm_3350 wv_17_9 ⟨by decide, by decide, by decide +kernel⟩ (by decide), List.forall_mem_cons.mpr ⟨cl_virtual (y := y_Mo_setBox) (ci := 13) rfl rfl ⟨_, _, rfl⟩ (by decide +kernel) h_Mo_setBox wm_3588 wm_9 wm_3585 wm_3587 wv_21_0 ⟨by decide, by decide, by decide +kernel⟩ (by decide), List.forall_mem_cons.mpr ⟨cl_virtual (y := y_Mo_gather) (ci := 13) rfl rfl ⟨_, _, rfl⟩ (by decide +kernel) h_Mo_gather wm_3592 wm_9 wm_3589 wm_3591 wv_21_1 ⟨by decide, by decide, by decide +kernel⟩ (by decide), List.forall_mem_cons.mpr ⟨cl_virtual (y := y_Mo_squares) (ci := 13) rfl rfl ⟨_, _, rfl⟩ (by decide +kernel) h_Mo_squares wm_3600 wm_9 wm_3597 wm_3599 wv_21_3 ⟨by decide, by decide, by decide +kernel⟩ (by decide), List.forall_mem_nil _⟩⟩⟩⟩⟩⟩⟩, List.forall_mem_nil _, List.forall_mem_nil _, GG_pl⟩ (by decide +kernel)
def n_Mo_edgeWord_an : List an_T := []
def t_Mo_edgeWord_ct : ct_L := [(16, 1190, e_Mo_word_at_s5003), (58, 1190, e_Mo_word_at_s5033), (100, 1190, e_Mo_word_at_s5034), (142, 1190, e_Mo_word_at_s5035), (184, 1190, e_Mo_word_at_s5036), (226, 1190, e_Mo_word_at_s5037), (268, 1190, e_Mo_word_at_s5038), (313, 1190, e_Mo_word_at_s5039), (1000001, 519, en_ro [] (2, 0, 0, [5003])), (1000001, 1267, en_ro [] (2, 0, 0, [5033])), (1000001, 1268, en_ro [] (2, 0, 0, [5034])), (1000001, 1270, en_ro [] (2, 0, 0, [5035])), (1000001, 1271, en_ro [] (2, 0, 0, [5036])), (1000001, 1272, en_ro [] (2, 0, 0, [5037])), (1000001, 1274, en_ro [] (2, 0, 0, [5038])), (1000001, 1276, en_ro [] (2, 0, 0, [5039]))]
set_option maxRecDepth 100000 in
theorem c_Mo_edgeWord {l : Launch} {D : va_G} {kA : Nat → ClassId} (h_Mo_word_at_s5003 : ct_ok l D kA GG y_Mo_word_at_s5003 z_Mo_word_at_s5003 e_Mo_word_at_s5003) (h_Mo_word_at_s5033 : ct_ok l D kA GG y_Mo_word_at_s5033 z_Mo_word_at_s5033 e_Mo_word_at_s5033) (h_Mo_word_at_s5034 : ct_ok l D kA GG y_Mo_word_at_s5034 z_Mo_word_at_s5034 e_Mo_word_at_s5034) (h_Mo_word_at_s5035 : ct_ok l D kA GG y_Mo_word_at_s5035 z_Mo_word_at_s5035 e_Mo_word_at_s5035) (h_Mo_word_at_s5036 : ct_ok l D kA GG y_Mo_word_at_s5036 z_Mo_word_at_s5036 e_Mo_word_at_s5036) (h_Mo_word_at_s5037 : ct_ok l D kA GG y_Mo_word_at_s5037 z_Mo_word_at_s5037 e_Mo_word_at_s5037) (h_Mo_word_at_s5038 : ct_ok l D kA GG y_Mo_word_at_s5038 z_Mo_word_at_s5038 e_Mo_word_at_s5038) (h_Mo_word_at_s5039 : ct_ok l D kA GG y_Mo_word_at_s5039 z_Mo_word_at_s5039 e_Mo_word_at_s5039) : ct_ok l D kA GG y_Mo_edgeWord z_Mo_edgeWord e_Mo_edgeWord := chk_all_ok (FT := []) (PT := []) (CT := t_Mo_edgeWord_ct) (KT := []) (NT := []) (AN := n_Mo_edgeWord_an) (OT := []) 0 232 (List.forall_mem_nil _) (by decide +kernel) ⟨List.forall_mem_nil _, List.forall_mem_nil _, List.forall_mem_cons.mpr ⟨cl_virtual (y := y_Mo_word_at_s5003) (ci := 13) rfl rfl ⟨_, _, rfl⟩ (by decide +kernel) h_Mo_word_at_s5003 wm_3809 wm_9 wm_3806 wm_3808 wv_23_6 ⟨by decide, by decide, by decide +kernel⟩ (by decide), List.forall_mem_cons.mpr ⟨cl_virtual (y := y_Mo_word_at_s5033) (ci := 13) rfl rfl ⟨_, _, rfl⟩ (by decide +kernel) h_Mo_word_at_s5033 wm_3809 wm_9 wm_3806 wm_3808 wv_23_6 ⟨by decide, by decide, by decide +kernel⟩ (by decide), List.forall_mem_cons.mpr ⟨cl_virtual (y := y_Mo_word_at_s5034) (ci := 13) rfl rfl ⟨_, _, rfl⟩ (by decide +kernel) h_Mo_word_at_s5034 wm_3809 wm_9 wm_3806 wm_3808 wv_23_6 ⟨by decide, by decide, by decide +kernel⟩ (by decide), List.forall_mem_cons.mpr ⟨cl_virtual (y := y_Mo_word_at_s5035) (ci := 13) rfl rfl ⟨_, _, rfl⟩ (by decide +kernel) h_Mo_word_at_s5035 wm_3809 wm_9 wm_3806 wm_3808 wv_23_6 ⟨by decide, by decide, by decide +kernel⟩ (by decide), List.forall_mem_cons.mpr ⟨cl_virtual (y := y_Mo_word_at_s5036) (ci := 13) rfl rfl ⟨_, _, rfl⟩ (by decide +kernel) h_Mo_word_at_s5036 wm_3809 wm_9 wm_3806 wm_3808 wv_23_6 ⟨by decide, by decide, by decide +kernel⟩ (by decide), List.forall_mem_cons.mpr ⟨cl_virtual (y := y_Mo_word_at_s5037) (ci := 13) rfl rfl ⟨_, _, rfl⟩ (by decide +kernel) h_Mo_word_at_s5037 wm_3809 wm_9 wm_3806 wm_3808 wv_23_6 ⟨by decide, by decide, by decide +kernel⟩ (by decide), List.forall_mem_cons.mpr ⟨cl_virtual (y := y_Mo_word_at_s5038) (ci := 13) rfl rfl ⟨_, _, rfl⟩ (by decide +kernel) h_Mo_word_at_s5038 wm_3809 wm_9 wm_3806 wm_3808 wv_23_6 ⟨by decide, by decide, by decide +kernel⟩ (by decide), List.forall_mem_cons.mpr ⟨cl_virtual (y := y_Mo_word_at_s5039) (ci := 13) rfl rfl ⟨_, _, rfl⟩ (by decide +kernel) h_Mo_word_at_s5039 wm_3809 wm_9 wm_3806 wm_3808 wv_23_6 ⟨by decide, by decide, by decide +kernel⟩ (by decide), List.forall_mem_cons.mpr ⟨cl_ldcw (own := "DrawingHouseModel") (idx := 519) (i := 3) (tx := "weight") (by decide +kernel) (by decide +kernel) (by decide +kernel), List.forall_mem_cons.mpr ⟨cl_ldcw (own := "DrawingHouseModel") (idx := 1267) (i := 33) (tx := "turned") (by decide +kernel) (by decide +kernel) (by decide +kernel), List.forall_mem_cons.mpr ⟨cl_ldcw (own := "DrawingHouseModel") (idx := 1268) (i := 34) (tx := "bridge") (by decide +kernel) (by decide +kernel) (by decide +kernel), List.forall_mem_cons.mpr ⟨cl_ldcw (own := "DrawingHouseModel") (idx := 1270) (i := 35) (tx := "from") (by decide +kernel) (by decide +kernel) (by decide +kernel), List.forall_mem_cons.mpr ⟨cl_ldcw (own := "DrawingHouseModel") (idx := 1271) (i := 36) (tx := "to") (by decide +kernel) (by decide +kernel) (by decide +kernel), List.forall_mem_cons.mpr ⟨cl_ldcw (own := "DrawingHouseModel") (idx := 1272) (i := 37) (tx := "block") (by decide +kernel) (by decide +kernel) (by decide +kernel), List.forall_mem_cons.mpr ⟨cl_ldcw (own := "DrawingHouseModel") (idx := 1274) (i := 38) (tx := "long") (by decide +kernel) (by decide +kernel) (by decide +kernel), List.forall_mem_cons.mpr ⟨cl_ldcw (own := "DrawingHouseModel") (idx := 1276) (i := 39) (tx := "one") (by decide +kernel) (by decide +kernel) (by decide +kernel), List.forall_mem_nil _⟩⟩⟩⟩⟩⟩⟩⟩⟩⟩⟩⟩⟩⟩⟩⟩, List.forall_mem_nil _, List.forall_mem_nil _, GG_pl⟩ (by decide +kernel)
def n_Mo_nodeWord_an : List an_T := []
def t_Mo_nodeWord_ct : ct_L := [(16, 1190, e_Mo_word_at_s5025), (58, 1190, e_Mo_word_at_s5026), (100, 1190, e_Mo_word_at_s5027), (142, 1190, e_Mo_word_at_s5002), (184, 1190, e_Mo_word_at_s5001), (226, 1190, e_Mo_word_at_s5028), (268, 1190, e_Mo_word_at_s5029), (313, 1190, e_Mo_word_at_s5030), (358, 1190, e_Mo_word_at_s5031), (403, 1190, e_Mo_word_at_s5032), (1000001, 473, en_ro [] (2, 0, 0, [5001])), (1000001, 497, en_ro [] (2, 0, 0, [5002])), (1000001, 1254, en_ro [] (2, 0, 0, [5025])), (1000001, 1256, en_ro [] (2, 0, 0, [5026])), (1000001, 1257, en_ro [] (2, 0, 0, [5027])), (1000001, 1259, en_ro [] (2, 0, 0, [5028])), (1000001, 1261, en_ro [] (2, 0, 0, [5029])), (1000001, 1262, en_ro [] (2, 0, 0, [5030])), (1000001, 1263, en_ro [] (2, 0, 0, [5031])), (1000001, 1265, en_ro [] (2, 0, 0, [5032]))]
set_option maxRecDepth 100000 in
theorem c_Mo_nodeWord {l : Launch} {D : va_G} {kA : Nat → ClassId} (h_Mo_word_at_s5001 : ct_ok l D kA GG y_Mo_word_at_s5001 z_Mo_word_at_s5001 e_Mo_word_at_s5001) (h_Mo_word_at_s5002 : ct_ok l D kA GG y_Mo_word_at_s5002 z_Mo_word_at_s5002 e_Mo_word_at_s5002) (h_Mo_word_at_s5025 : ct_ok l D kA GG y_Mo_word_at_s5025 z_Mo_word_at_s5025 e_Mo_word_at_s5025) (h_Mo_word_at_s5026 : ct_ok l D kA GG y_Mo_word_at_s5026 z_Mo_word_at_s5026 e_Mo_word_at_s5026) (h_Mo_word_at_s5027 : ct_ok l D kA GG y_Mo_word_at_s5027 z_Mo_word_at_s5027 e_Mo_word_at_s5027) (h_Mo_word_at_s5028 : ct_ok l D kA GG y_Mo_word_at_s5028 z_Mo_word_at_s5028 e_Mo_word_at_s5028) (h_Mo_word_at_s5029 : ct_ok l D kA GG y_Mo_word_at_s5029 z_Mo_word_at_s5029 e_Mo_word_at_s5029) (h_Mo_word_at_s5030 : ct_ok l D kA GG y_Mo_word_at_s5030 z_Mo_word_at_s5030 e_Mo_word_at_s5030) (h_Mo_word_at_s5031 : ct_ok l D kA GG y_Mo_word_at_s5031 z_Mo_word_at_s5031 e_Mo_word_at_s5031) (h_Mo_word_at_s5032 : ct_ok l D kA GG y_Mo_word_at_s5032 z_Mo_word_at_s5032 e_Mo_word_at_s5032) : ct_ok l D kA GG y_Mo_nodeWord z_Mo_nodeWord e_Mo_nodeWord := chk_all_ok (FT := []) (PT := []) (CT := t_Mo_nodeWord_ct) (KT := []) (NT := []) (AN := n_Mo_nodeWord_an) (OT := []) 0 288 (List.forall_mem_nil _) (by decide +kernel) ⟨List.forall_mem_nil _, List.forall_mem_nil _, List.forall_mem_cons.mpr ⟨cl_virtual (y := y_Mo_word_at_s5025) (ci := 13) rfl rfl ⟨_, _, rfl⟩ (by decide +kernel) h_Mo_word_at_s5025 wm_3809 wm_9 wm_3806 wm_3808 wv_23_6 ⟨by decide, by decide, by decide +kernel⟩ (by decide), List.forall_mem_cons.mpr ⟨cl_virtual (y := y_Mo_word_at_s5026) (ci := 13) rfl rfl ⟨_, _, rfl⟩ (by decide +kernel) h_Mo_word_at_s5026 wm_3809 wm_9 wm_3806 wm_3808 wv_23_6 ⟨by decide, by decide, by decide +kernel⟩ (by decide), List.forall_mem_cons.mpr ⟨cl_virtual (y := y_Mo_word_at_s5027) (ci := 13) rfl rfl ⟨_, _, rfl⟩ (by decide +kernel) h_Mo_word_at_s5027 wm_3809 wm_9 wm_3806 wm_3808 wv_23_6 ⟨by decide, by decide, by decide +kernel⟩ (by decide), List.forall_mem_cons.mpr ⟨cl_virtual (y := y_Mo_word_at_s5002) (ci := 13) rfl rfl ⟨_, _, rfl⟩ (by decide +kernel) h_Mo_word_at_s5002 wm_3809 wm_9 wm_3806 wm_3808 wv_23_6 ⟨by decide, by decide, by decide +kernel⟩ (by decide), List.forall_mem_cons.mpr ⟨cl_virtual (y := y_Mo_word_at_s5001) (ci := 13) rfl rfl ⟨_, _, rfl⟩ (by decide +kernel) h_Mo_word_at_s5001 wm_3809 wm_9 wm_3806 wm_3808 wv_23_6 ⟨by decide, by decide, by decide +kernel⟩ (by decide), List.forall_mem_cons.mpr ⟨cl_virtual (y := y_Mo_word_at_s5028) (ci := 13) rfl rfl ⟨_, _, rfl⟩ (by decide +kernel) h_Mo_word_at_s5028 wm_3809 wm_9 wm_3806 wm_3808 wv_23_6 ⟨by decide, by decide, by decide +kernel⟩ (by decide), List.forall_mem_cons.mpr ⟨cl_virtual (y := y_Mo_word_at_s5029) (ci := 13) rfl rfl ⟨_, _, rfl⟩ (by decide +kernel) h_Mo_word_at_s5029 wm_3809 wm_9 wm_3806 wm_3808 wv_23_6 ⟨by decide, by decide, by decide +kernel⟩ (by decide), List.forall_mem_cons.mpr ⟨cl_virtual (y := y_Mo_word_at_s5030) (ci := 13) rfl rfl ⟨_, _, rfl⟩ (by decide +kernel) h_Mo_word_at_s5030 wm_3809 wm_9 wm_3806 wm_3808 wv_23_6 ⟨by decide, by decide, by decide +kernel⟩ (by decide), List.forall_mem_cons.mpr ⟨cl_virtual (y := y_Mo_word_at_s5031) (ci := 13) rfl rfl ⟨_, _, rfl⟩ (by decide +kernel) h_Mo_word_at_s5031 wm_3809 wm_9 wm_3806 wm_3808 wv_23_6 ⟨by decide, by decide, by decide +kernel⟩ (by decide), List.forall_mem_cons.mpr ⟨cl_virtual (y := y_Mo_word_at_s5032) (ci := 13) rfl rfl ⟨_, _, rfl⟩ (by decide +kernel) h_Mo_word_at_s5032 wm_3809 wm_9 wm_3806 wm_3808 wv_23_6 ⟨by decide, by decide, by decide +kernel⟩ (by decide), List.forall_mem_cons.mpr ⟨cl_ldcw (own := "DrawingHouseModel") (idx := 473) (i := 1) (tx := "group") (by decide +kernel) (by decide +kernel) (by decide +kernel), List.forall_mem_cons.mpr ⟨cl_ldcw (own := "DrawingHouseModel") (idx := 497) (i := 2) (tx := "size") (by decide +kernel) (by decide +kernel) (by decide +kernel), List.forall_mem_cons.mpr ⟨cl_ldcw (own := "DrawingHouseModel") (idx := 1254) (i := 25) (tx := "deg") (by decide +kernel) (by decide +kernel) (by decide +kernel), List.forall_mem_cons.mpr ⟨cl_ldcw (own := "DrawingHouseModel") (idx := 1256) (i := 26) (tx := "in") (by decide +kernel) (by decide +kernel) (by decide +kernel), List.forall_mem_cons.mpr ⟨cl_ldcw (own := "DrawingHouseModel") (idx := 1257) (i := 27) (tx := "out") (by decide +kernel) (by decide +kernel) (by decide +kernel), List.forall_mem_cons.mpr ⟨cl_ldcw (own := "DrawingHouseModel") (idx := 1259) (i := 28) (tx := "far") (by decide +kernel) (by decide +kernel) (by decide +kernel), List.forall_mem_cons.mpr ⟨cl_ldcw (own := "DrawingHouseModel") (idx := 1261) (i := 29) (tx := "core") (by decide +kernel) (by decide +kernel) (by decide +kernel), List.forall_mem_cons.mpr ⟨cl_ldcw (own := "DrawingHouseModel") (idx := 1262) (i := 30) (tx := "cut") (by decide +kernel) (by decide +kernel) (by decide +kernel), List.forall_mem_cons.mpr ⟨cl_ldcw (own := "DrawingHouseModel") (idx := 1263) (i := 31) (tx := "x") (by decide +kernel) (by decide +kernel) (by decide +kernel), List.forall_mem_cons.mpr ⟨cl_ldcw (own := "DrawingHouseModel") (idx := 1265) (i := 32) (tx := "y") (by decide +kernel) (by decide +kernel) (by decide +kernel), List.forall_mem_nil _⟩⟩⟩⟩⟩⟩⟩⟩⟩⟩⟩⟩⟩⟩⟩⟩⟩⟩⟩⟩, List.forall_mem_nil _, List.forall_mem_nil _, GG_pl⟩ (by decide +kernel)
def n_Mo_turnEdges_an : List an_T := [(8, [(0, (2, 0, 0, [150])), (1, (0, 0, 24, [])), (2, (0, 0, 48, []))], [], (0, 0), [(0, 0, 99992), (1, 2, 48), (0, 0, 100000), (0, 0, 0), (0, 0, 0)], [(1, 2, -1000000000000, 24)], [], [], 0, [], []), (31, [(0, (2, 0, 0, [150])), (1, (0, 0, 24, [])), (2, (0, 0, 24, []))], [], (0, 0), [(0, 0, 99969), (1, 2, 24), (0, 0, 100000), (0, 0, 0), (0, 0, 0)], [(1, 2, -1000000000000, 24), (1, 3, -1000000000000, 24), (2, 1, -1000000000000, 0), (3, 1, -1000000000000, 26), (3, 2, -1000000000000, 26)], [((0, 99), (0, 0, 26, []))], [], 0, [], []), (43, [(0, (2, 0, 0, [150])), (1, (0, 1, 24, [])), (2, (0, 0, 23, [])), (3, (0, 0, 24, []))], [], (0, 0), [(0, 0, 99969), (1, 2, 24), (0, 0, 99957), (1, 3, 24), (0, 0, 100000)], [(1, 2, -1000000000000, 24), (1, 3, -1000000000000, 24), (1, 4, -1000000000000, 24), (2, 1, -1000000000000, -1), (4, 3, -1000000000000, 0)], [((0, 99), (0, 0, 24, []))], [], 0, [], []), (123, [(0, (2, 0, 0, [150])), (1, (0, 1, 24, [])), (2, (0, 0, 23, [])), (3, (0, 0, 48, []))], [], (0, 0), [(0, 0, 99969), (1, 2, 24), (0, 0, 99877), (1, 3, 48), (0, 0, 100000)], [(1, 2, -1000000000000, 24), (1, 3, -1000000000000, 24), (2, 1, -1000000000000, -1)], [], [], 0, [], [])]
def t_Mo_turnEdges_ct : ct_L := [(1, 394, e_Mo_tail), (1, 398, e_Mo_head), (1, 401, e_Mo_edges), (1, 475, e_Mo_nodes), (1, 719, e_Mo_strong), (1, 798, e_Mo_bestOrder), (1, 801, e_Mo_greedyOrder), (1, 804, e_Mo_placeIn)]
set_option maxRecDepth 100000 in
theorem c_Mo_turnEdges {l : Launch} {D : va_G} {kA : Nat → ClassId} (h_Mo_bestOrder : ct_ok l D kA GG y_Mo_bestOrder z_Mo_bestOrder e_Mo_bestOrder) (h_Mo_edges : ct_ok l D kA GG y_Mo_edges z_Mo_edges e_Mo_edges) (h_Mo_greedyOrder : ct_ok l D kA GG y_Mo_greedyOrder z_Mo_greedyOrder e_Mo_greedyOrder) (h_Mo_head : ct_ok l D kA GG y_Mo_head z_Mo_head e_Mo_head) (h_Mo_nodes : ct_ok l D kA GG y_Mo_nodes z_Mo_nodes e_Mo_nodes) (h_Mo_placeIn : ct_ok l D kA GG y_Mo_placeIn z_Mo_placeIn e_Mo_placeIn) (h_Mo_strong : ct_ok l D kA GG y_Mo_strong z_Mo_strong e_Mo_strong) (h_Mo_tail : ct_ok l D kA GG y_Mo_tail z_Mo_tail e_Mo_tail) : ct_ok l D kA GG y_Mo_turnEdges z_Mo_turnEdges e_Mo_turnEdges := chk_all_ok (FT := [(35, 13, 18), (210, 13, 95), (219, 13, 98), (795, 13, 99)]) (PT := [(795, 13, 99, .int)]) (CT := t_Mo_turnEdges_ct) (KT := []) (NT := []) (AN := n_Mo_turnEdges_an) (OT := []) 5 496 (List.forall_mem_nil _) (by decide +kernel) ⟨List.forall_mem_cons.mpr ⟨gf_Mo_35, List.forall_mem_cons.mpr ⟨gf_Mo_210, List.forall_mem_cons.mpr ⟨gf_Mo_219, List.forall_mem_cons.mpr ⟨gf_Mo_795, List.forall_mem_nil _⟩⟩⟩⟩, List.forall_mem_cons.mpr ⟨pf_Mo_795, List.forall_mem_nil _⟩, List.forall_mem_cons.mpr ⟨cl_virtual (y := y_Mo_tail) (ci := 13) rfl rfl ⟨_, _, rfl⟩ (by decide +kernel) h_Mo_tail wm_3045 wm_9 wm_3042 wm_3044 wv_13_8 ⟨by decide, by decide, by decide +kernel⟩ (by decide), List.forall_mem_cons.mpr ⟨cl_virtual (y := y_Mo_head) (ci := 13) rfl rfl ⟨_, _, rfl⟩ (by decide +kernel) h_Mo_head wm_3049 wm_9 wm_3046 wm_3048 wv_13_9 ⟨by decide, by decide, by decide +kernel⟩ (by decide), List.forall_mem_cons.mpr ⟨cl_virtual (y := y_Mo_edges) (ci := 13) rfl rfl ⟨_, _, rfl⟩ (by decide +kernel) h_Mo_edges wm_3037 wm_9 wm_3034 wm_3036 wv_13_6 ⟨by decide, by decide, by decide +kernel⟩ (by decide), List.forall_mem_cons.mpr ⟨cl_virtual (y := y_Mo_nodes) (ci := 13) rfl rfl ⟨_, _, rfl⟩ (by decide +kernel) h_Mo_nodes wm_3025 wm_9 wm_3022 wm_3024 wv_13_3 ⟨by decide, by decide, by decide +kernel⟩ (by decide), List.forall_mem_cons.mpr ⟨cl_virtual (y := y_Mo_strong) (ci := 13) rfl rfl ⟨_, _, rfl⟩ (by decide +kernel) h_Mo_strong wm_3291 wm_9 wm_3288 wm_3290 wv_16_13 ⟨by decide, by decide, by decide +kernel⟩ (by decide), List.forall_mem_cons.mpr ⟨cl_virtual (y := y_Mo_bestOrder) (ci := 13) rfl rfl ⟨_, _, rfl⟩ (by decide +kernel) h_Mo_bestOrder wm_3379 wm_9 wm_3376 wm_3378 wv_17_13 ⟨by decide, by decide, by decide +kernel⟩ (by decide), List.forall_mem_cons.mpr ⟨cl_virtual (y := y_Mo_greedyOrder) (ci := 13) rfl rfl ⟨_, _, rfl⟩ (by decide +kernel) h_Mo_greedyOrder wm_3387 wm_9 wm_3384 wm_3386 wv_17_15 ⟨by decide, by decide, by decide +kernel⟩ (by decide), List.forall_mem_cons.mpr ⟨cl_virtual (y := y_Mo_placeIn) (ci := 13) rfl rfl ⟨_, _, rfl⟩ (by decide +kernel) h_Mo_placeIn wm_3391 wm_9 wm_3388 wm_3390 wv_18_0 ⟨by decide, by decide, by decide +kernel⟩ (by decide), List.forall_mem_nil _⟩⟩⟩⟩⟩⟩⟩⟩, List.forall_mem_nil _, List.forall_mem_nil _, GG_pl⟩ (by decide +kernel)
def n_Fa_learnTurned_an : List an_T := [(10, [(0, (2, 0, 0, [2])), (1, (2, 0, 0, [3])), (2, (0, 0, 48, []))], [], (0, 0), [(0, 0, 99990), (1, 2, 48), (0, 0, 100000)], [], [], [], 0, [], []), (61, [(0, (2, 0, 0, [2])), (1, (2, 0, 0, [3])), (2, (0, 0, 24, [])), (3, (0, 0, 24, []))], [], (0, 0), [(0, 0, 99939), (1, 3, 24), (0, 0, 100000)], [], [], [], 0, [], []), (115, [(0, (2, 0, 0, [2])), (1, (2, 0, 0, [3])), (2, (0, 0, 24, [])), (3, (0, 0, 48, []))], [], (0, 0), [(0, 0, 99885), (1, 3, 48), (0, 0, 100000)], [], [], [], 0, [], [])]
def t_Fa_learnTurned_ct : ct_L := [(1, 148, e_Fa_numberStrong), (1, 156, e_Fa_gather), (1, 159, e_Fa_orderLarge), (1, 163, e_Fa_orderSmall), (18, 139, e_jArr_fill1_v25)]
set_option maxRecDepth 100000 in
theorem c_Fa_learnTurned {l : Launch} {D : va_G} {kA : Nat → ClassId} (h_Fa_gather : ct_ok l D kA GG y_Fa_gather z_Fa_gather e_Fa_gather) (h_Fa_numberStrong : ct_ok l D kA GG y_Fa_numberStrong z_Fa_numberStrong e_Fa_numberStrong) (h_Fa_orderLarge : ct_ok l D kA GG y_Fa_orderLarge z_Fa_orderLarge e_Fa_orderLarge) (h_Fa_orderSmall : ct_ok l D kA GG y_Fa_orderSmall z_Fa_orderSmall e_Fa_orderSmall) : ct_ok l D kA GG y_Fa_learnTurned z_Fa_learnTurned e_Fa_learnTurned := chk_all_ok (FT := [(41, 2, 9), (45, 2, 10), (48, 2, 11), (51, 2, 12), (64, 3, 0), (69, 3, 1), (72, 3, 7), (75, 3, 8)]) (PT := []) (CT := t_Fa_learnTurned_ct) (KT := []) (NT := []) (AN := n_Fa_learnTurned_an) (OT := []) 3 472 (List.forall_mem_nil _) (by decide +kernel) ⟨List.forall_mem_cons.mpr ⟨gf_Fa_41, List.forall_mem_cons.mpr ⟨gf_Fa_45, List.forall_mem_cons.mpr ⟨gf_Fa_48, List.forall_mem_cons.mpr ⟨gf_Fa_51, List.forall_mem_cons.mpr ⟨gf_Fa_64, List.forall_mem_cons.mpr ⟨gf_Fa_69, List.forall_mem_cons.mpr ⟨gf_Fa_72, List.forall_mem_cons.mpr ⟨gf_Fa_75, List.forall_mem_nil _⟩⟩⟩⟩⟩⟩⟩⟩, List.forall_mem_nil _, List.forall_mem_cons.mpr ⟨cl_virtual (y := y_Fa_numberStrong) (ci := 2) rfl rfl ⟨_, _, rfl⟩ (by decide +kernel) h_Fa_numberStrong wm_859 wm_7 wm_856 wm_858 wv_2_2 ⟨by decide, by decide, by decide +kernel⟩ (by decide), List.forall_mem_cons.mpr ⟨cl_virtual (y := y_Fa_gather) (ci := 2) rfl rfl ⟨_, _, rfl⟩ (by decide +kernel) h_Fa_gather wm_881 wm_7 wm_878 wm_880 wv_2_6 ⟨by decide, by decide, by decide +kernel⟩ (by decide), List.forall_mem_cons.mpr ⟨cl_virtual (y := y_Fa_orderLarge) (ci := 2) rfl rfl ⟨_, _, rfl⟩ (by decide +kernel) h_Fa_orderLarge wm_885 wm_7 wm_882 wm_884 wv_2_7 ⟨by decide, by decide, by decide +kernel⟩ (by decide), List.forall_mem_cons.mpr ⟨cl_virtual (y := y_Fa_orderSmall) (ci := 2) rfl rfl ⟨_, _, rfl⟩ (by decide +kernel) h_Fa_orderSmall wm_904 wm_7 wm_901 wm_903 wv_2_10 ⟨by decide, by decide, by decide +kernel⟩ (by decide), List.forall_mem_cons.mpr ⟨cl_static (y := y_jArr_fill1) c_jArr_fill1_v25 wm_55 wm_4 wm_855 wm_54 ⟨by decide, by decide, by decide +kernel⟩ (by decide), List.forall_mem_nil _⟩⟩⟩⟩⟩, List.forall_mem_nil _, List.forall_mem_nil _, GG_pl⟩ (by decide +kernel)
def o_Pl_layAreas_0 : or_T := (69, 15, [(2, (0, 0, 7, [])), (5, (0, 1, 8, [])), (8, (0, 4, 4, [])), (9, (0, 24, 24, [])), (10, (0, 24, 31, [])), (11, (0, 96, 124, [])), (13, (0, 0, 0, [])), (14, (0, 4, 4, []))], [(3, [11, 8, 10], []), (1, [10, 9, 2], []), (102, [6], [118842243771396506390315925504, 6011]), (7, [2, 5], [2])], [], [], [(21, [11, 14], [128]), (21, [13, 14], [4])], [], [(10, 2, 24, 24), (10, 5, -4294967296, 23), (2, 5, -4294967296, -1)])
theorem oo_Pl_layAreas_0 {kA : Nat → ClassId} : or_ok kA GG o_Pl_layAreas_0 := by
  intro A ta ws vs hD hth hl hk hds hf
  have hl : vs.length = 15 := hl
  have hk : ∀ q ∈ ([(2, (0, 0, 7, [])), (5, (0, 1, 8, [])), (8, (0, 4, 4, [])), (9, (0, 24, 24, [])), (10, (0, 24, 31, [])), (11, (0, 96, 124, [])), (13, (0, 0, 0, [])), (14, (0, 4, 4, []))] : List (Nat × tv_T)), tv_ok ta q.2 (n_v vs q.1) := hk
  obtain ⟨t2, hk⟩ := List.forall_mem_cons.mp hk
  have t2 : tv_ok ta (0, 0, 7, []) (n_v vs 2) := t2
  have k2 : 0 ≤ v_iv (n_v vs 2) ∧ v_iv (n_v vs 2) ≤ 7 := tv_rng t2
  obtain ⟨t5, hk⟩ := List.forall_mem_cons.mp hk
  have t5 : tv_ok ta (0, 1, 8, []) (n_v vs 5) := t5
  have k5 : 1 ≤ v_iv (n_v vs 5) ∧ v_iv (n_v vs 5) ≤ 8 := tv_rng t5
  obtain ⟨t8, hk⟩ := List.forall_mem_cons.mp hk
  have t8 : tv_ok ta (0, 4, 4, []) (n_v vs 8) := t8
  have k8 : 4 ≤ v_iv (n_v vs 8) ∧ v_iv (n_v vs 8) ≤ 4 := tv_rng t8
  obtain ⟨t9, hk⟩ := List.forall_mem_cons.mp hk
  have t9 : tv_ok ta (0, 24, 24, []) (n_v vs 9) := t9
  have k9 : 24 ≤ v_iv (n_v vs 9) ∧ v_iv (n_v vs 9) ≤ 24 := tv_rng t9
  obtain ⟨t10, hk⟩ := List.forall_mem_cons.mp hk
  have t10 : tv_ok ta (0, 24, 31, []) (n_v vs 10) := t10
  have k10 : 24 ≤ v_iv (n_v vs 10) ∧ v_iv (n_v vs 10) ≤ 31 := tv_rng t10
  obtain ⟨t11, hk⟩ := List.forall_mem_cons.mp hk
  have t11 : tv_ok ta (0, 96, 124, []) (n_v vs 11) := t11
  have k11 : 96 ≤ v_iv (n_v vs 11) ∧ v_iv (n_v vs 11) ≤ 124 := tv_rng t11
  obtain ⟨t13, hk⟩ := List.forall_mem_cons.mp hk
  have t13 : tv_ok ta (0, 0, 0, []) (n_v vs 13) := t13
  have k13 : 0 ≤ v_iv (n_v vs 13) ∧ v_iv (n_v vs 13) ≤ 0 := tv_rng t13
  obtain ⟨t14, hk⟩ := List.forall_mem_cons.mp hk
  have t14 : tv_ok ta (0, 4, 4, []) (n_v vs 14) := t14
  have k14 : 4 ≤ v_iv (n_v vs 14) ∧ v_iv (n_v vs 14) ≤ 4 := tv_rng t14
  have hds : ∀ q ∈ ([(10, 2, 24, 24), (10, 5, -4294967296, 23), (2, 5, -4294967296, -1)] : List of_T), n_iv vs q.2.1 + q.2.2.1 ≤ n_iv vs q.1 ∧ n_iv vs q.1 ≤ n_iv vs q.2.1 + q.2.2.2 := hds
  obtain ⟨d0, hds⟩ := List.forall_mem_cons.mp hds
  have d0 : v_iv (n_v vs 2) + 24 ≤ v_iv (n_v vs 10) ∧ v_iv (n_v vs 10) ≤ v_iv (n_v vs 2) + 24 := d0
  obtain ⟨d1, hds⟩ := List.forall_mem_cons.mp hds
  have d1 : v_iv (n_v vs 5) + (-4294967296) ≤ v_iv (n_v vs 10) ∧ v_iv (n_v vs 10) ≤ v_iv (n_v vs 5) + 23 := d1
  obtain ⟨d2, hds⟩ := List.forall_mem_cons.mp hds
  have d2 : v_iv (n_v vs 5) + (-4294967296) ≤ v_iv (n_v vs 2) ∧ v_iv (n_v vs 2) ≤ v_iv (n_v vs 5) + (-1) := d2
  have hf : fc_ok [(3, [11, 8, 10], []), (1, [10, 9, 2], []), (102, [6], [118842243771396506390315925504, 6011]), (7, [2, 5], [2])] ta ws vs := hf
  obtain ⟨f0, hf⟩ := fc_un (show (3 : Nat) < 100 from by decide) hf
  have f0 : v_iv (n_v vs 11) = v_iv (n_v vs 8) * v_iv (n_v vs 10) := f0
  rw [show v_iv (n_v vs 8) = 4 from by omega] at f0
  obtain ⟨f1, hf⟩ := fc_un (show (1 : Nat) < 100 from by decide) hf
  have f1 : v_iv (n_v vs 10) = v_iv (n_v vs 9) + v_iv (n_v vs 2) := f1
  obtain ⟨ta1, w1, le1, ⟨_, s1⟩, hf⟩ := fc_us (show ¬ (102 : Nat) < 100 from by decide) hf
  obtain ⟨f3, hf⟩ := fc_un (show (7 : Nat) < 100 from by decide) hf
  have f3 : v_iv (n_v vs 2) < v_iv (n_v vs 5) := f3
  have nf0 : fc_1 (21, [11, 14], [128]) ws (vs) := by
    refine ⟨fun n hn => ?_, ?_⟩
    · have hn : n ∈ [11, 14] := hn
      rw [hl]
      simp only [List.mem_cons, List.not_mem_nil, or_false] at hn
      show n < 15; omega
    · show v_iv (n_v vs 11) + v_iv (n_v vs 14) ≤ 128
      omega
  have nf1 : fc_1 (21, [13, 14], [4]) ws (vs) := by
    refine ⟨fun n hn => ?_, ?_⟩
    · have hn : n ∈ [13, 14] := hn
      rw [hl]
      simp only [List.mem_cons, List.not_mem_nil, or_false] at hn
      show n < 15; omega
    · show v_iv (n_v vs 13) + v_iv (n_v vs 14) ≤ 4
      omega
  refine ⟨(fun _ h => (by cases h)), [], trivial, ?_, (fun _ h => (by cases h))⟩
  rw [List.append_nil]
  exact List.forall_mem_cons.mpr ⟨⟨show (21 : Nat) < 100 from by decide, nf0⟩, List.forall_mem_cons.mpr ⟨⟨show (21 : Nat) < 100 from by decide, nf1⟩, (fun _ h => (by cases h))⟩⟩
def n_Pl_layAreas_an : List an_T := [(23, [(0, (2, 0, 0, [6])), (1, (0, -2147483648, 2147483647, [])), (2, (0, 0, 8, []))], [], (0, 0), [(0, 0, 99977), (1, 2, 8), (0, 0, 100000)], [], [((0, 1), (2, 0, 0, [0])), ((0, 0), (2, 0, 0, [3]))], [], 0, [], []), (84, [(0, (2, 0, 0, [6])), (1, (0, -2147483648, 2147483647, [])), (2, (0, 0, 24, []))], [], (0, 0), [(0, 0, 99916), (1, 2, 24), (0, 0, 100000)], [], [((0, 1), (2, 0, 0, [0])), ((0, 0), (2, 0, 0, [3]))], [], 0, [], [])]
def t_Pl_layAreas_ct : ct_L := [(1, 162, e_Pl_setArea), (1, 169, e_Gr_sizeOfGroup), (1, 172, e_Pl_gatherItems), (1, 181, e_Pl_layRows), (27, 156, e_jArr_fill1_v329), (210, 175, e_acp_83), (210, 175, e_acp_84), (210, 175, e_acp_85), (210, 175, e_acp_86), (210, 175, e_acp_87), (210, 175, e_acp_88)]
set_option maxRecDepth 100000 in
theorem c_Pl_layAreas {l : Launch} {D : va_G} {kA : Nat → ClassId} (h_Gr_sizeOfGroup : ct_ok l D kA GG y_Gr_sizeOfGroup z_Gr_sizeOfGroup e_Gr_sizeOfGroup) (h_Pl_gatherItems : ct_ok l D kA GG y_Pl_gatherItems z_Pl_gatherItems e_Pl_gatherItems) (h_Pl_layRows : ct_ok l D kA GG y_Pl_layRows z_Pl_layRows e_Pl_layRows) (h_Pl_setArea : ct_ok l D kA GG y_Pl_setArea z_Pl_setArea e_Pl_setArea) : ct_ok l D kA GG y_Pl_layAreas z_Pl_layAreas e_Pl_layAreas := chk_all_ok (FT := [(9, 6, 0), (15, 6, 1), (51, 6, 12), (74, 3, 0), (127, 0, 2), (135, 0, 3), (153, 0, 13), (166, 3, 2)]) (PT := []) (CT := t_Pl_layAreas_ct) (KT := []) (NT := []) (AN := n_Pl_layAreas_an) (OT := [o_Pl_layAreas_0]) 3 424 (List.forall_mem_cons.mpr ⟨oo_Pl_layAreas_0, List.forall_mem_nil _⟩) (by decide +kernel) ⟨List.forall_mem_cons.mpr ⟨gf_Pl_9, List.forall_mem_cons.mpr ⟨gf_Pl_15, List.forall_mem_cons.mpr ⟨gf_Pl_51, List.forall_mem_cons.mpr ⟨gf_Pl_74, List.forall_mem_cons.mpr ⟨gf_Pl_127, List.forall_mem_cons.mpr ⟨gf_Pl_135, List.forall_mem_cons.mpr ⟨gf_Pl_153, List.forall_mem_cons.mpr ⟨gf_Pl_166, List.forall_mem_nil _⟩⟩⟩⟩⟩⟩⟩⟩, List.forall_mem_nil _, List.forall_mem_cons.mpr ⟨cl_virtual (y := y_Pl_setArea) (ci := 6) rfl rfl ⟨_, _, rfl⟩ (by decide +kernel) h_Pl_setArea wm_1725 wm_21 wm_1722 wm_1724 wv_7_13 ⟨by decide, by decide, by decide +kernel⟩ (by decide), List.forall_mem_cons.mpr ⟨cl_virtual (y := y_Gr_sizeOfGroup) (ci := 3) rfl rfl ⟨_, _, rfl⟩ (by decide +kernel) h_Gr_sizeOfGroup wm_946 wm_3 wm_1726 wm_944 wm_945 ⟨by decide, by decide, by decide +kernel⟩ (by decide), List.forall_mem_cons.mpr ⟨cl_virtual (y := y_Pl_gatherItems) (ci := 6) rfl rfl ⟨_, _, rfl⟩ (by decide +kernel) h_Pl_gatherItems wm_1730 wm_21 wm_1727 wm_1729 wv_7_14 ⟨by decide, by decide, by decide +kernel⟩ (by decide), List.forall_mem_cons.mpr ⟨cl_virtual (y := y_Pl_layRows) (ci := 6) rfl rfl ⟨_, _, rfl⟩ (by decide +kernel) h_Pl_layRows wm_1739 wm_21 wm_1736 wm_1738 wv_8_0 ⟨by decide, by decide, by decide +kernel⟩ (by decide), List.forall_mem_cons.mpr ⟨cl_static (y := y_jArr_fill1) c_jArr_fill1_v329 wm_55 wm_4 wm_1721 wm_54 ⟨by decide, by decide, by decide +kernel⟩ (by decide), List.forall_mem_cons.mpr ⟨cl_copy rfl rfl (by decide) (by decide) (by decide) wm_1735 wm_750 wm_749 wm_15, List.forall_mem_cons.mpr ⟨cl_copy rfl rfl (by decide) (by decide) (by decide) wm_1735 wm_750 wm_749 wm_15, List.forall_mem_cons.mpr ⟨cl_copy rfl rfl (by decide) (by decide) (by decide) wm_1735 wm_750 wm_749 wm_15, List.forall_mem_cons.mpr ⟨cl_copy rfl rfl (by decide) (by decide) (by decide) wm_1735 wm_750 wm_749 wm_15, List.forall_mem_cons.mpr ⟨cl_copy rfl rfl (by decide) (by decide) (by decide) wm_1735 wm_750 wm_749 wm_15, List.forall_mem_cons.mpr ⟨cl_copy rfl rfl (by decide) (by decide) (by decide) wm_1735 wm_750 wm_749 wm_15, List.forall_mem_nil _⟩⟩⟩⟩⟩⟩⟩⟩⟩⟩⟩, List.forall_mem_nil _, List.forall_mem_nil _, GG_pl⟩ (by decide +kernel)
def n_Sy_closes_an : List an_T := []
def t_Sy_closes_ct : ct_L := [(1, 69, e_Sy_advance), (1, 118, e_Sy_fail)]
set_option maxRecDepth 100000 in
theorem c_Sy_closes {l : Launch} {D : va_G} {kA : Nat → ClassId} (h_Sy_advance : ct_ok l D kA GG y_Sy_advance z_Sy_advance e_Sy_advance) (h_Sy_fail : ct_ok l D kA GG y_Sy_fail z_Sy_fail e_Sy_fail) : ct_ok l D kA GG y_Sy_closes z_Sy_closes e_Sy_closes := chk_all_ok (FT := [(31, 11, 6)]) (PT := []) (CT := t_Sy_closes_ct) (KT := []) (NT := []) (AN := n_Sy_closes_an) (OT := []) 0 200 (List.forall_mem_nil _) (by decide +kernel) ⟨List.forall_mem_cons.mpr ⟨gf_Sy_31, List.forall_mem_nil _⟩, List.forall_mem_nil _, List.forall_mem_cons.mpr ⟨cl_virtual (y := y_Sy_advance) (ci := 11) rfl rfl ⟨_, _, rfl⟩ (by decide +kernel) h_Sy_advance wm_2158 wm_23 wm_2155 wm_2157 wv_10_10 ⟨by decide, by decide, by decide +kernel⟩ (by decide), List.forall_mem_cons.mpr ⟨cl_virtual (y := y_Sy_fail) (ci := 11) rfl rfl ⟨_, _, rfl⟩ (by decide +kernel) h_Sy_fail wm_2239 wm_23 wm_2236 wm_2238 wv_10_14 ⟨by decide, by decide, by decide +kernel⟩ (by decide), List.forall_mem_nil _⟩⟩, List.forall_mem_nil _, List.forall_mem_nil _, GG_pl⟩ (by decide +kernel)
def n_Ho_dots_an : List an_T := [(66, [(0, (2, 0, 0, [12])), (1, (0, 0, 3, [])), (2, (0, 1, 64, [])), (3, (0, 1, 64, [])), (4, (2, 0, 0, [0])), (5, (0, 0, 48, []))], [], (0, 0), [(0, 0, 99934), (1, 5, 48), (0, 0, 100000), (0, 0, 0), (0, 0, 0)], [], [], [], 0, [], []), (100, [(0, (2, 0, 0, [12])), (1, (0, 0, 3, [])), (2, (0, 1, 64, [])), (3, (0, 1, 64, [])), (4, (2, 0, 0, [0])), (5, (0, 0, 47, [])), (6, (0, 1, 256, [])), (7, (0, 0, 25, []))], [], (0, 0), [(0, 0, 99934), (1, 5, 48), (0, 0, 99900), (1, 7, 25), (0, 0, 100000)], [], [], [], 0, [], []), (140, [(0, (2, 0, 0, [12])), (1, (0, 0, 3, [])), (2, (0, 1, 64, [])), (3, (0, 1, 64, [])), (4, (2, 0, 0, [0])), (5, (0, 0, 24, []))], [], (0, 0), [(0, 0, 99860), (1, 5, 24), (0, 0, 100000), (0, 0, 0), (0, 0, 0)], [], [], [], 0, [], []), (218, [(0, (2, 0, 0, [12])), (1, (0, 0, 3, [])), (2, (0, 1, 64, [])), (3, (0, 1, 64, [])), (4, (2, 0, 0, [0])), (5, (0, -2147483648, 2147483647, [])), (6, (0, 0, 4096, []))], [], (0, 0), [(0, 0, 99782), (1, 6, 4096), (0, 0, 100000), (0, 0, 0), (0, 0, 0)], [], [], [], 0, [], [])]
def t_Ho_dots_ct : ct_L := [(1, 323, e_Ho_hasDrawing), (1, 381, e_Dr_measure), (1, 387, e_Ho_drawLine), (1, 394, e_Dr_scaledX), (1, 400, e_Dr_scaledY), (1, 403, e_Ho_setDot), (144, 375, e_jArr_fill1_v330)]
set_option maxRecDepth 100000 in
theorem c_Ho_dots {l : Launch} {D : va_G} {kA : Nat → ClassId} (h_Dr_measure : ct_ok l D kA GG y_Dr_measure z_Dr_measure e_Dr_measure) (h_Dr_scaledX : ct_ok l D kA GG y_Dr_scaledX z_Dr_scaledX e_Dr_scaledX) (h_Dr_scaledY : ct_ok l D kA GG y_Dr_scaledY z_Dr_scaledY e_Dr_scaledY) (h_Ho_drawLine : ct_ok l D kA GG y_Ho_drawLine z_Ho_drawLine e_Ho_drawLine) (h_Ho_hasDrawing : ct_ok l D kA GG y_Ho_hasDrawing z_Ho_hasDrawing e_Ho_hasDrawing) (h_Ho_setDot : ct_ok l D kA GG y_Ho_setDot z_Ho_setDot e_Ho_setDot) : ct_ok l D kA GG y_Ho_dots z_Ho_dots e_Ho_dots := chk_all_ok (FT := [(13, 12, 0), (31, 12, 3), (73, 12, 13), (132, 3, 0), (141, 3, 1), (361, 0, 14), (384, 0, 4), (391, 0, 2), (397, 0, 3)]) (PT := [(76, 12, 14, .int), (79, 12, 15, .int)]) (CT := t_Ho_dots_ct) (KT := []) (NT := []) (AN := n_Ho_dots_an) (OT := []) 5 592 (List.forall_mem_nil _) (by decide +kernel) ⟨List.forall_mem_cons.mpr ⟨gf_Ho_13, List.forall_mem_cons.mpr ⟨gf_Ho_31, List.forall_mem_cons.mpr ⟨gf_Ho_73, List.forall_mem_cons.mpr ⟨gf_Ho_132, List.forall_mem_cons.mpr ⟨gf_Ho_141, List.forall_mem_cons.mpr ⟨gf_Ho_361, List.forall_mem_cons.mpr ⟨gf_Ho_384, List.forall_mem_cons.mpr ⟨gf_Ho_391, List.forall_mem_cons.mpr ⟨gf_Ho_397, List.forall_mem_nil _⟩⟩⟩⟩⟩⟩⟩⟩⟩, List.forall_mem_cons.mpr ⟨pf_Ho_76, List.forall_mem_cons.mpr ⟨pf_Ho_79, List.forall_mem_nil _⟩⟩, List.forall_mem_cons.mpr ⟨cl_virtual (y := y_Ho_hasDrawing) (ci := 12) rfl rfl ⟨_, _, rfl⟩ (by decide +kernel) h_Ho_hasDrawing wm_1859 wm_1 wm_1856 wm_1858 wv_8_15 ⟨by decide, by decide, by decide +kernel⟩ (by decide), List.forall_mem_cons.mpr ⟨cl_virtual (y := y_Dr_measure) (ci := 0) rfl rfl ⟨_, _, rfl⟩ (by decide +kernel) h_Dr_measure wm_2066 wm_8 wm_2387 wm_2064 wm_2065 ⟨by decide, by decide, by decide +kernel⟩ (by decide), List.forall_mem_cons.mpr ⟨cl_virtual (y := y_Ho_drawLine) (ci := 12) rfl rfl ⟨_, _, rfl⟩ (by decide +kernel) h_Ho_drawLine wm_2391 wm_1 wm_2388 wm_2390 wv_12_6 ⟨by decide, by decide, by decide +kernel⟩ (by decide), List.forall_mem_cons.mpr ⟨cl_virtual (y := y_Dr_scaledX) (ci := 0) rfl rfl ⟨_, _, rfl⟩ (by decide +kernel) h_Dr_scaledX wm_2395 wm_8 wm_2392 wm_2393 wm_2394 ⟨by decide, by decide, by decide +kernel⟩ (by decide), List.forall_mem_cons.mpr ⟨cl_virtual (y := y_Dr_scaledY) (ci := 0) rfl rfl ⟨_, _, rfl⟩ (by decide +kernel) h_Dr_scaledY wm_2399 wm_8 wm_2396 wm_2397 wm_2398 ⟨by decide, by decide, by decide +kernel⟩ (by decide), List.forall_mem_cons.mpr ⟨cl_virtual (y := y_Ho_setDot) (ci := 12) rfl rfl ⟨_, _, rfl⟩ (by decide +kernel) h_Ho_setDot wm_2403 wm_1 wm_2400 wm_2402 wv_12_7 ⟨by decide, by decide, by decide +kernel⟩ (by decide), List.forall_mem_cons.mpr ⟨cl_static (y := y_jArr_fill1) c_jArr_fill1_v330 wm_55 wm_4 wm_1031 wm_54 ⟨by decide, by decide, by decide +kernel⟩ (by decide), List.forall_mem_nil _⟩⟩⟩⟩⟩⟩⟩, List.forall_mem_nil _, List.forall_mem_nil _, GG_pl⟩ (by decide +kernel)
def n_Sy_apply_an : List an_T := [(11, [(0, (2, 0, 0, [11])), (1, (2, 0, 0, [3])), (2, (2, 0, 0, [2])), (3, (2, 0, 0, [0])), (4, (0, 0, 24, []))], [], (0, 0), [(0, 0, 99989), (1, 4, 24), (0, 0, 100000)], [], [], [], 0, [], []), (51, [(0, (2, 0, 0, [11])), (1, (2, 0, 0, [3])), (2, (2, 0, 0, [2])), (3, (2, 0, 0, [0])), (4, (0, 0, 48, []))], [], (0, 0), [(0, 0, 99949), (1, 4, 48), (0, 0, 100000)], [], [], [], 0, [], [])]
def t_Sy_apply_ct : ct_L := [(1, 177, e_Sy_lookAtNode), (1, 181, e_Sy_runRules), (1, 188, e_Sy_lookAtEdge), (18, 166, e_jArr_fill1_v2)]
set_option maxRecDepth 100000 in
theorem c_Sy_apply {l : Launch} {D : va_G} {kA : Nat → ClassId} (h_Sy_lookAtEdge : ct_ok l D kA GG y_Sy_lookAtEdge z_Sy_lookAtEdge e_Sy_lookAtEdge) (h_Sy_lookAtNode : ct_ok l D kA GG y_Sy_lookAtNode z_Sy_lookAtNode e_Sy_lookAtNode) (h_Sy_runRules : ct_ok l D kA GG y_Sy_runRules z_Sy_runRules e_Sy_runRules) : ct_ok l D kA GG y_Sy_apply z_Sy_apply e_Sy_apply := chk_all_ok (FT := [(161, 0, 14), (172, 3, 0), (185, 3, 1)]) (PT := []) (CT := t_Sy_apply_ct) (KT := []) (NT := []) (AN := n_Sy_apply_an) (OT := []) 3 204 (List.forall_mem_nil _) (by decide +kernel) ⟨List.forall_mem_cons.mpr ⟨gf_Sy_161, List.forall_mem_cons.mpr ⟨gf_Sy_172, List.forall_mem_cons.mpr ⟨gf_Sy_185, List.forall_mem_nil _⟩⟩⟩, List.forall_mem_nil _, List.forall_mem_cons.mpr ⟨cl_virtual (y := y_Sy_lookAtNode) (ci := 11) rfl rfl ⟨_, _, rfl⟩ (by decide +kernel) h_Sy_lookAtNode wm_2290 wm_23 wm_2287 wm_2289 wv_11_8 ⟨by decide, by decide, by decide +kernel⟩ (by decide), List.forall_mem_cons.mpr ⟨cl_virtual (y := y_Sy_runRules) (ci := 11) rfl rfl ⟨_, _, rfl⟩ (by decide +kernel) h_Sy_runRules wm_2296 wm_23 wm_2293 wm_2295 wv_11_9 ⟨by decide, by decide, by decide +kernel⟩ (by decide), List.forall_mem_cons.mpr ⟨cl_virtual (y := y_Sy_lookAtEdge) (ci := 11) rfl rfl ⟨_, _, rfl⟩ (by decide +kernel) h_Sy_lookAtEdge wm_2320 wm_23 wm_2317 wm_2319 wv_11_13 ⟨by decide, by decide, by decide +kernel⟩ (by decide), List.forall_mem_cons.mpr ⟨cl_static (y := y_jArr_fill1) c_jArr_fill1_v2 wm_55 wm_4 wm_2286 wm_54 ⟨by decide, by decide, by decide +kernel⟩ (by decide), List.forall_mem_nil _⟩⟩⟩⟩, List.forall_mem_nil _, List.forall_mem_nil _, GG_pl⟩ (by decide +kernel)
