def o_Mo_writeNumber_0 : or_T := (26, 5, [(0, (2, 0, 0, [150])), (1, (0, 0, 2147483647, [])), (2, (0, 0, 99999987, [])), (3, (1, 0, 2147483647, [])), (4, (1, 1, 1, []))], [(8, [1], [3]), (22, [3, 1], []), (8, [1], [3]), (20, [0, 2], [30, 0, 1, 1, 170, -1, 0, 0])], [], [(0, -1, 2147483647, [])], [(20, [0, 2], [30, 1, 1, 1, 170, -1, 0, 0]), (23, [4], [-1, -1]), (23, [4], [2147483648, 1]), (20, [4, 3], [50, 0, 0, 3, 6, 0, 2, 1, 0, 0, 1, 0, 2, 1, 0, 1, 1]), (24, [0, 0], []), (20, [5, 3, 4], [30, 0, 1, 0, 0, -1, 0, 0, 1, 0, 0]), (20, [5, 3, 4], [30, 0, -1, 0, 0, 1, 0, 0, -1, 0, 0])], [], [])
theorem oo_Mo_writeNumber_0 {kA : Nat → ClassId} : or_ok kA GG o_Mo_writeNumber_0 := by
  intro A ta ws vs hD hth hl hk hds hf
  have hl : vs.length = 5 := hl
  have hk : ∀ q ∈ ([(0, (2, 0, 0, [150])), (1, (0, 0, 2147483647, [])), (2, (0, 0, 99999987, [])), (3, (1, 0, 2147483647, [])), (4, (1, 1, 1, []))] : List (Nat × tv_T)), tv_ok ta q.2 (n_v vs q.1) := hk
  obtain ⟨t0, hk⟩ := List.forall_mem_cons.mp hk
  have t0 : tv_ok ta (2, 0, 0, [150]) (n_v vs 0) := t0
  have r0 : ta (v_ad (n_v vs 0)) = some 150 := tv_rg t0
  obtain ⟨t1, hk⟩ := List.forall_mem_cons.mp hk
  have t1 : tv_ok ta (0, 0, 2147483647, []) (n_v vs 1) := t1
  have k1 : 0 ≤ v_iv (n_v vs 1) ∧ v_iv (n_v vs 1) ≤ 2147483647 := tv_rng t1
  obtain ⟨t2, hk⟩ := List.forall_mem_cons.mp hk
  have t2 : tv_ok ta (0, 0, 99999987, []) (n_v vs 2) := t2
  have k2 : 0 ≤ v_iv (n_v vs 2) ∧ v_iv (n_v vs 2) ≤ 99999987 := tv_rng t2
  obtain ⟨t3, hk⟩ := List.forall_mem_cons.mp hk
  have t3 : tv_ok ta (1, 0, 2147483647, []) (n_v vs 3) := t3
  have k3 : 0 ≤ v_iv (n_v vs 3) ∧ v_iv (n_v vs 3) ≤ 2147483647 := tv_rngL t3
  obtain ⟨t4, hk⟩ := List.forall_mem_cons.mp hk
  have t4 : tv_ok ta (1, 1, 1, []) (n_v vs 4) := t4
  have k4 : 1 ≤ v_iv (n_v vs 4) ∧ v_iv (n_v vs 4) ≤ 1 := tv_rngL t4
  have hf : fc_ok [(8, [1], [3]), (22, [3, 1], []), (8, [1], [3]), (20, [0, 2], [30, 0, 1, 1, 170, -1, 0, 0])] ta ws vs := hf
  obtain ⟨f0, hf⟩ := fc_un (show (8 : Nat) < 100 from by decide) hf
  have f0 : 0 ≤ v_iv (n_v vs 1) := f0
  obtain ⟨f1, hf⟩ := fc_un (show (22 : Nat) < 100 from by decide) hf
  have f1 : v_iv (n_v vs 3) = v_iv (n_v vs 1) := f1
  obtain ⟨f2, hf⟩ := fc_un (show (8 : Nat) < 100 from by decide) hf
  have f2 : 0 ≤ v_iv (n_v vs 1) := f2
  obtain ⟨f3, hf⟩ := fc_un (show (20 : Nat) < 100 from by decide) hf
  have f3 : 1 * w_fi ws (n_v vs 0) 170 + ((-1) * v_iv (n_v vs 2) + 0) ≤ 0 := f3
  have kz_0_170 : 0 ≤ w_fi ws (n_v vs 0) 170 ∧ w_fi ws (n_v vs 0) 170 ≤ 100000000 := tv_rng (th_fd hD hth r0 (g := GG_150) rfl (k := 170) (t := (0, 0, 100000000, [])) rfl rfl)
  obtain ⟨x, ex, hx⟩ := iv_ex (ta := ta) (lo := (-1)) (hi := 2147483647) (z := 0 + (1 * v_iv (n_v vs 3) + ((-1) * v_iv (n_v vs 4) + 0))) (by omega) (by omega) (by omega) (by omega)
  have ex2 : v_iv (Value.int x) = 0 + (1 * v_iv (n_v vs 3) + ((-1) * v_iv (n_v vs 4) + 0)) := ex
  have ex3 : (-1) ≤ v_iv (Value.int x) ∧ v_iv (Value.int x) ≤ 2147483647 := tv_rng hx
  have e_0 : n_v (vs ++ [Value.int x]) 0 = n_v vs 0 := n_v_old (by rw [hl]; decide)
  have e_2 : n_v (vs ++ [Value.int x]) 2 = n_v vs 2 := n_v_old (by rw [hl]; decide)
  have e_3 : n_v (vs ++ [Value.int x]) 3 = n_v vs 3 := n_v_old (by rw [hl]; decide)
  have e_4 : n_v (vs ++ [Value.int x]) 4 = n_v vs 4 := n_v_old (by rw [hl]; decide)
  have e_5 : n_v (vs ++ [Value.int x]) 5 = Value.int x := n_v_new hl
  have nf0 : fc_1 (20, [0, 2], [30, 1, 1, 1, 170, -1, 0, 0]) ws (vs ++ [Value.int x]) := by
    refine ⟨fun n hn => ?_, ?_⟩
    · have hn : n ∈ [0, 2] := hn
      rw [List.length_append, hl]
      simp only [List.mem_cons, List.not_mem_nil, or_false] at hn
      show n < 5 + 1; omega
    · show 1 * w_fi ws (n_v (vs ++ [Value.int x]) 0) 170 + ((-1) * v_iv (n_v (vs ++ [Value.int x]) 2) + 0) ≤ 1
      rw [e_0]
      rw [e_2]
      omega
  have nf1 : fc_1 (23, [4], [-1, -1]) ws (vs ++ [Value.int x]) := by
    refine ⟨fun n hn => ?_, ?_⟩
    · have hn : n ∈ [4] := hn
      rw [List.length_append, hl]
      simp only [List.mem_cons, List.not_mem_nil, or_false] at hn
      show n < 5 + 1; omega
    · show (-1) * v_iv (n_v (vs ++ [Value.int x]) 4) + 0 ≤ (-1)
      rw [e_4]
      omega
  have nf2 : fc_1 (23, [4], [2147483648, 1]) ws (vs ++ [Value.int x]) := by
    refine ⟨fun n hn => ?_, ?_⟩
    · have hn : n ∈ [4] := hn
      rw [List.length_append, hl]
      simp only [List.mem_cons, List.not_mem_nil, or_false] at hn
      show n < 5 + 1; omega
    · show 1 * v_iv (n_v (vs ++ [Value.int x]) 4) + 0 ≤ 2147483648
      rw [e_4]
      omega
  have nf3 : fc_1 (20, [4, 3], [50, 0, 0, 3, 6, 0, 2, 1, 0, 0, 1, 0, 2, 1, 0, 1, 1]) ws (vs ++ [Value.int x]) := by
    refine ⟨fun n hn => ?_, ?_⟩
    · have hn : n ∈ [4, 3] := hn
      rw [List.length_append, hl]
      simp only [List.mem_cons, List.not_mem_nil, or_false] at hn
      show n < 5 + 1; omega
    · show (v_iv (n_v (vs ++ [Value.int x]) 4) ≤ 1) ∨ (v_iv (n_v (vs ++ [Value.int x]) 4) ≤ v_iv (n_v (vs ++ [Value.int x]) 3))
      rw [e_3]
      rw [e_4]
      first | omega | grind
  have nf4 : fc_1 (24, [0, 0], []) ws (vs ++ [Value.int x]) := by
    refine ⟨fun n hn => ?_, ?_⟩
    · have hn : n ∈ [0, 0] := hn
      rw [List.length_append, hl]
      simp only [List.mem_cons, List.not_mem_nil, or_false] at hn
      show n < 5 + 1; omega
    · show n_v (vs ++ [Value.int x]) 0 = n_v (vs ++ [Value.int x]) 0
      first | rfl | simp only [e_0]
  have nf5 : fc_1 (20, [5, 3, 4], [30, 0, 1, 0, 0, -1, 0, 0, 1, 0, 0]) ws (vs ++ [Value.int x]) := by
    refine ⟨fun n hn => ?_, ?_⟩
    · have hn : n ∈ [5, 3, 4] := hn
      rw [List.length_append, hl]
      simp only [List.mem_cons, List.not_mem_nil, or_false] at hn
      show n < 5 + 1; omega
    · show 1 * v_iv (n_v (vs ++ [Value.int x]) 5) + ((-1) * v_iv (n_v (vs ++ [Value.int x]) 3) + (1 * v_iv (n_v (vs ++ [Value.int x]) 4) + 0)) ≤ 0
      rw [e_3]
      rw [e_4]
      rw [e_5]
      omega
  have nf6 : fc_1 (20, [5, 3, 4], [30, 0, -1, 0, 0, 1, 0, 0, -1, 0, 0]) ws (vs ++ [Value.int x]) := by
    refine ⟨fun n hn => ?_, ?_⟩
    · have hn : n ∈ [5, 3, 4] := hn
      rw [List.length_append, hl]
      simp only [List.mem_cons, List.not_mem_nil, or_false] at hn
      show n < 5 + 1; omega
    · show (-1) * v_iv (n_v (vs ++ [Value.int x]) 5) + (1 * v_iv (n_v (vs ++ [Value.int x]) 3) + ((-1) * v_iv (n_v (vs ++ [Value.int x]) 4) + 0)) ≤ 0
      rw [e_3]
      rw [e_4]
      rw [e_5]
      omega
  exact ⟨(fun _ h => (by cases h)), [Value.int x], ag_one hx, List.forall_mem_cons.mpr ⟨⟨show (20 : Nat) < 100 from by decide, nf0⟩, List.forall_mem_cons.mpr ⟨⟨show (23 : Nat) < 100 from by decide, nf1⟩, List.forall_mem_cons.mpr ⟨⟨show (23 : Nat) < 100 from by decide, nf2⟩, List.forall_mem_cons.mpr ⟨⟨show (20 : Nat) < 100 from by decide, nf3⟩, List.forall_mem_cons.mpr ⟨⟨show (24 : Nat) < 100 from by decide, nf4⟩, List.forall_mem_cons.mpr ⟨⟨show (20 : Nat) < 100 from by decide, nf5⟩, List.forall_mem_cons.mpr ⟨⟨show (20 : Nat) < 100 from by decide, nf6⟩, (fun _ h => (by cases h))⟩⟩⟩⟩⟩⟩⟩, (fun _ h => (by cases h))⟩
def o_Mo_writeNumber_1 : or_T := (20, 6, [(0, (2, 0, 0, [150])), (2, (0, 0, 99999987, []))], [(20, [0, 2], [30, 0, 1, 1, 170, -1, 0, 0])], [], [(0, 0, 99999999, [])], [(20, [0, 6], [30, 0, 1, 1, 170, -1, 0, 0]), (23, [6, 2], [0, 1, -1])], [], [])
theorem oo_Mo_writeNumber_1 {kA : Nat → ClassId} : or_ok kA GG o_Mo_writeNumber_1 := by
  intro A ta ws vs hD hth hl hk hds hf
  have hl : vs.length = 6 := hl
  have hk : ∀ q ∈ ([(0, (2, 0, 0, [150])), (2, (0, 0, 99999987, []))] : List (Nat × tv_T)), tv_ok ta q.2 (n_v vs q.1) := hk
  obtain ⟨t0, hk⟩ := List.forall_mem_cons.mp hk
  have t0 : tv_ok ta (2, 0, 0, [150]) (n_v vs 0) := t0
  have r0 : ta (v_ad (n_v vs 0)) = some 150 := tv_rg t0
  obtain ⟨t2, hk⟩ := List.forall_mem_cons.mp hk
  have t2 : tv_ok ta (0, 0, 99999987, []) (n_v vs 2) := t2
  have k2 : 0 ≤ v_iv (n_v vs 2) ∧ v_iv (n_v vs 2) ≤ 99999987 := tv_rng t2
  have hf : fc_ok [(20, [0, 2], [30, 0, 1, 1, 170, -1, 0, 0])] ta ws vs := hf
  obtain ⟨f0, hf⟩ := fc_un (show (20 : Nat) < 100 from by decide) hf
  have f0 : 1 * w_fi ws (n_v vs 0) 170 + ((-1) * v_iv (n_v vs 2) + 0) ≤ 0 := f0
  have kz_0_170 : 0 ≤ w_fi ws (n_v vs 0) 170 ∧ w_fi ws (n_v vs 0) 170 ≤ 100000000 := tv_rng (th_fd hD hth r0 (g := GG_150) rfl (k := 170) (t := (0, 0, 100000000, [])) rfl rfl)
  have kv0 : 0 ≤ w_fi ws (n_v vs 0) 170 ∧ w_fi ws (n_v vs 0) 170 ≤ 100000000 := tv_rng (th_fd hD hth r0 (g := GG_150) rfl (k := 170) (t := (0, 0, 100000000, [])) rfl rfl)
  obtain ⟨x, ex, hx⟩ := iv_ex (ta := ta) (lo := 0) (hi := 99999999) (z := w_fi ws (n_v vs 0) 170) (by omega) (by omega) (by omega) (by omega)
  have ex2 : v_iv (Value.int x) = w_fi ws (n_v vs 0) 170 := ex
  have ex3 : 0 ≤ v_iv (Value.int x) ∧ v_iv (Value.int x) ≤ 99999999 := tv_rng hx
  have e_0 : n_v (vs ++ [Value.int x]) 0 = n_v vs 0 := n_v_old (by rw [hl]; decide)
  have e_2 : n_v (vs ++ [Value.int x]) 2 = n_v vs 2 := n_v_old (by rw [hl]; decide)
  have e_6 : n_v (vs ++ [Value.int x]) 6 = Value.int x := n_v_new hl
  have nf0 : fc_1 (20, [0, 6], [30, 0, 1, 1, 170, -1, 0, 0]) ws (vs ++ [Value.int x]) := by
    refine ⟨fun n hn => ?_, ?_⟩
    · have hn : n ∈ [0, 6] := hn
      rw [List.length_append, hl]
      simp only [List.mem_cons, List.not_mem_nil, or_false] at hn
      show n < 6 + 1; omega
    · show 1 * w_fi ws (n_v (vs ++ [Value.int x]) 0) 170 + ((-1) * v_iv (n_v (vs ++ [Value.int x]) 6) + 0) ≤ 0
      rw [e_0]
      rw [e_6]
      omega
  have nf1 : fc_1 (23, [6, 2], [0, 1, -1]) ws (vs ++ [Value.int x]) := by
    refine ⟨fun n hn => ?_, ?_⟩
    · have hn : n ∈ [6, 2] := hn
      rw [List.length_append, hl]
      simp only [List.mem_cons, List.not_mem_nil, or_false] at hn
      show n < 6 + 1; omega
    · show 1 * v_iv (n_v (vs ++ [Value.int x]) 6) + ((-1) * v_iv (n_v (vs ++ [Value.int x]) 2) + 0) ≤ 0
      rw [e_2]
      rw [e_6]
      omega
  exact ⟨(fun _ h => (by cases h)), [Value.int x], ag_one hx, List.forall_mem_cons.mpr ⟨⟨show (20 : Nat) < 100 from by decide, nf0⟩, List.forall_mem_cons.mpr ⟨⟨show (23 : Nat) < 100 from by decide, nf1⟩, (fun _ h => (by cases h))⟩⟩, (fun _ h => (by cases h))⟩
def o_Mo_writeNumber_2 : or_T := (26, 8, [(0, (2, 0, 0, [150])), (1, (0, -2147483648, -1, [])), (2, (0, 0, 99999987, [])), (3, (1, -2147483648, -1, [])), (4, (1, 1, 2147483648, [])), (6, (0, 0, 99999999, [])), (7, (1, 1, 1, []))], [(23, [6, 2], [0, 1, -1]), (22, [3, 1], []), (20, [0, 6], [30, 1, 1, 1, 170, -1, 0, 0]), (102, [6], [237142198758023568227473377297792835283496928595231875152809132048206089502588928, 13170]), (23, [6, 2], [0, 1, -1]), (8, [1], [2]), (15, [4, 3], [-1]), (22, [3, 1], []), (8, [1], [2])], [], [(0, -1, 2147483647, [])], [(20, [0, 2], [30, 1, 1, 1, 170, -1, 0, 0]), (23, [7], [-1, -1]), (23, [7], [2147483648, 1]), (20, [7, 4], [50, 0, 0, 3, 6, 0, 2, 1, 0, 0, 1, 0, 2, 1, 0, 1, 1]), (24, [0, 0], []), (20, [8, 4, 7], [30, 0, 1, 0, 0, -1, 0, 0, 1, 0, 0]), (20, [8, 4, 7], [30, 0, -1, 0, 0, 1, 0, 0, -1, 0, 0])], [], [])
theorem oo_Mo_writeNumber_2 {kA : Nat → ClassId} : or_ok kA GG o_Mo_writeNumber_2 := by
  intro A ta ws vs hD hth hl hk hds hf
  have hl : vs.length = 8 := hl
  have hk : ∀ q ∈ ([(0, (2, 0, 0, [150])), (1, (0, -2147483648, -1, [])), (2, (0, 0, 99999987, [])), (3, (1, -2147483648, -1, [])), (4, (1, 1, 2147483648, [])), (6, (0, 0, 99999999, [])), (7, (1, 1, 1, []))] : List (Nat × tv_T)), tv_ok ta q.2 (n_v vs q.1) := hk
  obtain ⟨t0, hk⟩ := List.forall_mem_cons.mp hk
  have t0 : tv_ok ta (2, 0, 0, [150]) (n_v vs 0) := t0
  have r0 : ta (v_ad (n_v vs 0)) = some 150 := tv_rg t0
  obtain ⟨t1, hk⟩ := List.forall_mem_cons.mp hk
  have t1 : tv_ok ta (0, -2147483648, -1, []) (n_v vs 1) := t1
  have k1 : (-2147483648) ≤ v_iv (n_v vs 1) ∧ v_iv (n_v vs 1) ≤ (-1) := tv_rng t1
  obtain ⟨t2, hk⟩ := List.forall_mem_cons.mp hk
  have t2 : tv_ok ta (0, 0, 99999987, []) (n_v vs 2) := t2
  have k2 : 0 ≤ v_iv (n_v vs 2) ∧ v_iv (n_v vs 2) ≤ 99999987 := tv_rng t2
  obtain ⟨t3, hk⟩ := List.forall_mem_cons.mp hk
  have t3 : tv_ok ta (1, -2147483648, -1, []) (n_v vs 3) := t3
  have k3 : (-2147483648) ≤ v_iv (n_v vs 3) ∧ v_iv (n_v vs 3) ≤ (-1) := tv_rngL t3
  obtain ⟨t4, hk⟩ := List.forall_mem_cons.mp hk
  have t4 : tv_ok ta (1, 1, 2147483648, []) (n_v vs 4) := t4
  have k4 : 1 ≤ v_iv (n_v vs 4) ∧ v_iv (n_v vs 4) ≤ 2147483648 := tv_rngL t4
  obtain ⟨t6, hk⟩ := List.forall_mem_cons.mp hk
  have t6 : tv_ok ta (0, 0, 99999999, []) (n_v vs 6) := t6
  have k6 : 0 ≤ v_iv (n_v vs 6) ∧ v_iv (n_v vs 6) ≤ 99999999 := tv_rng t6
  obtain ⟨t7, hk⟩ := List.forall_mem_cons.mp hk
  have t7 : tv_ok ta (1, 1, 1, []) (n_v vs 7) := t7
  have k7 : 1 ≤ v_iv (n_v vs 7) ∧ v_iv (n_v vs 7) ≤ 1 := tv_rngL t7
  have hf : fc_ok [(23, [6, 2], [0, 1, -1]), (22, [3, 1], []), (20, [0, 6], [30, 1, 1, 1, 170, -1, 0, 0]), (102, [6], [237142198758023568227473377297792835283496928595231875152809132048206089502588928, 13170]), (23, [6, 2], [0, 1, -1]), (8, [1], [2]), (15, [4, 3], [-1]), (22, [3, 1], []), (8, [1], [2])] ta ws vs := hf
  obtain ⟨f0, hf⟩ := fc_un (show (23 : Nat) < 100 from by decide) hf
  have f0 : 1 * v_iv (n_v vs 6) + ((-1) * v_iv (n_v vs 2) + 0) ≤ 0 := f0
  obtain ⟨f1, hf⟩ := fc_un (show (22 : Nat) < 100 from by decide) hf
  have f1 : v_iv (n_v vs 3) = v_iv (n_v vs 1) := f1
  obtain ⟨f2, hf⟩ := fc_un (show (20 : Nat) < 100 from by decide) hf
  have f2 : 1 * w_fi ws (n_v vs 0) 170 + ((-1) * v_iv (n_v vs 6) + 0) ≤ 1 := f2
  obtain ⟨ta1, w1, le1, ⟨_, s1⟩, hf⟩ := fc_us (show ¬ (102 : Nat) < 100 from by decide) hf
  obtain ⟨f4, hf⟩ := fc_un (show (23 : Nat) < 100 from by decide) hf
  have f4 : 1 * v_iv (n_v vs 6) + ((-1) * v_iv (n_v vs 2) + 0) ≤ 0 := f4
  obtain ⟨f5, hf⟩ := fc_un (show (8 : Nat) < 100 from by decide) hf
  have f5 : v_iv (n_v vs 1) < 0 := f5
  obtain ⟨f6, hf⟩ := fc_un (show (15 : Nat) < 100 from by decide) hf
  have f6 : v_iv (n_v vs 4) = v_iv (n_v vs 3) * (-1) := f6
  obtain ⟨f7, hf⟩ := fc_un (show (22 : Nat) < 100 from by decide) hf
  have f7 : v_iv (n_v vs 3) = v_iv (n_v vs 1) := f7
  obtain ⟨f8, hf⟩ := fc_un (show (8 : Nat) < 100 from by decide) hf
  have f8 : v_iv (n_v vs 1) < 0 := f8
  have kz_0_170 : 0 ≤ w_fi ws (n_v vs 0) 170 ∧ w_fi ws (n_v vs 0) 170 ≤ 100000000 := tv_rng (th_fd hD hth r0 (g := GG_150) rfl (k := 170) (t := (0, 0, 100000000, [])) rfl rfl)
  obtain ⟨x, ex, hx⟩ := iv_ex (ta := ta) (lo := (-1)) (hi := 2147483647) (z := 0 + (1 * v_iv (n_v vs 4) + ((-1) * v_iv (n_v vs 7) + 0))) (by omega) (by omega) (by omega) (by omega)
  have ex2 : v_iv (Value.int x) = 0 + (1 * v_iv (n_v vs 4) + ((-1) * v_iv (n_v vs 7) + 0)) := ex
  have ex3 : (-1) ≤ v_iv (Value.int x) ∧ v_iv (Value.int x) ≤ 2147483647 := tv_rng hx
  have e_0 : n_v (vs ++ [Value.int x]) 0 = n_v vs 0 := n_v_old (by rw [hl]; decide)
  have e_2 : n_v (vs ++ [Value.int x]) 2 = n_v vs 2 := n_v_old (by rw [hl]; decide)
  have e_4 : n_v (vs ++ [Value.int x]) 4 = n_v vs 4 := n_v_old (by rw [hl]; decide)
  have e_7 : n_v (vs ++ [Value.int x]) 7 = n_v vs 7 := n_v_old (by rw [hl]; decide)
  have e_8 : n_v (vs ++ [Value.int x]) 8 = Value.int x := n_v_new hl
  have nf0 : fc_1 (20, [0, 2], [30, 1, 1, 1, 170, -1, 0, 0]) ws (vs ++ [Value.int x]) := by
    refine ⟨fun n hn => ?_, ?_⟩
    · have hn : n ∈ [0, 2] := hn
      rw [List.length_append, hl]
      simp only [List.mem_cons, List.not_mem_nil, or_false] at hn
      show n < 8 + 1; omega
    · show 1 * w_fi ws (n_v (vs ++ [Value.int x]) 0) 170 + ((-1) * v_iv (n_v (vs ++ [Value.int x]) 2) + 0) ≤ 1
      rw [e_0]
      rw [e_2]
      omega
  have nf1 : fc_1 (23, [7], [-1, -1]) ws (vs ++ [Value.int x]) := by
    refine ⟨fun n hn => ?_, ?_⟩
    · have hn : n ∈ [7] := hn
      rw [List.length_append, hl]
      simp only [List.mem_cons, List.not_mem_nil, or_false] at hn
      show n < 8 + 1; omega
    · show (-1) * v_iv (n_v (vs ++ [Value.int x]) 7) + 0 ≤ (-1)
      rw [e_7]
      omega
  have nf2 : fc_1 (23, [7], [2147483648, 1]) ws (vs ++ [Value.int x]) := by
    refine ⟨fun n hn => ?_, ?_⟩
    · have hn : n ∈ [7] := hn
      rw [List.length_append, hl]
      simp only [List.mem_cons, List.not_mem_nil, or_false] at hn
      show n < 8 + 1; omega
    · show 1 * v_iv (n_v (vs ++ [Value.int x]) 7) + 0 ≤ 2147483648
      rw [e_7]
      omega
  have nf3 : fc_1 (20, [7, 4], [50, 0, 0, 3, 6, 0, 2, 1, 0, 0, 1, 0, 2, 1, 0, 1, 1]) ws (vs ++ [Value.int x]) := by
    refine ⟨fun n hn => ?_, ?_⟩
    · have hn : n ∈ [7, 4] := hn
      rw [List.length_append, hl]
      simp only [List.mem_cons, List.not_mem_nil, or_false] at hn
      show n < 8 + 1; omega
    · show (v_iv (n_v (vs ++ [Value.int x]) 7) ≤ 1) ∨ (v_iv (n_v (vs ++ [Value.int x]) 7) ≤ v_iv (n_v (vs ++ [Value.int x]) 4))
      rw [e_4]
      rw [e_7]
      first | omega | grind
  have nf4 : fc_1 (24, [0, 0], []) ws (vs ++ [Value.int x]) := by
    refine ⟨fun n hn => ?_, ?_⟩
    · have hn : n ∈ [0, 0] := hn
      rw [List.length_append, hl]
      simp only [List.mem_cons, List.not_mem_nil, or_false] at hn
      show n < 8 + 1; omega
    · show n_v (vs ++ [Value.int x]) 0 = n_v (vs ++ [Value.int x]) 0
      first | rfl | simp only [e_0]
  have nf5 : fc_1 (20, [8, 4, 7], [30, 0, 1, 0, 0, -1, 0, 0, 1, 0, 0]) ws (vs ++ [Value.int x]) := by
    refine ⟨fun n hn => ?_, ?_⟩
    · have hn : n ∈ [8, 4, 7] := hn
      rw [List.length_append, hl]
      simp only [List.mem_cons, List.not_mem_nil, or_false] at hn
      show n < 8 + 1; omega
    · show 1 * v_iv (n_v (vs ++ [Value.int x]) 8) + ((-1) * v_iv (n_v (vs ++ [Value.int x]) 4) + (1 * v_iv (n_v (vs ++ [Value.int x]) 7) + 0)) ≤ 0
      rw [e_4]
      rw [e_7]
      rw [e_8]
      omega
  have nf6 : fc_1 (20, [8, 4, 7], [30, 0, -1, 0, 0, 1, 0, 0, -1, 0, 0]) ws (vs ++ [Value.int x]) := by
    refine ⟨fun n hn => ?_, ?_⟩
    · have hn : n ∈ [8, 4, 7] := hn
      rw [List.length_append, hl]
      simp only [List.mem_cons, List.not_mem_nil, or_false] at hn
      show n < 8 + 1; omega
    · show (-1) * v_iv (n_v (vs ++ [Value.int x]) 8) + (1 * v_iv (n_v (vs ++ [Value.int x]) 4) + ((-1) * v_iv (n_v (vs ++ [Value.int x]) 7) + 0)) ≤ 0
      rw [e_4]
      rw [e_7]
      rw [e_8]
      omega
  exact ⟨(fun _ h => (by cases h)), [Value.int x], ag_one hx, List.forall_mem_cons.mpr ⟨⟨show (20 : Nat) < 100 from by decide, nf0⟩, List.forall_mem_cons.mpr ⟨⟨show (23 : Nat) < 100 from by decide, nf1⟩, List.forall_mem_cons.mpr ⟨⟨show (23 : Nat) < 100 from by decide, nf2⟩, List.forall_mem_cons.mpr ⟨⟨show (20 : Nat) < 100 from by decide, nf3⟩, List.forall_mem_cons.mpr ⟨⟨show (24 : Nat) < 100 from by decide, nf4⟩, List.forall_mem_cons.mpr ⟨⟨show (20 : Nat) < 100 from by decide, nf5⟩, List.forall_mem_cons.mpr ⟨⟨show (20 : Nat) < 100 from by decide, nf6⟩, (fun _ h => (by cases h))⟩⟩⟩⟩⟩⟩⟩, (fun _ h => (by cases h))⟩
def o_Mo_writeNumber_3 : or_T := (48, 10, [(0, (2, 0, 0, [150])), (2, (0, 0, 99999987, [])), (3, (2, 0, 0, [150])), (5, (1, 0, 2147483648, [])), (6, (1, 1, 2147483648, [])), (7, (0, -1, 2147483647, [])), (8, (1, 0, 9, [])), (9, (1, 9, 9, []))], [(7, [8, 9], [5]), (4, [8, 5, 6], []), (20, [3, 2], [30, 1, 1, 1, 170, -1, 0, 0]), (23, [6], [-1, -1]), (23, [6], [2147483648, 1]), (20, [6, 5], [50, 0, 0, 3, 6, 0, 2, 1, 0, 0, 1, 0, 2, 1, 0, 1, 1]), (24, [0, 3], []), (20, [7, 5, 6], [30, 0, 1, 0, 0, -1, 0, 0, 1, 0, 0]), (20, [7, 5, 6], [30, 0, -1, 0, 0, 1, 0, 0, -1, 0, 0])], [], [(0, -1, 11, [])], [(20, [3, 10, 2], [30, 12, 1, 1, 170, 1, 0, 0, -1, 0, 0]), (23, [6], [2147483648, 1]), (23, [6], [0, -1]), (20, [6, 10], [50, 0, 0, 3, 6, 0, 2, 1, 0, 0, 0, 0, 2, 0, 1, 1, 1]), (20, [6, 10], [50, 0, 0, 3, 6, 0, 2, 1, 0, 0, 9, 0, 2, 0, 2, 1, 1]), (20, [6, 10], [50, 0, 0, 3, 6, 0, 2, 1, 0, 0, 99, 0, 2, 0, 3, 1, 1]), (20, [6, 10], [50, 0, 0, 3, 6, 0, 2, 1, 0, 0, 999, 0, 2, 0, 4, 1, 1]), (20, [6, 10], [50, 0, 0, 3, 6, 0, 2, 1, 0, 0, 9999, 0, 2, 0, 5, 1, 1]), (20, [6, 10], [50, 0, 0, 3, 6, 0, 2, 1, 0, 0, 99999, 0, 2, 0, 6, 1, 1]), (20, [6, 10], [50, 0, 0, 3, 6, 0, 2, 1, 0, 0, 999999, 0, 2, 0, 7, 1, 1]), (20, [6, 10], [50, 0, 0, 3, 6, 0, 2, 1, 0, 0, 9999999, 0, 2, 0, 8, 1, 1]), (20, [6, 10], [50, 0, 0, 3, 6, 0, 2, 1, 0, 0, 99999999, 0, 2, 0, 9, 1, 1]), (20, [6, 10], [50, 0, 0, 3, 6, 0, 2, 1, 0, 0, 999999999, 0, 2, 0, 10, 1, 1]), (20, [6, 10], [50, 0, 0, 3, 6, 0, 2, 1, 0, 0, 9999999999, 0, 2, 0, 11, 1, 1]), (20, [10], [50, 0, 0, 0, 2, 0, -1, 1, 0]), (24, [0, 3], [])], [], [])
theorem oo_Mo_writeNumber_3 {kA : Nat → ClassId} : or_ok kA GG o_Mo_writeNumber_3 := by
  intro A ta ws vs hD hth hl hk hds hf
  have hl : vs.length = 10 := hl
  have hk : ∀ q ∈ ([(0, (2, 0, 0, [150])), (2, (0, 0, 99999987, [])), (3, (2, 0, 0, [150])), (5, (1, 0, 2147483648, [])), (6, (1, 1, 2147483648, [])), (7, (0, -1, 2147483647, [])), (8, (1, 0, 9, [])), (9, (1, 9, 9, []))] : List (Nat × tv_T)), tv_ok ta q.2 (n_v vs q.1) := hk
  obtain ⟨t0, hk⟩ := List.forall_mem_cons.mp hk
  have t0 : tv_ok ta (2, 0, 0, [150]) (n_v vs 0) := t0
  have r0 : ta (v_ad (n_v vs 0)) = some 150 := tv_rg t0
  obtain ⟨t2, hk⟩ := List.forall_mem_cons.mp hk
  have t2 : tv_ok ta (0, 0, 99999987, []) (n_v vs 2) := t2
  have k2 : 0 ≤ v_iv (n_v vs 2) ∧ v_iv (n_v vs 2) ≤ 99999987 := tv_rng t2
  obtain ⟨t3, hk⟩ := List.forall_mem_cons.mp hk
  have t3 : tv_ok ta (2, 0, 0, [150]) (n_v vs 3) := t3
  have r3 : ta (v_ad (n_v vs 3)) = some 150 := tv_rg t3
  obtain ⟨t5, hk⟩ := List.forall_mem_cons.mp hk
  have t5 : tv_ok ta (1, 0, 2147483648, []) (n_v vs 5) := t5
  have k5 : 0 ≤ v_iv (n_v vs 5) ∧ v_iv (n_v vs 5) ≤ 2147483648 := tv_rngL t5
  obtain ⟨t6, hk⟩ := List.forall_mem_cons.mp hk
  have t6 : tv_ok ta (1, 1, 2147483648, []) (n_v vs 6) := t6
  have k6 : 1 ≤ v_iv (n_v vs 6) ∧ v_iv (n_v vs 6) ≤ 2147483648 := tv_rngL t6
  obtain ⟨t7, hk⟩ := List.forall_mem_cons.mp hk
  have t7 : tv_ok ta (0, -1, 2147483647, []) (n_v vs 7) := t7
  have k7 : (-1) ≤ v_iv (n_v vs 7) ∧ v_iv (n_v vs 7) ≤ 2147483647 := tv_rng t7
  obtain ⟨t8, hk⟩ := List.forall_mem_cons.mp hk
  have t8 : tv_ok ta (1, 0, 9, []) (n_v vs 8) := t8
  have k8 : 0 ≤ v_iv (n_v vs 8) ∧ v_iv (n_v vs 8) ≤ 9 := tv_rngL t8
  obtain ⟨t9, hk⟩ := List.forall_mem_cons.mp hk
  have t9 : tv_ok ta (1, 9, 9, []) (n_v vs 9) := t9
  have k9 : 9 ≤ v_iv (n_v vs 9) ∧ v_iv (n_v vs 9) ≤ 9 := tv_rngL t9
  have hf : fc_ok [(7, [8, 9], [5]), (4, [8, 5, 6], []), (20, [3, 2], [30, 1, 1, 1, 170, -1, 0, 0]), (23, [6], [-1, -1]), (23, [6], [2147483648, 1]), (20, [6, 5], [50, 0, 0, 3, 6, 0, 2, 1, 0, 0, 1, 0, 2, 1, 0, 1, 1]), (24, [0, 3], []), (20, [7, 5, 6], [30, 0, 1, 0, 0, -1, 0, 0, 1, 0, 0]), (20, [7, 5, 6], [30, 0, -1, 0, 0, 1, 0, 0, -1, 0, 0])] ta ws vs := hf
  obtain ⟨f0, hf⟩ := fc_un (show (7 : Nat) < 100 from by decide) hf
  have f0 : v_iv (n_v vs 8) ≤ v_iv (n_v vs 9) := f0
  obtain ⟨f1, hf⟩ := fc_un (show (4 : Nat) < 100 from by decide) hf
  have f1 : v_iv (n_v vs 8) = Int.tdiv (v_iv (n_v vs 5)) (v_iv (n_v vs 6)) := f1
  have fq1 : 10 ≤ v_iv (n_v vs 8) → 10 * v_iv (n_v vs 6) ≤ v_iv (n_v vs 5) := dv_ten f1 (by omega) (by omega)
  obtain ⟨f2, hf⟩ := fc_un (show (20 : Nat) < 100 from by decide) hf
  have f2 : 1 * w_fi ws (n_v vs 3) 170 + ((-1) * v_iv (n_v vs 2) + 0) ≤ 1 := f2
  obtain ⟨f3, hf⟩ := fc_un (show (23 : Nat) < 100 from by decide) hf
  have f3 : (-1) * v_iv (n_v vs 6) + 0 ≤ (-1) := f3
  obtain ⟨f4, hf⟩ := fc_un (show (23 : Nat) < 100 from by decide) hf
  have f4 : 1 * v_iv (n_v vs 6) + 0 ≤ 2147483648 := f4
  obtain ⟨f5, hf⟩ := fc_un (show (20 : Nat) < 100 from by decide) hf
  have f5 : (v_iv (n_v vs 6) ≤ 1) ∨ (v_iv (n_v vs 6) ≤ v_iv (n_v vs 5)) := f5
  obtain ⟨f6, hf⟩ := fc_un (show (24 : Nat) < 100 from by decide) hf
  have f6 : n_v vs 0 = n_v vs 3 := f6
  obtain ⟨f7, hf⟩ := fc_un (show (20 : Nat) < 100 from by decide) hf
  have f7 : 1 * v_iv (n_v vs 7) + ((-1) * v_iv (n_v vs 5) + (1 * v_iv (n_v vs 6) + 0)) ≤ 0 := f7
  obtain ⟨f8, hf⟩ := fc_un (show (20 : Nat) < 100 from by decide) hf
  have f8 : (-1) * v_iv (n_v vs 7) + (1 * v_iv (n_v vs 5) + ((-1) * v_iv (n_v vs 6) + 0)) ≤ 0 := f8
  have q3 : n_v vs 3 = n_v vs 0 := f6.symm
  rw [q3] at f2
  have kz_0_170 : 0 ≤ w_fi ws (n_v vs 0) 170 ∧ w_fi ws (n_v vs 0) 170 ≤ 100000000 := tv_rng (th_fd hD hth r0 (g := GG_150) rfl (k := 170) (t := (0, 0, 100000000, [])) rfl rfl)
  obtain ⟨x, ex, hx⟩ := iv_ex (ta := ta) (lo := (-1)) (hi := 11) (z := 11) (by omega) (by omega) (by omega) (by omega)
  have ex2 : v_iv (Value.int x) = 11 := ex
  have ex3 : (-1) ≤ v_iv (Value.int x) ∧ v_iv (Value.int x) ≤ 11 := tv_rng hx
  have e_0 : n_v (vs ++ [Value.int x]) 0 = n_v vs 0 := n_v_old (by rw [hl]; decide)
  have e_2 : n_v (vs ++ [Value.int x]) 2 = n_v vs 2 := n_v_old (by rw [hl]; decide)
  have e_3 : n_v (vs ++ [Value.int x]) 3 = n_v vs 3 := n_v_old (by rw [hl]; decide)
  have e_6 : n_v (vs ++ [Value.int x]) 6 = n_v vs 6 := n_v_old (by rw [hl]; decide)
  have e_10 : n_v (vs ++ [Value.int x]) 10 = Value.int x := n_v_new hl
  have nf0 : fc_1 (20, [3, 10, 2], [30, 12, 1, 1, 170, 1, 0, 0, -1, 0, 0]) ws (vs ++ [Value.int x]) := by
    refine ⟨fun n hn => ?_, ?_⟩
    · have hn : n ∈ [3, 10, 2] := hn
      rw [List.length_append, hl]
      simp only [List.mem_cons, List.not_mem_nil, or_false] at hn
      show n < 10 + 1; omega
    · show 1 * w_fi ws (n_v (vs ++ [Value.int x]) 3) 170 + (1 * v_iv (n_v (vs ++ [Value.int x]) 10) + ((-1) * v_iv (n_v (vs ++ [Value.int x]) 2) + 0)) ≤ 12
      rw [e_2]
      rw [e_3]
      rw [e_10]
      rw [q3]
      omega
  have nf1 : fc_1 (23, [6], [2147483648, 1]) ws (vs ++ [Value.int x]) := by
    refine ⟨fun n hn => ?_, ?_⟩
    · have hn : n ∈ [6] := hn
      rw [List.length_append, hl]
      simp only [List.mem_cons, List.not_mem_nil, or_false] at hn
      show n < 10 + 1; omega
    · show 1 * v_iv (n_v (vs ++ [Value.int x]) 6) + 0 ≤ 2147483648
      rw [e_6]
      omega
  have nf2 : fc_1 (23, [6], [0, -1]) ws (vs ++ [Value.int x]) := by
    refine ⟨fun n hn => ?_, ?_⟩
    · have hn : n ∈ [6] := hn
      rw [List.length_append, hl]
      simp only [List.mem_cons, List.not_mem_nil, or_false] at hn
      show n < 10 + 1; omega
    · show (-1) * v_iv (n_v (vs ++ [Value.int x]) 6) + 0 ≤ 0
      rw [e_6]
      omega
  have nf3 : fc_1 (20, [6, 10], [50, 0, 0, 3, 6, 0, 2, 1, 0, 0, 0, 0, 2, 0, 1, 1, 1]) ws (vs ++ [Value.int x]) := by
    refine ⟨fun n hn => ?_, ?_⟩
    · have hn : n ∈ [6, 10] := hn
      rw [List.length_append, hl]
      simp only [List.mem_cons, List.not_mem_nil, or_false] at hn
      show n < 10 + 1; omega
    · show (v_iv (n_v (vs ++ [Value.int x]) 6) ≤ 0) ∨ (1 ≤ v_iv (n_v (vs ++ [Value.int x]) 10))
      rw [e_6]
      rw [e_10]
      first | omega | grind
  have nf4 : fc_1 (20, [6, 10], [50, 0, 0, 3, 6, 0, 2, 1, 0, 0, 9, 0, 2, 0, 2, 1, 1]) ws (vs ++ [Value.int x]) := by
    refine ⟨fun n hn => ?_, ?_⟩
    · have hn : n ∈ [6, 10] := hn
      rw [List.length_append, hl]
      simp only [List.mem_cons, List.not_mem_nil, or_false] at hn
      show n < 10 + 1; omega
    · show (v_iv (n_v (vs ++ [Value.int x]) 6) ≤ 9) ∨ (2 ≤ v_iv (n_v (vs ++ [Value.int x]) 10))
      rw [e_6]
      rw [e_10]
      first | omega | grind
  have nf5 : fc_1 (20, [6, 10], [50, 0, 0, 3, 6, 0, 2, 1, 0, 0, 99, 0, 2, 0, 3, 1, 1]) ws (vs ++ [Value.int x]) := by
    refine ⟨fun n hn => ?_, ?_⟩
    · have hn : n ∈ [6, 10] := hn
      rw [List.length_append, hl]
      simp only [List.mem_cons, List.not_mem_nil, or_false] at hn
      show n < 10 + 1; omega
    · show (v_iv (n_v (vs ++ [Value.int x]) 6) ≤ 99) ∨ (3 ≤ v_iv (n_v (vs ++ [Value.int x]) 10))
      rw [e_6]
      rw [e_10]
      first | omega | grind
  have nf6 : fc_1 (20, [6, 10], [50, 0, 0, 3, 6, 0, 2, 1, 0, 0, 999, 0, 2, 0, 4, 1, 1]) ws (vs ++ [Value.int x]) := by
    refine ⟨fun n hn => ?_, ?_⟩
    · have hn : n ∈ [6, 10] := hn
      rw [List.length_append, hl]
      simp only [List.mem_cons, List.not_mem_nil, or_false] at hn
      show n < 10 + 1; omega
    · show (v_iv (n_v (vs ++ [Value.int x]) 6) ≤ 999) ∨ (4 ≤ v_iv (n_v (vs ++ [Value.int x]) 10))
      rw [e_6]
      rw [e_10]
      first | omega | grind
  have nf7 : fc_1 (20, [6, 10], [50, 0, 0, 3, 6, 0, 2, 1, 0, 0, 9999, 0, 2, 0, 5, 1, 1]) ws (vs ++ [Value.int x]) := by
    refine ⟨fun n hn => ?_, ?_⟩
    · have hn : n ∈ [6, 10] := hn
      rw [List.length_append, hl]
      simp only [List.mem_cons, List.not_mem_nil, or_false] at hn
      show n < 10 + 1; omega
    · show (v_iv (n_v (vs ++ [Value.int x]) 6) ≤ 9999) ∨ (5 ≤ v_iv (n_v (vs ++ [Value.int x]) 10))
      rw [e_6]
      rw [e_10]
      first | omega | grind
  have nf8 : fc_1 (20, [6, 10], [50, 0, 0, 3, 6, 0, 2, 1, 0, 0, 99999, 0, 2, 0, 6, 1, 1]) ws (vs ++ [Value.int x]) := by
    refine ⟨fun n hn => ?_, ?_⟩
    · have hn : n ∈ [6, 10] := hn
      rw [List.length_append, hl]
      simp only [List.mem_cons, List.not_mem_nil, or_false] at hn
      show n < 10 + 1; omega
    · show (v_iv (n_v (vs ++ [Value.int x]) 6) ≤ 99999) ∨ (6 ≤ v_iv (n_v (vs ++ [Value.int x]) 10))
      rw [e_6]
      rw [e_10]
      first | omega | grind
  have nf9 : fc_1 (20, [6, 10], [50, 0, 0, 3, 6, 0, 2, 1, 0, 0, 999999, 0, 2, 0, 7, 1, 1]) ws (vs ++ [Value.int x]) := by
    refine ⟨fun n hn => ?_, ?_⟩
    · have hn : n ∈ [6, 10] := hn
      rw [List.length_append, hl]
      simp only [List.mem_cons, List.not_mem_nil, or_false] at hn
      show n < 10 + 1; omega
    · show (v_iv (n_v (vs ++ [Value.int x]) 6) ≤ 999999) ∨ (7 ≤ v_iv (n_v (vs ++ [Value.int x]) 10))
      rw [e_6]
      rw [e_10]
      first | omega | grind
  have nf10 : fc_1 (20, [6, 10], [50, 0, 0, 3, 6, 0, 2, 1, 0, 0, 9999999, 0, 2, 0, 8, 1, 1]) ws (vs ++ [Value.int x]) := by
    refine ⟨fun n hn => ?_, ?_⟩
    · have hn : n ∈ [6, 10] := hn
      rw [List.length_append, hl]
      simp only [List.mem_cons, List.not_mem_nil, or_false] at hn
      show n < 10 + 1; omega
    · show (v_iv (n_v (vs ++ [Value.int x]) 6) ≤ 9999999) ∨ (8 ≤ v_iv (n_v (vs ++ [Value.int x]) 10))
      rw [e_6]
      rw [e_10]
      first | omega | grind
  have nf11 : fc_1 (20, [6, 10], [50, 0, 0, 3, 6, 0, 2, 1, 0, 0, 99999999, 0, 2, 0, 9, 1, 1]) ws (vs ++ [Value.int x]) := by
    refine ⟨fun n hn => ?_, ?_⟩
    · have hn : n ∈ [6, 10] := hn
      rw [List.length_append, hl]
      simp only [List.mem_cons, List.not_mem_nil, or_false] at hn
      show n < 10 + 1; omega
    · show (v_iv (n_v (vs ++ [Value.int x]) 6) ≤ 99999999) ∨ (9 ≤ v_iv (n_v (vs ++ [Value.int x]) 10))
      rw [e_6]
      rw [e_10]
      first | omega | grind
  have nf12 : fc_1 (20, [6, 10], [50, 0, 0, 3, 6, 0, 2, 1, 0, 0, 999999999, 0, 2, 0, 10, 1, 1]) ws (vs ++ [Value.int x]) := by
    refine ⟨fun n hn => ?_, ?_⟩
    · have hn : n ∈ [6, 10] := hn
      rw [List.length_append, hl]
      simp only [List.mem_cons, List.not_mem_nil, or_false] at hn
      show n < 10 + 1; omega
    · show (v_iv (n_v (vs ++ [Value.int x]) 6) ≤ 999999999) ∨ (10 ≤ v_iv (n_v (vs ++ [Value.int x]) 10))
      rw [e_6]
      rw [e_10]
      first | omega | grind
  have nf13 : fc_1 (20, [6, 10], [50, 0, 0, 3, 6, 0, 2, 1, 0, 0, 9999999999, 0, 2, 0, 11, 1, 1]) ws (vs ++ [Value.int x]) := by
    refine ⟨fun n hn => ?_, ?_⟩
    · have hn : n ∈ [6, 10] := hn
      rw [List.length_append, hl]
      simp only [List.mem_cons, List.not_mem_nil, or_false] at hn
      show n < 10 + 1; omega
    · show (v_iv (n_v (vs ++ [Value.int x]) 6) ≤ 9999999999) ∨ (11 ≤ v_iv (n_v (vs ++ [Value.int x]) 10))
      rw [e_6]
      rw [e_10]
      first | omega | grind
  have nf14 : fc_1 (20, [10], [50, 0, 0, 0, 2, 0, -1, 1, 0]) ws (vs ++ [Value.int x]) := by
    refine ⟨fun n hn => ?_, ?_⟩
    · have hn : n ∈ [10] := hn
      rw [List.length_append, hl]
      simp only [List.mem_cons, List.not_mem_nil, or_false] at hn
      show n < 10 + 1; omega
    · show (-1) ≤ v_iv (n_v (vs ++ [Value.int x]) 10)
      rw [e_10]
      first | omega | grind
  have nf15 : fc_1 (24, [0, 3], []) ws (vs ++ [Value.int x]) := by
    refine ⟨fun n hn => ?_, ?_⟩
    · have hn : n ∈ [0, 3] := hn
      rw [List.length_append, hl]
      simp only [List.mem_cons, List.not_mem_nil, or_false] at hn
      show n < 10 + 1; omega
    · show n_v (vs ++ [Value.int x]) 0 = n_v (vs ++ [Value.int x]) 3
      first | rfl | simp only [e_0, e_3, q3]
  exact ⟨(fun _ h => (by cases h)), [Value.int x], ag_one hx, List.forall_mem_cons.mpr ⟨⟨show (20 : Nat) < 100 from by decide, nf0⟩, List.forall_mem_cons.mpr ⟨⟨show (23 : Nat) < 100 from by decide, nf1⟩, List.forall_mem_cons.mpr ⟨⟨show (23 : Nat) < 100 from by decide, nf2⟩, List.forall_mem_cons.mpr ⟨⟨show (20 : Nat) < 100 from by decide, nf3⟩, List.forall_mem_cons.mpr ⟨⟨show (20 : Nat) < 100 from by decide, nf4⟩, List.forall_mem_cons.mpr ⟨⟨show (20 : Nat) < 100 from by decide, nf5⟩, List.forall_mem_cons.mpr ⟨⟨show (20 : Nat) < 100 from by decide, nf6⟩, List.forall_mem_cons.mpr ⟨⟨show (20 : Nat) < 100 from by decide, nf7⟩, List.forall_mem_cons.mpr ⟨⟨show (20 : Nat) < 100 from by decide, nf8⟩, List.forall_mem_cons.mpr ⟨⟨show (20 : Nat) < 100 from by decide, nf9⟩, List.forall_mem_cons.mpr ⟨⟨show (20 : Nat) < 100 from by decide, nf10⟩, List.forall_mem_cons.mpr ⟨⟨show (20 : Nat) < 100 from by decide, nf11⟩, List.forall_mem_cons.mpr ⟨⟨show (20 : Nat) < 100 from by decide, nf12⟩, List.forall_mem_cons.mpr ⟨⟨show (20 : Nat) < 100 from by decide, nf13⟩, List.forall_mem_cons.mpr ⟨⟨show (20 : Nat) < 100 from by decide, nf14⟩, List.forall_mem_cons.mpr ⟨⟨show (24 : Nat) < 100 from by decide, nf15⟩, (fun _ h => (by cases h))⟩⟩⟩⟩⟩⟩⟩⟩⟩⟩⟩⟩⟩⟩⟩⟩, (fun _ h => (by cases h))⟩
def o_Mo_writeNumber_4 : or_T := (43, 12, [(0, (2, 0, 0, [150])), (2, (0, 0, 99999987, [])), (3, (2, 0, 0, [150])), (5, (1, 0, 2147483648, [])), (6, (1, 1, 2147483648, [])), (7, (0, -1, 2147483647, [])), (8, (1, 10, 2147483648, [])), (9, (1, 9, 9, [])), (10, (1, 10, 10, [])), (11, (1, 10, 21474836480, []))], [(3, [11, 6, 10], []), (7, [8, 9], [4]), (4, [8, 5, 6], []), (20, [3, 2], [30, 1, 1, 1, 170, -1, 0, 0]), (23, [6], [-1, -1]), (23, [6], [2147483648, 1]), (20, [6, 5], [50, 0, 0, 3, 6, 0, 2, 1, 0, 0, 1, 0, 2, 1, 0, 1, 1]), (24, [0, 3], []), (20, [7, 5, 6], [30, 0, 1, 0, 0, -1, 0, 0, 1, 0, 0]), (20, [7, 5, 6], [30, 0, -1, 0, 0, 1, 0, 0, -1, 0, 0])], [(11, (1, 10, 2147483648, []))], [], [], [], [])
theorem oo_Mo_writeNumber_4 {kA : Nat → ClassId} : or_ok kA GG o_Mo_writeNumber_4 := by
  intro A ta ws vs hD hth hl hk hds hf
  have hl : vs.length = 12 := hl
  have hk : ∀ q ∈ ([(0, (2, 0, 0, [150])), (2, (0, 0, 99999987, [])), (3, (2, 0, 0, [150])), (5, (1, 0, 2147483648, [])), (6, (1, 1, 2147483648, [])), (7, (0, -1, 2147483647, [])), (8, (1, 10, 2147483648, [])), (9, (1, 9, 9, [])), (10, (1, 10, 10, [])), (11, (1, 10, 21474836480, []))] : List (Nat × tv_T)), tv_ok ta q.2 (n_v vs q.1) := hk
  obtain ⟨t0, hk⟩ := List.forall_mem_cons.mp hk
  have t0 : tv_ok ta (2, 0, 0, [150]) (n_v vs 0) := t0
  have r0 : ta (v_ad (n_v vs 0)) = some 150 := tv_rg t0
  obtain ⟨t2, hk⟩ := List.forall_mem_cons.mp hk
  have t2 : tv_ok ta (0, 0, 99999987, []) (n_v vs 2) := t2
  have k2 : 0 ≤ v_iv (n_v vs 2) ∧ v_iv (n_v vs 2) ≤ 99999987 := tv_rng t2
  obtain ⟨t3, hk⟩ := List.forall_mem_cons.mp hk
  have t3 : tv_ok ta (2, 0, 0, [150]) (n_v vs 3) := t3
  have r3 : ta (v_ad (n_v vs 3)) = some 150 := tv_rg t3
  obtain ⟨t5, hk⟩ := List.forall_mem_cons.mp hk
  have t5 : tv_ok ta (1, 0, 2147483648, []) (n_v vs 5) := t5
  have k5 : 0 ≤ v_iv (n_v vs 5) ∧ v_iv (n_v vs 5) ≤ 2147483648 := tv_rngL t5
  obtain ⟨t6, hk⟩ := List.forall_mem_cons.mp hk
  have t6 : tv_ok ta (1, 1, 2147483648, []) (n_v vs 6) := t6
  have k6 : 1 ≤ v_iv (n_v vs 6) ∧ v_iv (n_v vs 6) ≤ 2147483648 := tv_rngL t6
  obtain ⟨t7, hk⟩ := List.forall_mem_cons.mp hk
  have t7 : tv_ok ta (0, -1, 2147483647, []) (n_v vs 7) := t7
  have k7 : (-1) ≤ v_iv (n_v vs 7) ∧ v_iv (n_v vs 7) ≤ 2147483647 := tv_rng t7
  obtain ⟨t8, hk⟩ := List.forall_mem_cons.mp hk
  have t8 : tv_ok ta (1, 10, 2147483648, []) (n_v vs 8) := t8
  have k8 : 10 ≤ v_iv (n_v vs 8) ∧ v_iv (n_v vs 8) ≤ 2147483648 := tv_rngL t8
  obtain ⟨t9, hk⟩ := List.forall_mem_cons.mp hk
  have t9 : tv_ok ta (1, 9, 9, []) (n_v vs 9) := t9
  have k9 : 9 ≤ v_iv (n_v vs 9) ∧ v_iv (n_v vs 9) ≤ 9 := tv_rngL t9
  obtain ⟨t10, hk⟩ := List.forall_mem_cons.mp hk
  have t10 : tv_ok ta (1, 10, 10, []) (n_v vs 10) := t10
  have k10 : 10 ≤ v_iv (n_v vs 10) ∧ v_iv (n_v vs 10) ≤ 10 := tv_rngL t10
  obtain ⟨t11, hk⟩ := List.forall_mem_cons.mp hk
  have t11 : tv_ok ta (1, 10, 21474836480, []) (n_v vs 11) := t11
  have k11 : 10 ≤ v_iv (n_v vs 11) ∧ v_iv (n_v vs 11) ≤ 21474836480 := tv_rngL t11
  have hf : fc_ok [(3, [11, 6, 10], []), (7, [8, 9], [4]), (4, [8, 5, 6], []), (20, [3, 2], [30, 1, 1, 1, 170, -1, 0, 0]), (23, [6], [-1, -1]), (23, [6], [2147483648, 1]), (20, [6, 5], [50, 0, 0, 3, 6, 0, 2, 1, 0, 0, 1, 0, 2, 1, 0, 1, 1]), (24, [0, 3], []), (20, [7, 5, 6], [30, 0, 1, 0, 0, -1, 0, 0, 1, 0, 0]), (20, [7, 5, 6], [30, 0, -1, 0, 0, 1, 0, 0, -1, 0, 0])] ta ws vs := hf
  obtain ⟨f0, hf⟩ := fc_un (show (3 : Nat) < 100 from by decide) hf
  have f0 : v_iv (n_v vs 11) = v_iv (n_v vs 6) * v_iv (n_v vs 10) := f0
  rw [show v_iv (n_v vs 10) = 10 from by omega] at f0
  obtain ⟨f1, hf⟩ := fc_un (show (7 : Nat) < 100 from by decide) hf
  have f1 : v_iv (n_v vs 9) < v_iv (n_v vs 8) := f1
  obtain ⟨f2, hf⟩ := fc_un (show (4 : Nat) < 100 from by decide) hf
  have f2 : v_iv (n_v vs 8) = Int.tdiv (v_iv (n_v vs 5)) (v_iv (n_v vs 6)) := f2
  have fq2 : 10 ≤ v_iv (n_v vs 8) → 10 * v_iv (n_v vs 6) ≤ v_iv (n_v vs 5) := dv_ten f2 (by omega) (by omega)
  obtain ⟨f3, hf⟩ := fc_un (show (20 : Nat) < 100 from by decide) hf
  have f3 : 1 * w_fi ws (n_v vs 3) 170 + ((-1) * v_iv (n_v vs 2) + 0) ≤ 1 := f3
  obtain ⟨f4, hf⟩ := fc_un (show (23 : Nat) < 100 from by decide) hf
  have f4 : (-1) * v_iv (n_v vs 6) + 0 ≤ (-1) := f4
  obtain ⟨f5, hf⟩ := fc_un (show (23 : Nat) < 100 from by decide) hf
  have f5 : 1 * v_iv (n_v vs 6) + 0 ≤ 2147483648 := f5
  obtain ⟨f6, hf⟩ := fc_un (show (20 : Nat) < 100 from by decide) hf
  have f6 : (v_iv (n_v vs 6) ≤ 1) ∨ (v_iv (n_v vs 6) ≤ v_iv (n_v vs 5)) := f6
  obtain ⟨f7, hf⟩ := fc_un (show (24 : Nat) < 100 from by decide) hf
  have f7 : n_v vs 0 = n_v vs 3 := f7
  obtain ⟨f8, hf⟩ := fc_un (show (20 : Nat) < 100 from by decide) hf
  have f8 : 1 * v_iv (n_v vs 7) + ((-1) * v_iv (n_v vs 5) + (1 * v_iv (n_v vs 6) + 0)) ≤ 0 := f8
  obtain ⟨f9, hf⟩ := fc_un (show (20 : Nat) < 100 from by decide) hf
  have f9 : (-1) * v_iv (n_v vs 7) + (1 * v_iv (n_v vs 5) + ((-1) * v_iv (n_v vs 6) + 0)) ≤ 0 := f9
  have q3 : n_v vs 3 = n_v vs 0 := f7.symm
  rw [q3] at f3
  have kz_0_170 : 0 ≤ w_fi ws (n_v vs 0) 170 ∧ w_fi ws (n_v vs 0) 170 ≤ 100000000 := tv_rng (th_fd hD hth r0 (g := GG_150) rfl (k := 170) (t := (0, 0, 100000000, [])) rfl rfl)
  have rf11 : tv_ok ta (1, 10, 2147483648, []) (n_v vs 11) := tv_inL t11 (by first | omega | grind) (by first | omega | grind)
  refine ⟨List.forall_mem_cons.mpr ⟨rf11, (fun _ h => (by cases h))⟩, [], trivial, ?_, (fun _ h => (by cases h))⟩
  rw [List.append_nil]
  exact (fun _ h => (by cases h))
def o_Mo_writeNumber_5 : or_T := (45, 12, [(0, (2, 0, 0, [150])), (2, (0, 0, 99999987, [])), (3, (2, 0, 0, [150])), (5, (1, 0, 2147483648, [])), (6, (1, 1, 2147483648, [])), (7, (0, -1, 2147483647, [])), (8, (1, 10, 2147483648, [])), (9, (1, 9, 9, [])), (10, (1, 10, 10, [])), (11, (1, 10, 2147483648, []))], [(3, [11, 6, 10], []), (7, [8, 9], [4]), (4, [8, 5, 6], []), (20, [3, 2], [30, 1, 1, 1, 170, -1, 0, 0]), (23, [6], [-1, -1]), (23, [6], [2147483648, 1]), (20, [6, 5], [50, 0, 0, 3, 6, 0, 2, 1, 0, 0, 1, 0, 2, 1, 0, 1, 1]), (24, [0, 3], []), (20, [7, 5, 6], [30, 0, 1, 0, 0, -1, 0, 0, 1, 0, 0]), (20, [7, 5, 6], [30, 0, -1, 0, 0, 1, 0, 0, -1, 0, 0])], [], [(0, -1, 2147483647, [])], [(20, [3, 2], [30, 1, 1, 1, 170, -1, 0, 0]), (23, [11], [-1, -1]), (23, [11], [2147483648, 1]), (20, [11, 5], [50, 0, 0, 3, 6, 0, 2, 1, 0, 0, 1, 0, 2, 1, 0, 1, 1]), (20, [5, 11, 12], [30, -1, 1, 0, 0, -1, 0, 0, -1, 0, 0]), (24, [0, 3], [])], [(12, 7, 0, 0)], [])
theorem oo_Mo_writeNumber_5 {kA : Nat → ClassId} : or_ok kA GG o_Mo_writeNumber_5 := by
  intro A ta ws vs hD hth hl hk hds hf
  have hl : vs.length = 12 := hl
  have hk : ∀ q ∈ ([(0, (2, 0, 0, [150])), (2, (0, 0, 99999987, [])), (3, (2, 0, 0, [150])), (5, (1, 0, 2147483648, [])), (6, (1, 1, 2147483648, [])), (7, (0, -1, 2147483647, [])), (8, (1, 10, 2147483648, [])), (9, (1, 9, 9, [])), (10, (1, 10, 10, [])), (11, (1, 10, 2147483648, []))] : List (Nat × tv_T)), tv_ok ta q.2 (n_v vs q.1) := hk
  obtain ⟨t0, hk⟩ := List.forall_mem_cons.mp hk
  have t0 : tv_ok ta (2, 0, 0, [150]) (n_v vs 0) := t0
  have r0 : ta (v_ad (n_v vs 0)) = some 150 := tv_rg t0
  obtain ⟨t2, hk⟩ := List.forall_mem_cons.mp hk
  have t2 : tv_ok ta (0, 0, 99999987, []) (n_v vs 2) := t2
  have k2 : 0 ≤ v_iv (n_v vs 2) ∧ v_iv (n_v vs 2) ≤ 99999987 := tv_rng t2
  obtain ⟨t3, hk⟩ := List.forall_mem_cons.mp hk
  have t3 : tv_ok ta (2, 0, 0, [150]) (n_v vs 3) := t3
  have r3 : ta (v_ad (n_v vs 3)) = some 150 := tv_rg t3
  obtain ⟨t5, hk⟩ := List.forall_mem_cons.mp hk
  have t5 : tv_ok ta (1, 0, 2147483648, []) (n_v vs 5) := t5
  have k5 : 0 ≤ v_iv (n_v vs 5) ∧ v_iv (n_v vs 5) ≤ 2147483648 := tv_rngL t5
  obtain ⟨t6, hk⟩ := List.forall_mem_cons.mp hk
  have t6 : tv_ok ta (1, 1, 2147483648, []) (n_v vs 6) := t6
  have k6 : 1 ≤ v_iv (n_v vs 6) ∧ v_iv (n_v vs 6) ≤ 2147483648 := tv_rngL t6
  obtain ⟨t7, hk⟩ := List.forall_mem_cons.mp hk
  have t7 : tv_ok ta (0, -1, 2147483647, []) (n_v vs 7) := t7
  have k7 : (-1) ≤ v_iv (n_v vs 7) ∧ v_iv (n_v vs 7) ≤ 2147483647 := tv_rng t7
  obtain ⟨t8, hk⟩ := List.forall_mem_cons.mp hk
  have t8 : tv_ok ta (1, 10, 2147483648, []) (n_v vs 8) := t8
  have k8 : 10 ≤ v_iv (n_v vs 8) ∧ v_iv (n_v vs 8) ≤ 2147483648 := tv_rngL t8
  obtain ⟨t9, hk⟩ := List.forall_mem_cons.mp hk
  have t9 : tv_ok ta (1, 9, 9, []) (n_v vs 9) := t9
  have k9 : 9 ≤ v_iv (n_v vs 9) ∧ v_iv (n_v vs 9) ≤ 9 := tv_rngL t9
  obtain ⟨t10, hk⟩ := List.forall_mem_cons.mp hk
  have t10 : tv_ok ta (1, 10, 10, []) (n_v vs 10) := t10
  have k10 : 10 ≤ v_iv (n_v vs 10) ∧ v_iv (n_v vs 10) ≤ 10 := tv_rngL t10
  obtain ⟨t11, hk⟩ := List.forall_mem_cons.mp hk
  have t11 : tv_ok ta (1, 10, 2147483648, []) (n_v vs 11) := t11
  have k11 : 10 ≤ v_iv (n_v vs 11) ∧ v_iv (n_v vs 11) ≤ 2147483648 := tv_rngL t11
  have hf : fc_ok [(3, [11, 6, 10], []), (7, [8, 9], [4]), (4, [8, 5, 6], []), (20, [3, 2], [30, 1, 1, 1, 170, -1, 0, 0]), (23, [6], [-1, -1]), (23, [6], [2147483648, 1]), (20, [6, 5], [50, 0, 0, 3, 6, 0, 2, 1, 0, 0, 1, 0, 2, 1, 0, 1, 1]), (24, [0, 3], []), (20, [7, 5, 6], [30, 0, 1, 0, 0, -1, 0, 0, 1, 0, 0]), (20, [7, 5, 6], [30, 0, -1, 0, 0, 1, 0, 0, -1, 0, 0])] ta ws vs := hf
  obtain ⟨f0, hf⟩ := fc_un (show (3 : Nat) < 100 from by decide) hf
  have f0 : v_iv (n_v vs 11) = v_iv (n_v vs 6) * v_iv (n_v vs 10) := f0
  rw [show v_iv (n_v vs 10) = 10 from by omega] at f0
  obtain ⟨f1, hf⟩ := fc_un (show (7 : Nat) < 100 from by decide) hf
  have f1 : v_iv (n_v vs 9) < v_iv (n_v vs 8) := f1
  obtain ⟨f2, hf⟩ := fc_un (show (4 : Nat) < 100 from by decide) hf
  have f2 : v_iv (n_v vs 8) = Int.tdiv (v_iv (n_v vs 5)) (v_iv (n_v vs 6)) := f2
  have fq2 : 10 ≤ v_iv (n_v vs 8) → 10 * v_iv (n_v vs 6) ≤ v_iv (n_v vs 5) := dv_ten f2 (by omega) (by omega)
  obtain ⟨f3, hf⟩ := fc_un (show (20 : Nat) < 100 from by decide) hf
  have f3 : 1 * w_fi ws (n_v vs 3) 170 + ((-1) * v_iv (n_v vs 2) + 0) ≤ 1 := f3
  obtain ⟨f4, hf⟩ := fc_un (show (23 : Nat) < 100 from by decide) hf
  have f4 : (-1) * v_iv (n_v vs 6) + 0 ≤ (-1) := f4
  obtain ⟨f5, hf⟩ := fc_un (show (23 : Nat) < 100 from by decide) hf
  have f5 : 1 * v_iv (n_v vs 6) + 0 ≤ 2147483648 := f5
  obtain ⟨f6, hf⟩ := fc_un (show (20 : Nat) < 100 from by decide) hf
  have f6 : (v_iv (n_v vs 6) ≤ 1) ∨ (v_iv (n_v vs 6) ≤ v_iv (n_v vs 5)) := f6
  obtain ⟨f7, hf⟩ := fc_un (show (24 : Nat) < 100 from by decide) hf
  have f7 : n_v vs 0 = n_v vs 3 := f7
  obtain ⟨f8, hf⟩ := fc_un (show (20 : Nat) < 100 from by decide) hf
  have f8 : 1 * v_iv (n_v vs 7) + ((-1) * v_iv (n_v vs 5) + (1 * v_iv (n_v vs 6) + 0)) ≤ 0 := f8
  obtain ⟨f9, hf⟩ := fc_un (show (20 : Nat) < 100 from by decide) hf
  have f9 : (-1) * v_iv (n_v vs 7) + (1 * v_iv (n_v vs 5) + ((-1) * v_iv (n_v vs 6) + 0)) ≤ 0 := f9
  have q3 : n_v vs 3 = n_v vs 0 := f7.symm
  rw [q3] at f3
  have kz_0_170 : 0 ≤ w_fi ws (n_v vs 0) 170 ∧ w_fi ws (n_v vs 0) 170 ≤ 100000000 := tv_rng (th_fd hD hth r0 (g := GG_150) rfl (k := 170) (t := (0, 0, 100000000, [])) rfl rfl)
  obtain ⟨x, ex, hx⟩ := iv_ex (ta := ta) (lo := (-1)) (hi := 2147483647) (z := 0 + (1 * v_iv (n_v vs 7) + 0)) (by omega) (by omega) (by omega) (by omega)
  have ex2 : v_iv (Value.int x) = 0 + (1 * v_iv (n_v vs 7) + 0) := ex
  have ex3 : (-1) ≤ v_iv (Value.int x) ∧ v_iv (Value.int x) ≤ 2147483647 := tv_rng hx
  have e_0 : n_v (vs ++ [Value.int x]) 0 = n_v vs 0 := n_v_old (by rw [hl]; decide)
  have e_2 : n_v (vs ++ [Value.int x]) 2 = n_v vs 2 := n_v_old (by rw [hl]; decide)
  have e_3 : n_v (vs ++ [Value.int x]) 3 = n_v vs 3 := n_v_old (by rw [hl]; decide)
  have e_5 : n_v (vs ++ [Value.int x]) 5 = n_v vs 5 := n_v_old (by rw [hl]; decide)
  have e_11 : n_v (vs ++ [Value.int x]) 11 = n_v vs 11 := n_v_old (by rw [hl]; decide)
  have e_12 : n_v (vs ++ [Value.int x]) 12 = Value.int x := n_v_new hl
  have nf0 : fc_1 (20, [3, 2], [30, 1, 1, 1, 170, -1, 0, 0]) ws (vs ++ [Value.int x]) := by
    refine ⟨fun n hn => ?_, ?_⟩
    · have hn : n ∈ [3, 2] := hn
      rw [List.length_append, hl]
      simp only [List.mem_cons, List.not_mem_nil, or_false] at hn
      show n < 12 + 1; omega
    · show 1 * w_fi ws (n_v (vs ++ [Value.int x]) 3) 170 + ((-1) * v_iv (n_v (vs ++ [Value.int x]) 2) + 0) ≤ 1
      rw [e_2]
      rw [e_3]
      rw [q3]
      omega
  have nf1 : fc_1 (23, [11], [-1, -1]) ws (vs ++ [Value.int x]) := by
    refine ⟨fun n hn => ?_, ?_⟩
    · have hn : n ∈ [11] := hn
      rw [List.length_append, hl]
      simp only [List.mem_cons, List.not_mem_nil, or_false] at hn
      show n < 12 + 1; omega
    · show (-1) * v_iv (n_v (vs ++ [Value.int x]) 11) + 0 ≤ (-1)
      rw [e_11]
      omega
  have nf2 : fc_1 (23, [11], [2147483648, 1]) ws (vs ++ [Value.int x]) := by
    refine ⟨fun n hn => ?_, ?_⟩
    · have hn : n ∈ [11] := hn
      rw [List.length_append, hl]
      simp only [List.mem_cons, List.not_mem_nil, or_false] at hn
      show n < 12 + 1; omega
    · show 1 * v_iv (n_v (vs ++ [Value.int x]) 11) + 0 ≤ 2147483648
      rw [e_11]
      omega
  have nf3 : fc_1 (20, [11, 5], [50, 0, 0, 3, 6, 0, 2, 1, 0, 0, 1, 0, 2, 1, 0, 1, 1]) ws (vs ++ [Value.int x]) := by
    refine ⟨fun n hn => ?_, ?_⟩
    · have hn : n ∈ [11, 5] := hn
      rw [List.length_append, hl]
      simp only [List.mem_cons, List.not_mem_nil, or_false] at hn
      show n < 12 + 1; omega
    · show (v_iv (n_v (vs ++ [Value.int x]) 11) ≤ 1) ∨ (v_iv (n_v (vs ++ [Value.int x]) 11) ≤ v_iv (n_v (vs ++ [Value.int x]) 5))
      rw [e_5]
      rw [e_11]
      first | omega | grind
  have nf4 : fc_1 (20, [5, 11, 12], [30, -1, 1, 0, 0, -1, 0, 0, -1, 0, 0]) ws (vs ++ [Value.int x]) := by
    refine ⟨fun n hn => ?_, ?_⟩
    · have hn : n ∈ [5, 11, 12] := hn
      rw [List.length_append, hl]
      simp only [List.mem_cons, List.not_mem_nil, or_false] at hn
      show n < 12 + 1; omega
    · show 1 * v_iv (n_v (vs ++ [Value.int x]) 5) + ((-1) * v_iv (n_v (vs ++ [Value.int x]) 11) + ((-1) * v_iv (n_v (vs ++ [Value.int x]) 12) + 0)) ≤ (-1)
      rw [e_5]
      rw [e_11]
      rw [e_12]
      omega
  have nf5 : fc_1 (24, [0, 3], []) ws (vs ++ [Value.int x]) := by
    refine ⟨fun n hn => ?_, ?_⟩
    · have hn : n ∈ [0, 3] := hn
      rw [List.length_append, hl]
      simp only [List.mem_cons, List.not_mem_nil, or_false] at hn
      show n < 12 + 1; omega
    · show n_v (vs ++ [Value.int x]) 0 = n_v (vs ++ [Value.int x]) 3
      first | rfl | simp only [e_0, e_3, q3]
  obtain ⟨x0, e0, _, _⟩ := tv_int t7 rfl
  have e1 : v_iv (n_v vs 7) = x0.toInt := by rw [e0]; rfl
  have ho : sy_ofs (vs ++ [Value.int x]) (12, 7, 0, 0) := by
    refine ⟨x, x0, by rw [List.getElem?_append_right (by rw [hl]; decide), hl]; rfl, ?_, ?_, ?_⟩
    · rw [List.getElem?_append_left (by rw [hl]; decide)]; exact n_v_some (by rw [hl]; decide) e0
    · show x0.toInt + 0 ≤ x.toInt; omega
    · show x.toInt ≤ x0.toInt + 0; omega
  exact ⟨(fun _ h => (by cases h)), [Value.int x], ag_one hx, List.forall_mem_cons.mpr ⟨⟨show (20 : Nat) < 100 from by decide, nf0⟩, List.forall_mem_cons.mpr ⟨⟨show (23 : Nat) < 100 from by decide, nf1⟩, List.forall_mem_cons.mpr ⟨⟨show (23 : Nat) < 100 from by decide, nf2⟩, List.forall_mem_cons.mpr ⟨⟨show (20 : Nat) < 100 from by decide, nf3⟩, List.forall_mem_cons.mpr ⟨⟨show (20 : Nat) < 100 from by decide, nf4⟩, List.forall_mem_cons.mpr ⟨⟨show (24 : Nat) < 100 from by decide, nf5⟩, (fun _ h => (by cases h))⟩⟩⟩⟩⟩⟩, List.forall_mem_cons.mpr ⟨ho, (fun _ h => (by cases h))⟩⟩
def o_Mo_writeNumber_6 : or_T := (26, 8, [(0, (2, 0, 0, [150])), (2, (0, 0, 99999987, [])), (3, (2, 0, 0, [150])), (5, (1, 0, 2147483648, [])), (6, (1, 10, 2147483648, [])), (7, (0, -1, 2147483647, []))], [(20, [3, 2], [30, 1, 1, 1, 170, -1, 0, 0]), (23, [6], [-1, -1]), (23, [6], [2147483648, 1]), (20, [6, 5], [50, 0, 0, 3, 6, 0, 2, 1, 0, 0, 1, 0, 2, 1, 0, 1, 1]), (20, [5, 6, 7], [30, -1, 1, 0, 0, -1, 0, 0, -1, 0, 0]), (24, [0, 3], [])], [], [(0, -1, 2147483647, [])], [(20, [3, 2], [30, 1, 1, 1, 170, -1, 0, 0]), (23, [6], [-1, -1]), (23, [6], [2147483648, 1]), (20, [6, 5], [50, 0, 0, 3, 6, 0, 2, 1, 0, 0, 1, 0, 2, 1, 0, 1, 1]), (24, [0, 3], []), (20, [8, 5, 6], [30, 0, 1, 0, 0, -1, 0, 0, 1, 0, 0]), (20, [8, 5, 6], [30, 0, -1, 0, 0, 1, 0, 0, -1, 0, 0])], [(8, 7, -1000000000000, -1)], [])
theorem oo_Mo_writeNumber_6 {kA : Nat → ClassId} : or_ok kA GG o_Mo_writeNumber_6 := by
  intro A ta ws vs hD hth hl hk hds hf
  have hl : vs.length = 8 := hl
  have hk : ∀ q ∈ ([(0, (2, 0, 0, [150])), (2, (0, 0, 99999987, [])), (3, (2, 0, 0, [150])), (5, (1, 0, 2147483648, [])), (6, (1, 10, 2147483648, [])), (7, (0, -1, 2147483647, []))] : List (Nat × tv_T)), tv_ok ta q.2 (n_v vs q.1) := hk
  obtain ⟨t0, hk⟩ := List.forall_mem_cons.mp hk
  have t0 : tv_ok ta (2, 0, 0, [150]) (n_v vs 0) := t0
  have r0 : ta (v_ad (n_v vs 0)) = some 150 := tv_rg t0
  obtain ⟨t2, hk⟩ := List.forall_mem_cons.mp hk
  have t2 : tv_ok ta (0, 0, 99999987, []) (n_v vs 2) := t2
  have k2 : 0 ≤ v_iv (n_v vs 2) ∧ v_iv (n_v vs 2) ≤ 99999987 := tv_rng t2
  obtain ⟨t3, hk⟩ := List.forall_mem_cons.mp hk
  have t3 : tv_ok ta (2, 0, 0, [150]) (n_v vs 3) := t3
  have r3 : ta (v_ad (n_v vs 3)) = some 150 := tv_rg t3
  obtain ⟨t5, hk⟩ := List.forall_mem_cons.mp hk
  have t5 : tv_ok ta (1, 0, 2147483648, []) (n_v vs 5) := t5
  have k5 : 0 ≤ v_iv (n_v vs 5) ∧ v_iv (n_v vs 5) ≤ 2147483648 := tv_rngL t5
  obtain ⟨t6, hk⟩ := List.forall_mem_cons.mp hk
  have t6 : tv_ok ta (1, 10, 2147483648, []) (n_v vs 6) := t6
  have k6 : 10 ≤ v_iv (n_v vs 6) ∧ v_iv (n_v vs 6) ≤ 2147483648 := tv_rngL t6
  obtain ⟨t7, hk⟩ := List.forall_mem_cons.mp hk
  have t7 : tv_ok ta (0, -1, 2147483647, []) (n_v vs 7) := t7
  have k7 : (-1) ≤ v_iv (n_v vs 7) ∧ v_iv (n_v vs 7) ≤ 2147483647 := tv_rng t7
  have hf : fc_ok [(20, [3, 2], [30, 1, 1, 1, 170, -1, 0, 0]), (23, [6], [-1, -1]), (23, [6], [2147483648, 1]), (20, [6, 5], [50, 0, 0, 3, 6, 0, 2, 1, 0, 0, 1, 0, 2, 1, 0, 1, 1]), (20, [5, 6, 7], [30, -1, 1, 0, 0, -1, 0, 0, -1, 0, 0]), (24, [0, 3], [])] ta ws vs := hf
  obtain ⟨f0, hf⟩ := fc_un (show (20 : Nat) < 100 from by decide) hf
  have f0 : 1 * w_fi ws (n_v vs 3) 170 + ((-1) * v_iv (n_v vs 2) + 0) ≤ 1 := f0
  obtain ⟨f1, hf⟩ := fc_un (show (23 : Nat) < 100 from by decide) hf
  have f1 : (-1) * v_iv (n_v vs 6) + 0 ≤ (-1) := f1
  obtain ⟨f2, hf⟩ := fc_un (show (23 : Nat) < 100 from by decide) hf
  have f2 : 1 * v_iv (n_v vs 6) + 0 ≤ 2147483648 := f2
  obtain ⟨f3, hf⟩ := fc_un (show (20 : Nat) < 100 from by decide) hf
  have f3 : (v_iv (n_v vs 6) ≤ 1) ∨ (v_iv (n_v vs 6) ≤ v_iv (n_v vs 5)) := f3
  obtain ⟨f4, hf⟩ := fc_un (show (20 : Nat) < 100 from by decide) hf
  have f4 : 1 * v_iv (n_v vs 5) + ((-1) * v_iv (n_v vs 6) + ((-1) * v_iv (n_v vs 7) + 0)) ≤ (-1) := f4
  obtain ⟨f5, hf⟩ := fc_un (show (24 : Nat) < 100 from by decide) hf
  have f5 : n_v vs 0 = n_v vs 3 := f5
  have q3 : n_v vs 3 = n_v vs 0 := f5.symm
  rw [q3] at f0
  have kz_0_170 : 0 ≤ w_fi ws (n_v vs 0) 170 ∧ w_fi ws (n_v vs 0) 170 ≤ 100000000 := tv_rng (th_fd hD hth r0 (g := GG_150) rfl (k := 170) (t := (0, 0, 100000000, [])) rfl rfl)
  obtain ⟨x, ex, hx⟩ := iv_ex (ta := ta) (lo := (-1)) (hi := 2147483647) (z := 0 + (1 * v_iv (n_v vs 5) + ((-1) * v_iv (n_v vs 6) + 0))) (by omega) (by omega) (by omega) (by omega)
  have ex2 : v_iv (Value.int x) = 0 + (1 * v_iv (n_v vs 5) + ((-1) * v_iv (n_v vs 6) + 0)) := ex
  have ex3 : (-1) ≤ v_iv (Value.int x) ∧ v_iv (Value.int x) ≤ 2147483647 := tv_rng hx
  have e_0 : n_v (vs ++ [Value.int x]) 0 = n_v vs 0 := n_v_old (by rw [hl]; decide)
  have e_2 : n_v (vs ++ [Value.int x]) 2 = n_v vs 2 := n_v_old (by rw [hl]; decide)
  have e_3 : n_v (vs ++ [Value.int x]) 3 = n_v vs 3 := n_v_old (by rw [hl]; decide)
  have e_5 : n_v (vs ++ [Value.int x]) 5 = n_v vs 5 := n_v_old (by rw [hl]; decide)
  have e_6 : n_v (vs ++ [Value.int x]) 6 = n_v vs 6 := n_v_old (by rw [hl]; decide)
  have e_8 : n_v (vs ++ [Value.int x]) 8 = Value.int x := n_v_new hl
  have nf0 : fc_1 (20, [3, 2], [30, 1, 1, 1, 170, -1, 0, 0]) ws (vs ++ [Value.int x]) := by
    refine ⟨fun n hn => ?_, ?_⟩
    · have hn : n ∈ [3, 2] := hn
      rw [List.length_append, hl]
      simp only [List.mem_cons, List.not_mem_nil, or_false] at hn
      show n < 8 + 1; omega
    · show 1 * w_fi ws (n_v (vs ++ [Value.int x]) 3) 170 + ((-1) * v_iv (n_v (vs ++ [Value.int x]) 2) + 0) ≤ 1
      rw [e_2]
      rw [e_3]
      rw [q3]
      omega
  have nf1 : fc_1 (23, [6], [-1, -1]) ws (vs ++ [Value.int x]) := by
    refine ⟨fun n hn => ?_, ?_⟩
    · have hn : n ∈ [6] := hn
      rw [List.length_append, hl]
      simp only [List.mem_cons, List.not_mem_nil, or_false] at hn
      show n < 8 + 1; omega
    · show (-1) * v_iv (n_v (vs ++ [Value.int x]) 6) + 0 ≤ (-1)
      rw [e_6]
      omega
  have nf2 : fc_1 (23, [6], [2147483648, 1]) ws (vs ++ [Value.int x]) := by
    refine ⟨fun n hn => ?_, ?_⟩
    · have hn : n ∈ [6] := hn
      rw [List.length_append, hl]
      simp only [List.mem_cons, List.not_mem_nil, or_false] at hn
      show n < 8 + 1; omega
    · show 1 * v_iv (n_v (vs ++ [Value.int x]) 6) + 0 ≤ 2147483648
      rw [e_6]
      omega
  have nf3 : fc_1 (20, [6, 5], [50, 0, 0, 3, 6, 0, 2, 1, 0, 0, 1, 0, 2, 1, 0, 1, 1]) ws (vs ++ [Value.int x]) := by
    refine ⟨fun n hn => ?_, ?_⟩
    · have hn : n ∈ [6, 5] := hn
      rw [List.length_append, hl]
      simp only [List.mem_cons, List.not_mem_nil, or_false] at hn
      show n < 8 + 1; omega
    · show (v_iv (n_v (vs ++ [Value.int x]) 6) ≤ 1) ∨ (v_iv (n_v (vs ++ [Value.int x]) 6) ≤ v_iv (n_v (vs ++ [Value.int x]) 5))
      rw [e_5]
      rw [e_6]
      first | omega | grind
  have nf4 : fc_1 (24, [0, 3], []) ws (vs ++ [Value.int x]) := by
    refine ⟨fun n hn => ?_, ?_⟩
    · have hn : n ∈ [0, 3] := hn
      rw [List.length_append, hl]
      simp only [List.mem_cons, List.not_mem_nil, or_false] at hn
      show n < 8 + 1; omega
    · show n_v (vs ++ [Value.int x]) 0 = n_v (vs ++ [Value.int x]) 3
      first | rfl | simp only [e_0, e_3, q3]
  have nf5 : fc_1 (20, [8, 5, 6], [30, 0, 1, 0, 0, -1, 0, 0, 1, 0, 0]) ws (vs ++ [Value.int x]) := by
    refine ⟨fun n hn => ?_, ?_⟩
    · have hn : n ∈ [8, 5, 6] := hn
      rw [List.length_append, hl]
      simp only [List.mem_cons, List.not_mem_nil, or_false] at hn
      show n < 8 + 1; omega
    · show 1 * v_iv (n_v (vs ++ [Value.int x]) 8) + ((-1) * v_iv (n_v (vs ++ [Value.int x]) 5) + (1 * v_iv (n_v (vs ++ [Value.int x]) 6) + 0)) ≤ 0
      rw [e_5]
      rw [e_6]
      rw [e_8]
      omega
  have nf6 : fc_1 (20, [8, 5, 6], [30, 0, -1, 0, 0, 1, 0, 0, -1, 0, 0]) ws (vs ++ [Value.int x]) := by
    refine ⟨fun n hn => ?_, ?_⟩
    · have hn : n ∈ [8, 5, 6] := hn
      rw [List.length_append, hl]
      simp only [List.mem_cons, List.not_mem_nil, or_false] at hn
      show n < 8 + 1; omega
    · show (-1) * v_iv (n_v (vs ++ [Value.int x]) 8) + (1 * v_iv (n_v (vs ++ [Value.int x]) 5) + ((-1) * v_iv (n_v (vs ++ [Value.int x]) 6) + 0)) ≤ 0
      rw [e_5]
      rw [e_6]
      rw [e_8]
      omega
  obtain ⟨x0, e0, _, _⟩ := tv_int t7 rfl
  have e1 : v_iv (n_v vs 7) = x0.toInt := by rw [e0]; rfl
  have ho : sy_ofs (vs ++ [Value.int x]) (8, 7, -1000000000000, -1) := by
    refine ⟨x, x0, by rw [List.getElem?_append_right (by rw [hl]; decide), hl]; rfl, ?_, ?_, ?_⟩
    · rw [List.getElem?_append_left (by rw [hl]; decide)]; exact n_v_some (by rw [hl]; decide) e0
    · show x0.toInt + (-1000000000000) ≤ x.toInt; omega
    · show x.toInt ≤ x0.toInt + (-1); omega
  exact ⟨(fun _ h => (by cases h)), [Value.int x], ag_one hx, List.forall_mem_cons.mpr ⟨⟨show (20 : Nat) < 100 from by decide, nf0⟩, List.forall_mem_cons.mpr ⟨⟨show (23 : Nat) < 100 from by decide, nf1⟩, List.forall_mem_cons.mpr ⟨⟨show (23 : Nat) < 100 from by decide, nf2⟩, List.forall_mem_cons.mpr ⟨⟨show (20 : Nat) < 100 from by decide, nf3⟩, List.forall_mem_cons.mpr ⟨⟨show (24 : Nat) < 100 from by decide, nf4⟩, List.forall_mem_cons.mpr ⟨⟨show (20 : Nat) < 100 from by decide, nf5⟩, List.forall_mem_cons.mpr ⟨⟨show (20 : Nat) < 100 from by decide, nf6⟩, (fun _ h => (by cases h))⟩⟩⟩⟩⟩⟩⟩, List.forall_mem_cons.mpr ⟨ho, (fun _ h => (by cases h))⟩⟩
def o_Mo_writeNumber_7 : or_T := (83, 9, [(0, (2, 0, 0, [150])), (2, (0, 0, 99999987, [])), (3, (2, 0, 0, [150])), (6, (1, 0, 0, [])), (7, (0, -1, 11, [])), (8, (1, 0, 0, []))], [(7, [6, 8], [5]), (20, [3, 7, 2], [30, 12, 1, 1, 170, 1, 0, 0, -1, 0, 0]), (23, [6], [2147483648, 1]), (23, [6], [0, -1]), (20, [6, 7], [50, 0, 0, 3, 6, 0, 2, 1, 0, 0, 0, 0, 2, 0, 1, 1, 1]), (20, [6, 7], [50, 0, 0, 3, 6, 0, 2, 1, 0, 0, 9, 0, 2, 0, 2, 1, 1]), (20, [6, 7], [50, 0, 0, 3, 6, 0, 2, 1, 0, 0, 99, 0, 2, 0, 3, 1, 1]), (20, [6, 7], [50, 0, 0, 3, 6, 0, 2, 1, 0, 0, 999, 0, 2, 0, 4, 1, 1]), (20, [6, 7], [50, 0, 0, 3, 6, 0, 2, 1, 0, 0, 9999, 0, 2, 0, 5, 1, 1]), (20, [6, 7], [50, 0, 0, 3, 6, 0, 2, 1, 0, 0, 99999, 0, 2, 0, 6, 1, 1]), (20, [6, 7], [50, 0, 0, 3, 6, 0, 2, 1, 0, 0, 999999, 0, 2, 0, 7, 1, 1]), (20, [6, 7], [50, 0, 0, 3, 6, 0, 2, 1, 0, 0, 9999999, 0, 2, 0, 8, 1, 1]), (20, [6, 7], [50, 0, 0, 3, 6, 0, 2, 1, 0, 0, 99999999, 0, 2, 0, 9, 1, 1]), (20, [6, 7], [50, 0, 0, 3, 6, 0, 2, 1, 0, 0, 999999999, 0, 2, 0, 10, 1, 1]), (20, [6, 7], [50, 0, 0, 3, 6, 0, 2, 1, 0, 0, 9999999999, 0, 2, 0, 11, 1, 1]), (20, [7], [50, 0, 0, 0, 2, 0, -1, 1, 0]), (24, [0, 3], [])], [], [], [(20, [0, 2], [30, 13, 1, 1, 170, -1, 0, 0])], [], [])
theorem oo_Mo_writeNumber_7 {kA : Nat → ClassId} : or_ok kA GG o_Mo_writeNumber_7 := by
  intro A ta ws vs hD hth hl hk hds hf
  have hl : vs.length = 9 := hl
  have hk : ∀ q ∈ ([(0, (2, 0, 0, [150])), (2, (0, 0, 99999987, [])), (3, (2, 0, 0, [150])), (6, (1, 0, 0, [])), (7, (0, -1, 11, [])), (8, (1, 0, 0, []))] : List (Nat × tv_T)), tv_ok ta q.2 (n_v vs q.1) := hk
  obtain ⟨t0, hk⟩ := List.forall_mem_cons.mp hk
  have t0 : tv_ok ta (2, 0, 0, [150]) (n_v vs 0) := t0
  have r0 : ta (v_ad (n_v vs 0)) = some 150 := tv_rg t0
  obtain ⟨t2, hk⟩ := List.forall_mem_cons.mp hk
  have t2 : tv_ok ta (0, 0, 99999987, []) (n_v vs 2) := t2
  have k2 : 0 ≤ v_iv (n_v vs 2) ∧ v_iv (n_v vs 2) ≤ 99999987 := tv_rng t2
  obtain ⟨t3, hk⟩ := List.forall_mem_cons.mp hk
  have t3 : tv_ok ta (2, 0, 0, [150]) (n_v vs 3) := t3
  have r3 : ta (v_ad (n_v vs 3)) = some 150 := tv_rg t3
  obtain ⟨t6, hk⟩ := List.forall_mem_cons.mp hk
  have t6 : tv_ok ta (1, 0, 0, []) (n_v vs 6) := t6
  have k6 : 0 ≤ v_iv (n_v vs 6) ∧ v_iv (n_v vs 6) ≤ 0 := tv_rngL t6
  obtain ⟨t7, hk⟩ := List.forall_mem_cons.mp hk
  have t7 : tv_ok ta (0, -1, 11, []) (n_v vs 7) := t7
  have k7 : (-1) ≤ v_iv (n_v vs 7) ∧ v_iv (n_v vs 7) ≤ 11 := tv_rng t7
  obtain ⟨t8, hk⟩ := List.forall_mem_cons.mp hk
  have t8 : tv_ok ta (1, 0, 0, []) (n_v vs 8) := t8
  have k8 : 0 ≤ v_iv (n_v vs 8) ∧ v_iv (n_v vs 8) ≤ 0 := tv_rngL t8
  have hf : fc_ok [(7, [6, 8], [5]), (20, [3, 7, 2], [30, 12, 1, 1, 170, 1, 0, 0, -1, 0, 0]), (23, [6], [2147483648, 1]), (23, [6], [0, -1]), (20, [6, 7], [50, 0, 0, 3, 6, 0, 2, 1, 0, 0, 0, 0, 2, 0, 1, 1, 1]), (20, [6, 7], [50, 0, 0, 3, 6, 0, 2, 1, 0, 0, 9, 0, 2, 0, 2, 1, 1]), (20, [6, 7], [50, 0, 0, 3, 6, 0, 2, 1, 0, 0, 99, 0, 2, 0, 3, 1, 1]), (20, [6, 7], [50, 0, 0, 3, 6, 0, 2, 1, 0, 0, 999, 0, 2, 0, 4, 1, 1]), (20, [6, 7], [50, 0, 0, 3, 6, 0, 2, 1, 0, 0, 9999, 0, 2, 0, 5, 1, 1]), (20, [6, 7], [50, 0, 0, 3, 6, 0, 2, 1, 0, 0, 99999, 0, 2, 0, 6, 1, 1]), (20, [6, 7], [50, 0, 0, 3, 6, 0, 2, 1, 0, 0, 999999, 0, 2, 0, 7, 1, 1]), (20, [6, 7], [50, 0, 0, 3, 6, 0, 2, 1, 0, 0, 9999999, 0, 2, 0, 8, 1, 1]), (20, [6, 7], [50, 0, 0, 3, 6, 0, 2, 1, 0, 0, 99999999, 0, 2, 0, 9, 1, 1]), (20, [6, 7], [50, 0, 0, 3, 6, 0, 2, 1, 0, 0, 999999999, 0, 2, 0, 10, 1, 1]), (20, [6, 7], [50, 0, 0, 3, 6, 0, 2, 1, 0, 0, 9999999999, 0, 2, 0, 11, 1, 1]), (20, [7], [50, 0, 0, 0, 2, 0, -1, 1, 0]), (24, [0, 3], [])] ta ws vs := hf
  obtain ⟨f0, hf⟩ := fc_un (show (7 : Nat) < 100 from by decide) hf
  have f0 : v_iv (n_v vs 6) ≤ v_iv (n_v vs 8) := f0
  obtain ⟨f1, hf⟩ := fc_un (show (20 : Nat) < 100 from by decide) hf
  have f1 : 1 * w_fi ws (n_v vs 3) 170 + (1 * v_iv (n_v vs 7) + ((-1) * v_iv (n_v vs 2) + 0)) ≤ 12 := f1
  obtain ⟨f2, hf⟩ := fc_un (show (23 : Nat) < 100 from by decide) hf
  have f2 : 1 * v_iv (n_v vs 6) + 0 ≤ 2147483648 := f2
  obtain ⟨f3, hf⟩ := fc_un (show (23 : Nat) < 100 from by decide) hf
  have f3 : (-1) * v_iv (n_v vs 6) + 0 ≤ 0 := f3
  obtain ⟨f4, hf⟩ := fc_un (show (20 : Nat) < 100 from by decide) hf
  have f4 : (v_iv (n_v vs 6) ≤ 0) ∨ (1 ≤ v_iv (n_v vs 7)) := f4
  obtain ⟨f5, hf⟩ := fc_un (show (20 : Nat) < 100 from by decide) hf
  have f5 : (v_iv (n_v vs 6) ≤ 9) ∨ (2 ≤ v_iv (n_v vs 7)) := f5
  obtain ⟨f6, hf⟩ := fc_un (show (20 : Nat) < 100 from by decide) hf
  have f6 : (v_iv (n_v vs 6) ≤ 99) ∨ (3 ≤ v_iv (n_v vs 7)) := f6
  obtain ⟨f7, hf⟩ := fc_un (show (20 : Nat) < 100 from by decide) hf
  have f7 : (v_iv (n_v vs 6) ≤ 999) ∨ (4 ≤ v_iv (n_v vs 7)) := f7
  obtain ⟨f8, hf⟩ := fc_un (show (20 : Nat) < 100 from by decide) hf
  have f8 : (v_iv (n_v vs 6) ≤ 9999) ∨ (5 ≤ v_iv (n_v vs 7)) := f8
  obtain ⟨f9, hf⟩ := fc_un (show (20 : Nat) < 100 from by decide) hf
  have f9 : (v_iv (n_v vs 6) ≤ 99999) ∨ (6 ≤ v_iv (n_v vs 7)) := f9
  obtain ⟨f10, hf⟩ := fc_un (show (20 : Nat) < 100 from by decide) hf
  have f10 : (v_iv (n_v vs 6) ≤ 999999) ∨ (7 ≤ v_iv (n_v vs 7)) := f10
  obtain ⟨f11, hf⟩ := fc_un (show (20 : Nat) < 100 from by decide) hf
  have f11 : (v_iv (n_v vs 6) ≤ 9999999) ∨ (8 ≤ v_iv (n_v vs 7)) := f11
  obtain ⟨f12, hf⟩ := fc_un (show (20 : Nat) < 100 from by decide) hf
  have f12 : (v_iv (n_v vs 6) ≤ 99999999) ∨ (9 ≤ v_iv (n_v vs 7)) := f12
  obtain ⟨f13, hf⟩ := fc_un (show (20 : Nat) < 100 from by decide) hf
  have f13 : (v_iv (n_v vs 6) ≤ 999999999) ∨ (10 ≤ v_iv (n_v vs 7)) := f13
  obtain ⟨f14, hf⟩ := fc_un (show (20 : Nat) < 100 from by decide) hf
  have f14 : (v_iv (n_v vs 6) ≤ 9999999999) ∨ (11 ≤ v_iv (n_v vs 7)) := f14
  obtain ⟨f15, hf⟩ := fc_un (show (20 : Nat) < 100 from by decide) hf
  have f15 : (-1) ≤ v_iv (n_v vs 7) := f15
  obtain ⟨f16, hf⟩ := fc_un (show (24 : Nat) < 100 from by decide) hf
  have f16 : n_v vs 0 = n_v vs 3 := f16
  have q3 : n_v vs 3 = n_v vs 0 := f16.symm
  rw [q3] at f1
  have kz_0_170 : 0 ≤ w_fi ws (n_v vs 0) 170 ∧ w_fi ws (n_v vs 0) 170 ≤ 100000000 := tv_rng (th_fd hD hth r0 (g := GG_150) rfl (k := 170) (t := (0, 0, 100000000, [])) rfl rfl)
  have nf0 : fc_1 (20, [0, 2], [30, 13, 1, 1, 170, -1, 0, 0]) ws (vs) := by
    refine ⟨fun n hn => ?_, ?_⟩
    · have hn : n ∈ [0, 2] := hn
      rw [hl]
      simp only [List.mem_cons, List.not_mem_nil, or_false] at hn
      show n < 9; omega
    · show 1 * w_fi ws (n_v vs 0) 170 + ((-1) * v_iv (n_v vs 2) + 0) ≤ 13
      omega
  refine ⟨(fun _ h => (by cases h)), [], trivial, ?_, (fun _ h => (by cases h))⟩
  rw [List.append_nil]
  exact List.forall_mem_cons.mpr ⟨⟨show (20 : Nat) < 100 from by decide, nf0⟩, (fun _ h => (by cases h))⟩
def o_Mo_writeNumber_8 : or_T := (69, 15, [(0, (2, 0, 0, [150])), (2, (0, 0, 99999987, [])), (3, (2, 0, 0, [150])), (5, (1, 0, 2147483648, [])), (6, (1, 1, 922337203685477580, [])), (7, (0, -1, 11, [])), (8, (1, 0, 0, [])), (10, (1, 0, 2147483648, []))], [(4, [10, 5, 6], []), (7, [6, 8], [4]), (20, [3, 7, 2], [30, 12, 1, 1, 170, 1, 0, 0, -1, 0, 0]), (23, [6], [2147483648, 1]), (23, [6], [0, -1]), (20, [6, 7], [50, 0, 0, 3, 6, 0, 2, 1, 0, 0, 0, 0, 2, 0, 1, 1, 1]), (20, [6, 7], [50, 0, 0, 3, 6, 0, 2, 1, 0, 0, 9, 0, 2, 0, 2, 1, 1]), (20, [6, 7], [50, 0, 0, 3, 6, 0, 2, 1, 0, 0, 99, 0, 2, 0, 3, 1, 1]), (20, [6, 7], [50, 0, 0, 3, 6, 0, 2, 1, 0, 0, 999, 0, 2, 0, 4, 1, 1]), (20, [6, 7], [50, 0, 0, 3, 6, 0, 2, 1, 0, 0, 9999, 0, 2, 0, 5, 1, 1]), (20, [6, 7], [50, 0, 0, 3, 6, 0, 2, 1, 0, 0, 99999, 0, 2, 0, 6, 1, 1]), (20, [6, 7], [50, 0, 0, 3, 6, 0, 2, 1, 0, 0, 999999, 0, 2, 0, 7, 1, 1]), (20, [6, 7], [50, 0, 0, 3, 6, 0, 2, 1, 0, 0, 9999999, 0, 2, 0, 8, 1, 1]), (20, [6, 7], [50, 0, 0, 3, 6, 0, 2, 1, 0, 0, 99999999, 0, 2, 0, 9, 1, 1]), (20, [6, 7], [50, 0, 0, 3, 6, 0, 2, 1, 0, 0, 999999999, 0, 2, 0, 10, 1, 1]), (20, [6, 7], [50, 0, 0, 3, 6, 0, 2, 1, 0, 0, 9999999999, 0, 2, 0, 11, 1, 1]), (20, [7], [50, 0, 0, 0, 2, 0, -1, 1, 0]), (24, [0, 3], [])], [], [(0, 0, 99999999, [])], [(20, [3, 15], [30, 0, 1, 1, 170, -1, 0, 0]), (23, [15, 7, 2], [12, 1, 1, -1])], [], [])
theorem oo_Mo_writeNumber_8 {kA : Nat → ClassId} : or_ok kA GG o_Mo_writeNumber_8 := by
  intro A ta ws vs hD hth hl hk hds hf
  have hl : vs.length = 15 := hl
  have hk : ∀ q ∈ ([(0, (2, 0, 0, [150])), (2, (0, 0, 99999987, [])), (3, (2, 0, 0, [150])), (5, (1, 0, 2147483648, [])), (6, (1, 1, 922337203685477580, [])), (7, (0, -1, 11, [])), (8, (1, 0, 0, [])), (10, (1, 0, 2147483648, []))] : List (Nat × tv_T)), tv_ok ta q.2 (n_v vs q.1) := hk
  obtain ⟨t0, hk⟩ := List.forall_mem_cons.mp hk
  have t0 : tv_ok ta (2, 0, 0, [150]) (n_v vs 0) := t0
  have r0 : ta (v_ad (n_v vs 0)) = some 150 := tv_rg t0
  obtain ⟨t2, hk⟩ := List.forall_mem_cons.mp hk
  have t2 : tv_ok ta (0, 0, 99999987, []) (n_v vs 2) := t2
  have k2 : 0 ≤ v_iv (n_v vs 2) ∧ v_iv (n_v vs 2) ≤ 99999987 := tv_rng t2
  obtain ⟨t3, hk⟩ := List.forall_mem_cons.mp hk
  have t3 : tv_ok ta (2, 0, 0, [150]) (n_v vs 3) := t3
  have r3 : ta (v_ad (n_v vs 3)) = some 150 := tv_rg t3
  obtain ⟨t5, hk⟩ := List.forall_mem_cons.mp hk
  have t5 : tv_ok ta (1, 0, 2147483648, []) (n_v vs 5) := t5
  have k5 : 0 ≤ v_iv (n_v vs 5) ∧ v_iv (n_v vs 5) ≤ 2147483648 := tv_rngL t5
  obtain ⟨t6, hk⟩ := List.forall_mem_cons.mp hk
  have t6 : tv_ok ta (1, 1, 922337203685477580, []) (n_v vs 6) := t6
  have k6 : 1 ≤ v_iv (n_v vs 6) ∧ v_iv (n_v vs 6) ≤ 922337203685477580 := tv_rngL t6
  obtain ⟨t7, hk⟩ := List.forall_mem_cons.mp hk
  have t7 : tv_ok ta (0, -1, 11, []) (n_v vs 7) := t7
  have k7 : (-1) ≤ v_iv (n_v vs 7) ∧ v_iv (n_v vs 7) ≤ 11 := tv_rng t7
  obtain ⟨t8, hk⟩ := List.forall_mem_cons.mp hk
  have t8 : tv_ok ta (1, 0, 0, []) (n_v vs 8) := t8
  have k8 : 0 ≤ v_iv (n_v vs 8) ∧ v_iv (n_v vs 8) ≤ 0 := tv_rngL t8
  obtain ⟨t10, hk⟩ := List.forall_mem_cons.mp hk
  have t10 : tv_ok ta (1, 0, 2147483648, []) (n_v vs 10) := t10
  have k10 : 0 ≤ v_iv (n_v vs 10) ∧ v_iv (n_v vs 10) ≤ 2147483648 := tv_rngL t10
  have hf : fc_ok [(4, [10, 5, 6], []), (7, [6, 8], [4]), (20, [3, 7, 2], [30, 12, 1, 1, 170, 1, 0, 0, -1, 0, 0]), (23, [6], [2147483648, 1]), (23, [6], [0, -1]), (20, [6, 7], [50, 0, 0, 3, 6, 0, 2, 1, 0, 0, 0, 0, 2, 0, 1, 1, 1]), (20, [6, 7], [50, 0, 0, 3, 6, 0, 2, 1, 0, 0, 9, 0, 2, 0, 2, 1, 1]), (20, [6, 7], [50, 0, 0, 3, 6, 0, 2, 1, 0, 0, 99, 0, 2, 0, 3, 1, 1]), (20, [6, 7], [50, 0, 0, 3, 6, 0, 2, 1, 0, 0, 999, 0, 2, 0, 4, 1, 1]), (20, [6, 7], [50, 0, 0, 3, 6, 0, 2, 1, 0, 0, 9999, 0, 2, 0, 5, 1, 1]), (20, [6, 7], [50, 0, 0, 3, 6, 0, 2, 1, 0, 0, 99999, 0, 2, 0, 6, 1, 1]), (20, [6, 7], [50, 0, 0, 3, 6, 0, 2, 1, 0, 0, 999999, 0, 2, 0, 7, 1, 1]), (20, [6, 7], [50, 0, 0, 3, 6, 0, 2, 1, 0, 0, 9999999, 0, 2, 0, 8, 1, 1]), (20, [6, 7], [50, 0, 0, 3, 6, 0, 2, 1, 0, 0, 99999999, 0, 2, 0, 9, 1, 1]), (20, [6, 7], [50, 0, 0, 3, 6, 0, 2, 1, 0, 0, 999999999, 0, 2, 0, 10, 1, 1]), (20, [6, 7], [50, 0, 0, 3, 6, 0, 2, 1, 0, 0, 9999999999, 0, 2, 0, 11, 1, 1]), (20, [7], [50, 0, 0, 0, 2, 0, -1, 1, 0]), (24, [0, 3], [])] ta ws vs := hf
  obtain ⟨f0, hf⟩ := fc_un (show (4 : Nat) < 100 from by decide) hf
  have f0 : v_iv (n_v vs 10) = Int.tdiv (v_iv (n_v vs 5)) (v_iv (n_v vs 6)) := f0
  have fq0 : 10 ≤ v_iv (n_v vs 10) → 10 * v_iv (n_v vs 6) ≤ v_iv (n_v vs 5) := dv_ten f0 (by omega) (by omega)
  obtain ⟨f1, hf⟩ := fc_un (show (7 : Nat) < 100 from by decide) hf
  have f1 : v_iv (n_v vs 8) < v_iv (n_v vs 6) := f1
  obtain ⟨f2, hf⟩ := fc_un (show (20 : Nat) < 100 from by decide) hf
  have f2 : 1 * w_fi ws (n_v vs 3) 170 + (1 * v_iv (n_v vs 7) + ((-1) * v_iv (n_v vs 2) + 0)) ≤ 12 := f2
  obtain ⟨f3, hf⟩ := fc_un (show (23 : Nat) < 100 from by decide) hf
  have f3 : 1 * v_iv (n_v vs 6) + 0 ≤ 2147483648 := f3
  obtain ⟨f4, hf⟩ := fc_un (show (23 : Nat) < 100 from by decide) hf
  have f4 : (-1) * v_iv (n_v vs 6) + 0 ≤ 0 := f4
  obtain ⟨f5, hf⟩ := fc_un (show (20 : Nat) < 100 from by decide) hf
  have f5 : (v_iv (n_v vs 6) ≤ 0) ∨ (1 ≤ v_iv (n_v vs 7)) := f5
  obtain ⟨f6, hf⟩ := fc_un (show (20 : Nat) < 100 from by decide) hf
  have f6 : (v_iv (n_v vs 6) ≤ 9) ∨ (2 ≤ v_iv (n_v vs 7)) := f6
  obtain ⟨f7, hf⟩ := fc_un (show (20 : Nat) < 100 from by decide) hf
  have f7 : (v_iv (n_v vs 6) ≤ 99) ∨ (3 ≤ v_iv (n_v vs 7)) := f7
  obtain ⟨f8, hf⟩ := fc_un (show (20 : Nat) < 100 from by decide) hf
  have f8 : (v_iv (n_v vs 6) ≤ 999) ∨ (4 ≤ v_iv (n_v vs 7)) := f8
  obtain ⟨f9, hf⟩ := fc_un (show (20 : Nat) < 100 from by decide) hf
  have f9 : (v_iv (n_v vs 6) ≤ 9999) ∨ (5 ≤ v_iv (n_v vs 7)) := f9
  obtain ⟨f10, hf⟩ := fc_un (show (20 : Nat) < 100 from by decide) hf
  have f10 : (v_iv (n_v vs 6) ≤ 99999) ∨ (6 ≤ v_iv (n_v vs 7)) := f10
  obtain ⟨f11, hf⟩ := fc_un (show (20 : Nat) < 100 from by decide) hf
  have f11 : (v_iv (n_v vs 6) ≤ 999999) ∨ (7 ≤ v_iv (n_v vs 7)) := f11
  obtain ⟨f12, hf⟩ := fc_un (show (20 : Nat) < 100 from by decide) hf
  have f12 : (v_iv (n_v vs 6) ≤ 9999999) ∨ (8 ≤ v_iv (n_v vs 7)) := f12
  obtain ⟨f13, hf⟩ := fc_un (show (20 : Nat) < 100 from by decide) hf
  have f13 : (v_iv (n_v vs 6) ≤ 99999999) ∨ (9 ≤ v_iv (n_v vs 7)) := f13
  obtain ⟨f14, hf⟩ := fc_un (show (20 : Nat) < 100 from by decide) hf
  have f14 : (v_iv (n_v vs 6) ≤ 999999999) ∨ (10 ≤ v_iv (n_v vs 7)) := f14
  obtain ⟨f15, hf⟩ := fc_un (show (20 : Nat) < 100 from by decide) hf
  have f15 : (v_iv (n_v vs 6) ≤ 9999999999) ∨ (11 ≤ v_iv (n_v vs 7)) := f15
  obtain ⟨f16, hf⟩ := fc_un (show (20 : Nat) < 100 from by decide) hf
  have f16 : (-1) ≤ v_iv (n_v vs 7) := f16
  obtain ⟨f17, hf⟩ := fc_un (show (24 : Nat) < 100 from by decide) hf
  have f17 : n_v vs 0 = n_v vs 3 := f17
  have q3 : n_v vs 3 = n_v vs 0 := f17.symm
  rw [q3] at f2
  have kz_0_170 : 0 ≤ w_fi ws (n_v vs 0) 170 ∧ w_fi ws (n_v vs 0) 170 ≤ 100000000 := tv_rng (th_fd hD hth r0 (g := GG_150) rfl (k := 170) (t := (0, 0, 100000000, [])) rfl rfl)
  have kv0 : 0 ≤ w_fi ws (n_v vs 0) 170 ∧ w_fi ws (n_v vs 0) 170 ≤ 100000000 := tv_rng (th_fd hD hth r0 (g := GG_150) rfl (k := 170) (t := (0, 0, 100000000, [])) rfl rfl)
  obtain ⟨x, ex, hx⟩ := iv_ex (ta := ta) (lo := 0) (hi := 99999999) (z := w_fi ws (n_v vs 0) 170) (by omega) (by omega) (by omega) (by omega)
  have ex2 : v_iv (Value.int x) = w_fi ws (n_v vs 0) 170 := ex
  have ex3 : 0 ≤ v_iv (Value.int x) ∧ v_iv (Value.int x) ≤ 99999999 := tv_rng hx
  have e_2 : n_v (vs ++ [Value.int x]) 2 = n_v vs 2 := n_v_old (by rw [hl]; decide)
  have e_3 : n_v (vs ++ [Value.int x]) 3 = n_v vs 3 := n_v_old (by rw [hl]; decide)
  have e_7 : n_v (vs ++ [Value.int x]) 7 = n_v vs 7 := n_v_old (by rw [hl]; decide)
  have e_15 : n_v (vs ++ [Value.int x]) 15 = Value.int x := n_v_new hl
  have nf0 : fc_1 (20, [3, 15], [30, 0, 1, 1, 170, -1, 0, 0]) ws (vs ++ [Value.int x]) := by
    refine ⟨fun n hn => ?_, ?_⟩
    · have hn : n ∈ [3, 15] := hn
      rw [List.length_append, hl]
      simp only [List.mem_cons, List.not_mem_nil, or_false] at hn
      show n < 15 + 1; omega
    · show 1 * w_fi ws (n_v (vs ++ [Value.int x]) 3) 170 + ((-1) * v_iv (n_v (vs ++ [Value.int x]) 15) + 0) ≤ 0
      rw [e_3]
      rw [e_15]
      rw [q3]
      omega
  have nf1 : fc_1 (23, [15, 7, 2], [12, 1, 1, -1]) ws (vs ++ [Value.int x]) := by
    refine ⟨fun n hn => ?_, ?_⟩
    · have hn : n ∈ [15, 7, 2] := hn
      rw [List.length_append, hl]
      simp only [List.mem_cons, List.not_mem_nil, or_false] at hn
      show n < 15 + 1; omega
    · show 1 * v_iv (n_v (vs ++ [Value.int x]) 15) + (1 * v_iv (n_v (vs ++ [Value.int x]) 7) + ((-1) * v_iv (n_v (vs ++ [Value.int x]) 2) + 0)) ≤ 12
      rw [e_2]
      rw [e_7]
      rw [e_15]
      omega
  exact ⟨(fun _ h => (by cases h)), [Value.int x], ag_one hx, List.forall_mem_cons.mpr ⟨⟨show (20 : Nat) < 100 from by decide, nf0⟩, List.forall_mem_cons.mpr ⟨⟨show (23 : Nat) < 100 from by decide, nf1⟩, (fun _ h => (by cases h))⟩⟩, (fun _ h => (by cases h))⟩
def o_Mo_writeNumber_9 : or_T := (80, 18, [(0, (2, 0, 0, [150])), (2, (0, 0, 99999987, [])), (3, (2, 0, 0, [150])), (6, (1, 1, 922337203685477580, [])), (7, (0, -1, 11, [])), (8, (1, 0, 0, [])), (15, (0, 0, 99999999, [])), (16, (1, 10, 10, [])), (17, (1, 0, 92233720368547758, []))], [(4, [17, 6, 16], []), (23, [15, 7, 2], [12, 1, 1, -1]), (23, [6], [2147483648, 1]), (23, [6], [0, -1]), (20, [6, 7], [50, 0, 0, 3, 6, 0, 2, 1, 0, 0, 0, 0, 2, 0, 1, 1, 1]), (20, [6, 7], [50, 0, 0, 3, 6, 0, 2, 1, 0, 0, 9, 0, 2, 0, 2, 1, 1]), (20, [6, 7], [50, 0, 0, 3, 6, 0, 2, 1, 0, 0, 99, 0, 2, 0, 3, 1, 1]), (20, [6, 7], [50, 0, 0, 3, 6, 0, 2, 1, 0, 0, 999, 0, 2, 0, 4, 1, 1]), (20, [6, 7], [50, 0, 0, 3, 6, 0, 2, 1, 0, 0, 9999, 0, 2, 0, 5, 1, 1]), (20, [6, 7], [50, 0, 0, 3, 6, 0, 2, 1, 0, 0, 99999, 0, 2, 0, 6, 1, 1]), (20, [6, 7], [50, 0, 0, 3, 6, 0, 2, 1, 0, 0, 999999, 0, 2, 0, 7, 1, 1]), (20, [6, 7], [50, 0, 0, 3, 6, 0, 2, 1, 0, 0, 9999999, 0, 2, 0, 8, 1, 1]), (20, [6, 7], [50, 0, 0, 3, 6, 0, 2, 1, 0, 0, 99999999, 0, 2, 0, 9, 1, 1]), (20, [6, 7], [50, 0, 0, 3, 6, 0, 2, 1, 0, 0, 999999999, 0, 2, 0, 10, 1, 1]), (20, [6, 7], [50, 0, 0, 3, 6, 0, 2, 1, 0, 0, 9999999999, 0, 2, 0, 11, 1, 1]), (20, [7], [50, 0, 0, 0, 2, 0, -1, 1, 0]), (24, [0, 3], []), (20, [3, 15], [30, 1, 1, 1, 170, -1, 0, 0]), (102, [15], [237142198758023568227473377297792835283496928595231875152809132048206089502588928, 13170]), (23, [15, 7, 2], [12, 1, 1, -1]), (7, [6, 8], [4]), (23, [6], [2147483648, 1]), (23, [6], [0, -1])], [], [(0, -1, 11, [])], [(20, [3, 18, 2], [30, 13, 1, 1, 170, 1, 0, 0, -1, 0, 0]), (23, [17], [2147483648, 1]), (23, [17], [0, -1]), (20, [17, 18], [50, 0, 0, 3, 6, 0, 2, 1, 0, 0, 0, 0, 2, 0, 2, 1, 1]), (20, [17, 18], [50, 0, 0, 3, 6, 0, 2, 1, 0, 0, 9, 0, 2, 0, 3, 1, 1]), (20, [17, 18], [50, 0, 0, 3, 6, 0, 2, 1, 0, 0, 99, 0, 2, 0, 4, 1, 1]), (20, [17, 18], [50, 0, 0, 3, 6, 0, 2, 1, 0, 0, 999, 0, 2, 0, 5, 1, 1]), (20, [17, 18], [50, 0, 0, 3, 6, 0, 2, 1, 0, 0, 9999, 0, 2, 0, 6, 1, 1]), (20, [17, 18], [50, 0, 0, 3, 6, 0, 2, 1, 0, 0, 99999, 0, 2, 0, 7, 1, 1]), (20, [17, 18], [50, 0, 0, 3, 6, 0, 2, 1, 0, 0, 999999, 0, 2, 0, 8, 1, 1]), (20, [17, 18], [50, 0, 0, 3, 6, 0, 2, 1, 0, 0, 9999999, 0, 2, 0, 9, 1, 1]), (20, [17, 18], [50, 0, 0, 3, 6, 0, 2, 1, 0, 0, 99999999, 0, 2, 0, 10, 1, 1]), (20, [17, 18], [50, 0, 0, 3, 6, 0, 2, 1, 0, 0, 999999999, 0, 2, 0, 11, 1, 1]), (20, [17, 18], [50, 0, 0, 3, 6, 0, 2, 1, 0, 0, 9999999999, 0, 2, 0, 12, 1, 1]), (20, [18], [50, 0, 0, 0, 2, 0, 0, 1, 0]), (24, [0, 3], [])], [(18, 7, 0, 0)], [])
theorem oo_Mo_writeNumber_9 {kA : Nat → ClassId} : or_ok kA GG o_Mo_writeNumber_9 := by
  intro A ta ws vs hD hth hl hk hds hf
  have hl : vs.length = 18 := hl
  have hk : ∀ q ∈ ([(0, (2, 0, 0, [150])), (2, (0, 0, 99999987, [])), (3, (2, 0, 0, [150])), (6, (1, 1, 922337203685477580, [])), (7, (0, -1, 11, [])), (8, (1, 0, 0, [])), (15, (0, 0, 99999999, [])), (16, (1, 10, 10, [])), (17, (1, 0, 92233720368547758, []))] : List (Nat × tv_T)), tv_ok ta q.2 (n_v vs q.1) := hk
  obtain ⟨t0, hk⟩ := List.forall_mem_cons.mp hk
  have t0 : tv_ok ta (2, 0, 0, [150]) (n_v vs 0) := t0
  have r0 : ta (v_ad (n_v vs 0)) = some 150 := tv_rg t0
  obtain ⟨t2, hk⟩ := List.forall_mem_cons.mp hk
  have t2 : tv_ok ta (0, 0, 99999987, []) (n_v vs 2) := t2
  have k2 : 0 ≤ v_iv (n_v vs 2) ∧ v_iv (n_v vs 2) ≤ 99999987 := tv_rng t2
  obtain ⟨t3, hk⟩ := List.forall_mem_cons.mp hk
  have t3 : tv_ok ta (2, 0, 0, [150]) (n_v vs 3) := t3
  have r3 : ta (v_ad (n_v vs 3)) = some 150 := tv_rg t3
  obtain ⟨t6, hk⟩ := List.forall_mem_cons.mp hk
  have t6 : tv_ok ta (1, 1, 922337203685477580, []) (n_v vs 6) := t6
  have k6 : 1 ≤ v_iv (n_v vs 6) ∧ v_iv (n_v vs 6) ≤ 922337203685477580 := tv_rngL t6
  obtain ⟨t7, hk⟩ := List.forall_mem_cons.mp hk
  have t7 : tv_ok ta (0, -1, 11, []) (n_v vs 7) := t7
  have k7 : (-1) ≤ v_iv (n_v vs 7) ∧ v_iv (n_v vs 7) ≤ 11 := tv_rng t7
  obtain ⟨t8, hk⟩ := List.forall_mem_cons.mp hk
  have t8 : tv_ok ta (1, 0, 0, []) (n_v vs 8) := t8
  have k8 : 0 ≤ v_iv (n_v vs 8) ∧ v_iv (n_v vs 8) ≤ 0 := tv_rngL t8
  obtain ⟨t15, hk⟩ := List.forall_mem_cons.mp hk
  have t15 : tv_ok ta (0, 0, 99999999, []) (n_v vs 15) := t15
  have k15 : 0 ≤ v_iv (n_v vs 15) ∧ v_iv (n_v vs 15) ≤ 99999999 := tv_rng t15
  obtain ⟨t16, hk⟩ := List.forall_mem_cons.mp hk
  have t16 : tv_ok ta (1, 10, 10, []) (n_v vs 16) := t16
  have k16 : 10 ≤ v_iv (n_v vs 16) ∧ v_iv (n_v vs 16) ≤ 10 := tv_rngL t16
  obtain ⟨t17, hk⟩ := List.forall_mem_cons.mp hk
  have t17 : tv_ok ta (1, 0, 92233720368547758, []) (n_v vs 17) := t17
  have k17 : 0 ≤ v_iv (n_v vs 17) ∧ v_iv (n_v vs 17) ≤ 92233720368547758 := tv_rngL t17
  have hf : fc_ok [(4, [17, 6, 16], []), (23, [15, 7, 2], [12, 1, 1, -1]), (23, [6], [2147483648, 1]), (23, [6], [0, -1]), (20, [6, 7], [50, 0, 0, 3, 6, 0, 2, 1, 0, 0, 0, 0, 2, 0, 1, 1, 1]), (20, [6, 7], [50, 0, 0, 3, 6, 0, 2, 1, 0, 0, 9, 0, 2, 0, 2, 1, 1]), (20, [6, 7], [50, 0, 0, 3, 6, 0, 2, 1, 0, 0, 99, 0, 2, 0, 3, 1, 1]), (20, [6, 7], [50, 0, 0, 3, 6, 0, 2, 1, 0, 0, 999, 0, 2, 0, 4, 1, 1]), (20, [6, 7], [50, 0, 0, 3, 6, 0, 2, 1, 0, 0, 9999, 0, 2, 0, 5, 1, 1]), (20, [6, 7], [50, 0, 0, 3, 6, 0, 2, 1, 0, 0, 99999, 0, 2, 0, 6, 1, 1]), (20, [6, 7], [50, 0, 0, 3, 6, 0, 2, 1, 0, 0, 999999, 0, 2, 0, 7, 1, 1]), (20, [6, 7], [50, 0, 0, 3, 6, 0, 2, 1, 0, 0, 9999999, 0, 2, 0, 8, 1, 1]), (20, [6, 7], [50, 0, 0, 3, 6, 0, 2, 1, 0, 0, 99999999, 0, 2, 0, 9, 1, 1]), (20, [6, 7], [50, 0, 0, 3, 6, 0, 2, 1, 0, 0, 999999999, 0, 2, 0, 10, 1, 1]), (20, [6, 7], [50, 0, 0, 3, 6, 0, 2, 1, 0, 0, 9999999999, 0, 2, 0, 11, 1, 1]), (20, [7], [50, 0, 0, 0, 2, 0, -1, 1, 0]), (24, [0, 3], []), (20, [3, 15], [30, 1, 1, 1, 170, -1, 0, 0]), (102, [15], [237142198758023568227473377297792835283496928595231875152809132048206089502588928, 13170]), (23, [15, 7, 2], [12, 1, 1, -1]), (7, [6, 8], [4]), (23, [6], [2147483648, 1]), (23, [6], [0, -1])] ta ws vs := hf
  obtain ⟨f0, hf⟩ := fc_un (show (4 : Nat) < 100 from by decide) hf
  have f0 : v_iv (n_v vs 17) = Int.tdiv (v_iv (n_v vs 6)) (v_iv (n_v vs 16)) := f0
  have fq0 : 10 * v_iv (n_v vs 17) ≤ v_iv (n_v vs 6) ∧ v_iv (n_v vs 6) < 10 * v_iv (n_v vs 17) + 10 := by have h := dv_c f0 (by omega) (by omega); rw [show v_iv (n_v vs 16) = 10 from by omega] at h; exact h
  obtain ⟨f1, hf⟩ := fc_un (show (23 : Nat) < 100 from by decide) hf
  have f1 : 1 * v_iv (n_v vs 15) + (1 * v_iv (n_v vs 7) + ((-1) * v_iv (n_v vs 2) + 0)) ≤ 12 := f1
  obtain ⟨f2, hf⟩ := fc_un (show (23 : Nat) < 100 from by decide) hf
  have f2 : 1 * v_iv (n_v vs 6) + 0 ≤ 2147483648 := f2
  obtain ⟨f3, hf⟩ := fc_un (show (23 : Nat) < 100 from by decide) hf
  have f3 : (-1) * v_iv (n_v vs 6) + 0 ≤ 0 := f3
  obtain ⟨f4, hf⟩ := fc_un (show (20 : Nat) < 100 from by decide) hf
  have f4 : (v_iv (n_v vs 6) ≤ 0) ∨ (1 ≤ v_iv (n_v vs 7)) := f4
  obtain ⟨f5, hf⟩ := fc_un (show (20 : Nat) < 100 from by decide) hf
  have f5 : (v_iv (n_v vs 6) ≤ 9) ∨ (2 ≤ v_iv (n_v vs 7)) := f5
  obtain ⟨f6, hf⟩ := fc_un (show (20 : Nat) < 100 from by decide) hf
  have f6 : (v_iv (n_v vs 6) ≤ 99) ∨ (3 ≤ v_iv (n_v vs 7)) := f6
  obtain ⟨f7, hf⟩ := fc_un (show (20 : Nat) < 100 from by decide) hf
  have f7 : (v_iv (n_v vs 6) ≤ 999) ∨ (4 ≤ v_iv (n_v vs 7)) := f7
  obtain ⟨f8, hf⟩ := fc_un (show (20 : Nat) < 100 from by decide) hf
  have f8 : (v_iv (n_v vs 6) ≤ 9999) ∨ (5 ≤ v_iv (n_v vs 7)) := f8
  obtain ⟨f9, hf⟩ := fc_un (show (20 : Nat) < 100 from by decide) hf
  have f9 : (v_iv (n_v vs 6) ≤ 99999) ∨ (6 ≤ v_iv (n_v vs 7)) := f9
  obtain ⟨f10, hf⟩ := fc_un (show (20 : Nat) < 100 from by decide) hf
  have f10 : (v_iv (n_v vs 6) ≤ 999999) ∨ (7 ≤ v_iv (n_v vs 7)) := f10
  obtain ⟨f11, hf⟩ := fc_un (show (20 : Nat) < 100 from by decide) hf
  have f11 : (v_iv (n_v vs 6) ≤ 9999999) ∨ (8 ≤ v_iv (n_v vs 7)) := f11
  obtain ⟨f12, hf⟩ := fc_un (show (20 : Nat) < 100 from by decide) hf
  have f12 : (v_iv (n_v vs 6) ≤ 99999999) ∨ (9 ≤ v_iv (n_v vs 7)) := f12
  obtain ⟨f13, hf⟩ := fc_un (show (20 : Nat) < 100 from by decide) hf
  have f13 : (v_iv (n_v vs 6) ≤ 999999999) ∨ (10 ≤ v_iv (n_v vs 7)) := f13
  obtain ⟨f14, hf⟩ := fc_un (show (20 : Nat) < 100 from by decide) hf
  have f14 : (v_iv (n_v vs 6) ≤ 9999999999) ∨ (11 ≤ v_iv (n_v vs 7)) := f14
  obtain ⟨f15, hf⟩ := fc_un (show (20 : Nat) < 100 from by decide) hf
  have f15 : (-1) ≤ v_iv (n_v vs 7) := f15
  obtain ⟨f16, hf⟩ := fc_un (show (24 : Nat) < 100 from by decide) hf
  have f16 : n_v vs 0 = n_v vs 3 := f16
  obtain ⟨f17, hf⟩ := fc_un (show (20 : Nat) < 100 from by decide) hf
  have f17 : 1 * w_fi ws (n_v vs 3) 170 + ((-1) * v_iv (n_v vs 15) + 0) ≤ 1 := f17
  obtain ⟨ta1, w1, le1, ⟨_, s1⟩, hf⟩ := fc_us (show ¬ (102 : Nat) < 100 from by decide) hf
  obtain ⟨f19, hf⟩ := fc_un (show (23 : Nat) < 100 from by decide) hf
  have f19 : 1 * v_iv (n_v vs 15) + (1 * v_iv (n_v vs 7) + ((-1) * v_iv (n_v vs 2) + 0)) ≤ 12 := f19
  obtain ⟨f20, hf⟩ := fc_un (show (7 : Nat) < 100 from by decide) hf
  have f20 : v_iv (n_v vs 8) < v_iv (n_v vs 6) := f20
  obtain ⟨f21, hf⟩ := fc_un (show (23 : Nat) < 100 from by decide) hf
  have f21 : 1 * v_iv (n_v vs 6) + 0 ≤ 2147483648 := f21
  obtain ⟨f22, hf⟩ := fc_un (show (23 : Nat) < 100 from by decide) hf
  have f22 : (-1) * v_iv (n_v vs 6) + 0 ≤ 0 := f22
  have q3 : n_v vs 3 = n_v vs 0 := f16.symm
  rw [q3] at f17
  have kz_0_170 : 0 ≤ w_fi ws (n_v vs 0) 170 ∧ w_fi ws (n_v vs 0) 170 ≤ 100000000 := tv_rng (th_fd hD hth r0 (g := GG_150) rfl (k := 170) (t := (0, 0, 100000000, [])) rfl rfl)
  obtain ⟨x, ex, hx⟩ := iv_ex (ta := ta) (lo := (-1)) (hi := 11) (z := 0 + (1 * v_iv (n_v vs 7) + 0)) (by omega) (by omega) (by omega) (by omega)
  have ex2 : v_iv (Value.int x) = 0 + (1 * v_iv (n_v vs 7) + 0) := ex
  have ex3 : (-1) ≤ v_iv (Value.int x) ∧ v_iv (Value.int x) ≤ 11 := tv_rng hx
  have e_0 : n_v (vs ++ [Value.int x]) 0 = n_v vs 0 := n_v_old (by rw [hl]; decide)
  have e_2 : n_v (vs ++ [Value.int x]) 2 = n_v vs 2 := n_v_old (by rw [hl]; decide)
  have e_3 : n_v (vs ++ [Value.int x]) 3 = n_v vs 3 := n_v_old (by rw [hl]; decide)
  have e_17 : n_v (vs ++ [Value.int x]) 17 = n_v vs 17 := n_v_old (by rw [hl]; decide)
  have e_18 : n_v (vs ++ [Value.int x]) 18 = Value.int x := n_v_new hl
  have nf0 : fc_1 (20, [3, 18, 2], [30, 13, 1, 1, 170, 1, 0, 0, -1, 0, 0]) ws (vs ++ [Value.int x]) := by
    refine ⟨fun n hn => ?_, ?_⟩
    · have hn : n ∈ [3, 18, 2] := hn
      rw [List.length_append, hl]
      simp only [List.mem_cons, List.not_mem_nil, or_false] at hn
      show n < 18 + 1; omega
    · show 1 * w_fi ws (n_v (vs ++ [Value.int x]) 3) 170 + (1 * v_iv (n_v (vs ++ [Value.int x]) 18) + ((-1) * v_iv (n_v (vs ++ [Value.int x]) 2) + 0)) ≤ 13
      rw [e_2]
      rw [e_3]
      rw [e_18]
      rw [q3]
      omega
  have nf1 : fc_1 (23, [17], [2147483648, 1]) ws (vs ++ [Value.int x]) := by
    refine ⟨fun n hn => ?_, ?_⟩
    · have hn : n ∈ [17] := hn
      rw [List.length_append, hl]
      simp only [List.mem_cons, List.not_mem_nil, or_false] at hn
      show n < 18 + 1; omega
    · show 1 * v_iv (n_v (vs ++ [Value.int x]) 17) + 0 ≤ 2147483648
      rw [e_17]
      omega
  have nf2 : fc_1 (23, [17], [0, -1]) ws (vs ++ [Value.int x]) := by
    refine ⟨fun n hn => ?_, ?_⟩
    · have hn : n ∈ [17] := hn
      rw [List.length_append, hl]
      simp only [List.mem_cons, List.not_mem_nil, or_false] at hn
      show n < 18 + 1; omega
    · show (-1) * v_iv (n_v (vs ++ [Value.int x]) 17) + 0 ≤ 0
      rw [e_17]
      omega
  have nf3 : fc_1 (20, [17, 18], [50, 0, 0, 3, 6, 0, 2, 1, 0, 0, 0, 0, 2, 0, 2, 1, 1]) ws (vs ++ [Value.int x]) := by
    refine ⟨fun n hn => ?_, ?_⟩
    · have hn : n ∈ [17, 18] := hn
      rw [List.length_append, hl]
      simp only [List.mem_cons, List.not_mem_nil, or_false] at hn
      show n < 18 + 1; omega
    · show (v_iv (n_v (vs ++ [Value.int x]) 17) ≤ 0) ∨ (2 ≤ v_iv (n_v (vs ++ [Value.int x]) 18))
      rw [e_17]
      rw [e_18]
      clear f6 f7 f8 f9 f10 f11 f12 f13 f14
      first | omega | grind
  have nf4 : fc_1 (20, [17, 18], [50, 0, 0, 3, 6, 0, 2, 1, 0, 0, 9, 0, 2, 0, 3, 1, 1]) ws (vs ++ [Value.int x]) := by
    refine ⟨fun n hn => ?_, ?_⟩
    · have hn : n ∈ [17, 18] := hn
      rw [List.length_append, hl]
      simp only [List.mem_cons, List.not_mem_nil, or_false] at hn
      show n < 18 + 1; omega
    · show (v_iv (n_v (vs ++ [Value.int x]) 17) ≤ 9) ∨ (3 ≤ v_iv (n_v (vs ++ [Value.int x]) 18))
      rw [e_17]
      rw [e_18]
      clear f4 f7 f8 f9 f10 f11 f12 f13 f14
      first | omega | grind
  have nf5 : fc_1 (20, [17, 18], [50, 0, 0, 3, 6, 0, 2, 1, 0, 0, 99, 0, 2, 0, 4, 1, 1]) ws (vs ++ [Value.int x]) := by
    refine ⟨fun n hn => ?_, ?_⟩
    · have hn : n ∈ [17, 18] := hn
      rw [List.length_append, hl]
      simp only [List.mem_cons, List.not_mem_nil, or_false] at hn
      show n < 18 + 1; omega
    · show (v_iv (n_v (vs ++ [Value.int x]) 17) ≤ 99) ∨ (4 ≤ v_iv (n_v (vs ++ [Value.int x]) 18))
      rw [e_17]
      rw [e_18]
      clear f4 f5 f8 f9 f10 f11 f12 f13 f14
      first | omega | grind
  have nf6 : fc_1 (20, [17, 18], [50, 0, 0, 3, 6, 0, 2, 1, 0, 0, 999, 0, 2, 0, 5, 1, 1]) ws (vs ++ [Value.int x]) := by
    refine ⟨fun n hn => ?_, ?_⟩
    · have hn : n ∈ [17, 18] := hn
      rw [List.length_append, hl]
      simp only [List.mem_cons, List.not_mem_nil, or_false] at hn
      show n < 18 + 1; omega
    · show (v_iv (n_v (vs ++ [Value.int x]) 17) ≤ 999) ∨ (5 ≤ v_iv (n_v (vs ++ [Value.int x]) 18))
      rw [e_17]
      rw [e_18]
      clear f4 f5 f6 f9 f10 f11 f12 f13 f14
      first | omega | grind
  have nf7 : fc_1 (20, [17, 18], [50, 0, 0, 3, 6, 0, 2, 1, 0, 0, 9999, 0, 2, 0, 6, 1, 1]) ws (vs ++ [Value.int x]) := by
    refine ⟨fun n hn => ?_, ?_⟩
    · have hn : n ∈ [17, 18] := hn
      rw [List.length_append, hl]
      simp only [List.mem_cons, List.not_mem_nil, or_false] at hn
      show n < 18 + 1; omega
    · show (v_iv (n_v (vs ++ [Value.int x]) 17) ≤ 9999) ∨ (6 ≤ v_iv (n_v (vs ++ [Value.int x]) 18))
      rw [e_17]
      rw [e_18]
      clear f4 f5 f6 f7 f10 f11 f12 f13 f14
      first | omega | grind
  have nf8 : fc_1 (20, [17, 18], [50, 0, 0, 3, 6, 0, 2, 1, 0, 0, 99999, 0, 2, 0, 7, 1, 1]) ws (vs ++ [Value.int x]) := by
    refine ⟨fun n hn => ?_, ?_⟩
    · have hn : n ∈ [17, 18] := hn
      rw [List.length_append, hl]
      simp only [List.mem_cons, List.not_mem_nil, or_false] at hn
      show n < 18 + 1; omega
    · show (v_iv (n_v (vs ++ [Value.int x]) 17) ≤ 99999) ∨ (7 ≤ v_iv (n_v (vs ++ [Value.int x]) 18))
      rw [e_17]
      rw [e_18]
      clear f4 f5 f6 f7 f8 f11 f12 f13 f14
      first | omega | grind
  have nf9 : fc_1 (20, [17, 18], [50, 0, 0, 3, 6, 0, 2, 1, 0, 0, 999999, 0, 2, 0, 8, 1, 1]) ws (vs ++ [Value.int x]) := by
    refine ⟨fun n hn => ?_, ?_⟩
    · have hn : n ∈ [17, 18] := hn
      rw [List.length_append, hl]
      simp only [List.mem_cons, List.not_mem_nil, or_false] at hn
      show n < 18 + 1; omega
    · show (v_iv (n_v (vs ++ [Value.int x]) 17) ≤ 999999) ∨ (8 ≤ v_iv (n_v (vs ++ [Value.int x]) 18))
      rw [e_17]
      rw [e_18]
      clear f4 f5 f6 f7 f8 f9 f12 f13 f14
      first | omega | grind
  have nf10 : fc_1 (20, [17, 18], [50, 0, 0, 3, 6, 0, 2, 1, 0, 0, 9999999, 0, 2, 0, 9, 1, 1]) ws (vs ++ [Value.int x]) := by
    refine ⟨fun n hn => ?_, ?_⟩
    · have hn : n ∈ [17, 18] := hn
      rw [List.length_append, hl]
      simp only [List.mem_cons, List.not_mem_nil, or_false] at hn
      show n < 18 + 1; omega
    · show (v_iv (n_v (vs ++ [Value.int x]) 17) ≤ 9999999) ∨ (9 ≤ v_iv (n_v (vs ++ [Value.int x]) 18))
      rw [e_17]
      rw [e_18]
      clear f4 f5 f6 f7 f8 f9 f10 f13 f14
      first | omega | grind
  have nf11 : fc_1 (20, [17, 18], [50, 0, 0, 3, 6, 0, 2, 1, 0, 0, 99999999, 0, 2, 0, 10, 1, 1]) ws (vs ++ [Value.int x]) := by
    refine ⟨fun n hn => ?_, ?_⟩
    · have hn : n ∈ [17, 18] := hn
      rw [List.length_append, hl]
      simp only [List.mem_cons, List.not_mem_nil, or_false] at hn
      show n < 18 + 1; omega
    · show (v_iv (n_v (vs ++ [Value.int x]) 17) ≤ 99999999) ∨ (10 ≤ v_iv (n_v (vs ++ [Value.int x]) 18))
      rw [e_17]
      rw [e_18]
      clear f4 f5 f6 f7 f8 f9 f10 f11 f14
      first | omega | grind
  have nf12 : fc_1 (20, [17, 18], [50, 0, 0, 3, 6, 0, 2, 1, 0, 0, 999999999, 0, 2, 0, 11, 1, 1]) ws (vs ++ [Value.int x]) := by
    refine ⟨fun n hn => ?_, ?_⟩
    · have hn : n ∈ [17, 18] := hn
      rw [List.length_append, hl]
      simp only [List.mem_cons, List.not_mem_nil, or_false] at hn
      show n < 18 + 1; omega
    · show (v_iv (n_v (vs ++ [Value.int x]) 17) ≤ 999999999) ∨ (11 ≤ v_iv (n_v (vs ++ [Value.int x]) 18))
      rw [e_17]
      rw [e_18]
      clear f4 f5 f6 f7 f8 f9 f10 f11 f12
      first | omega | grind
  have nf13 : fc_1 (20, [17, 18], [50, 0, 0, 3, 6, 0, 2, 1, 0, 0, 9999999999, 0, 2, 0, 12, 1, 1]) ws (vs ++ [Value.int x]) := by
    refine ⟨fun n hn => ?_, ?_⟩
    · have hn : n ∈ [17, 18] := hn
      rw [List.length_append, hl]
      simp only [List.mem_cons, List.not_mem_nil, or_false] at hn
      show n < 18 + 1; omega
    · show (v_iv (n_v (vs ++ [Value.int x]) 17) ≤ 9999999999) ∨ (12 ≤ v_iv (n_v (vs ++ [Value.int x]) 18))
      rw [e_17]
      rw [e_18]
      clear f4 f5 f6 f7 f8 f9 f10 f11 f12 f13
      first | omega | grind
  have nf14 : fc_1 (20, [18], [50, 0, 0, 0, 2, 0, 0, 1, 0]) ws (vs ++ [Value.int x]) := by
    refine ⟨fun n hn => ?_, ?_⟩
    · have hn : n ∈ [18] := hn
      rw [List.length_append, hl]
      simp only [List.mem_cons, List.not_mem_nil, or_false] at hn
      show n < 18 + 1; omega
    · show 0 ≤ v_iv (n_v (vs ++ [Value.int x]) 18)
      rw [e_18]
      first | omega | grind
  have nf15 : fc_1 (24, [0, 3], []) ws (vs ++ [Value.int x]) := by
    refine ⟨fun n hn => ?_, ?_⟩
    · have hn : n ∈ [0, 3] := hn
      rw [List.length_append, hl]
      simp only [List.mem_cons, List.not_mem_nil, or_false] at hn
      show n < 18 + 1; omega
    · show n_v (vs ++ [Value.int x]) 0 = n_v (vs ++ [Value.int x]) 3
      first | rfl | simp only [e_0, e_3, q3]
  obtain ⟨x0, e0, _, _⟩ := tv_int t7 rfl
  have e1 : v_iv (n_v vs 7) = x0.toInt := by rw [e0]; rfl
  have ho : sy_ofs (vs ++ [Value.int x]) (18, 7, 0, 0) := by
    refine ⟨x, x0, by rw [List.getElem?_append_right (by rw [hl]; decide), hl]; rfl, ?_, ?_, ?_⟩
    · rw [List.getElem?_append_left (by rw [hl]; decide)]; exact n_v_some (by rw [hl]; decide) e0
    · show x0.toInt + 0 ≤ x.toInt; omega
    · show x.toInt ≤ x0.toInt + 0; omega
  exact ⟨(fun _ h => (by cases h)), [Value.int x], ag_one hx, List.forall_mem_cons.mpr ⟨⟨show (20 : Nat) < 100 from by decide, nf0⟩, List.forall_mem_cons.mpr ⟨⟨show (23 : Nat) < 100 from by decide, nf1⟩, List.forall_mem_cons.mpr ⟨⟨show (23 : Nat) < 100 from by decide, nf2⟩, List.forall_mem_cons.mpr ⟨⟨show (20 : Nat) < 100 from by decide, nf3⟩, List.forall_mem_cons.mpr ⟨⟨show (20 : Nat) < 100 from by decide, nf4⟩, List.forall_mem_cons.mpr ⟨⟨show (20 : Nat) < 100 from by decide, nf5⟩, List.forall_mem_cons.mpr ⟨⟨show (20 : Nat) < 100 from by decide, nf6⟩, List.forall_mem_cons.mpr ⟨⟨show (20 : Nat) < 100 from by decide, nf7⟩, List.forall_mem_cons.mpr ⟨⟨show (20 : Nat) < 100 from by decide, nf8⟩, List.forall_mem_cons.mpr ⟨⟨show (20 : Nat) < 100 from by decide, nf9⟩, List.forall_mem_cons.mpr ⟨⟨show (20 : Nat) < 100 from by decide, nf10⟩, List.forall_mem_cons.mpr ⟨⟨show (20 : Nat) < 100 from by decide, nf11⟩, List.forall_mem_cons.mpr ⟨⟨show (20 : Nat) < 100 from by decide, nf12⟩, List.forall_mem_cons.mpr ⟨⟨show (20 : Nat) < 100 from by decide, nf13⟩, List.forall_mem_cons.mpr ⟨⟨show (20 : Nat) < 100 from by decide, nf14⟩, List.forall_mem_cons.mpr ⟨⟨show (24 : Nat) < 100 from by decide, nf15⟩, (fun _ h => (by cases h))⟩⟩⟩⟩⟩⟩⟩⟩⟩⟩⟩⟩⟩⟩⟩⟩, List.forall_mem_cons.mpr ⟨ho, (fun _ h => (by cases h))⟩⟩
def o_Mo_writeNumber_10 : or_T := (48, 8, [(0, (2, 0, 0, [150])), (2, (0, 0, 99999987, [])), (3, (2, 0, 0, [150])), (6, (1, 0, 92233720368547758, [])), (7, (0, -1, 11, []))], [(20, [3, 7, 2], [30, 13, 1, 1, 170, 1, 0, 0, -1, 0, 0]), (23, [6], [2147483648, 1]), (23, [6], [0, -1]), (20, [6, 7], [50, 0, 0, 3, 6, 0, 2, 1, 0, 0, 0, 0, 2, 0, 2, 1, 1]), (20, [6, 7], [50, 0, 0, 3, 6, 0, 2, 1, 0, 0, 9, 0, 2, 0, 3, 1, 1]), (20, [6, 7], [50, 0, 0, 3, 6, 0, 2, 1, 0, 0, 99, 0, 2, 0, 4, 1, 1]), (20, [6, 7], [50, 0, 0, 3, 6, 0, 2, 1, 0, 0, 999, 0, 2, 0, 5, 1, 1]), (20, [6, 7], [50, 0, 0, 3, 6, 0, 2, 1, 0, 0, 9999, 0, 2, 0, 6, 1, 1]), (20, [6, 7], [50, 0, 0, 3, 6, 0, 2, 1, 0, 0, 99999, 0, 2, 0, 7, 1, 1]), (20, [6, 7], [50, 0, 0, 3, 6, 0, 2, 1, 0, 0, 999999, 0, 2, 0, 8, 1, 1]), (20, [6, 7], [50, 0, 0, 3, 6, 0, 2, 1, 0, 0, 9999999, 0, 2, 0, 9, 1, 1]), (20, [6, 7], [50, 0, 0, 3, 6, 0, 2, 1, 0, 0, 99999999, 0, 2, 0, 10, 1, 1]), (20, [6, 7], [50, 0, 0, 3, 6, 0, 2, 1, 0, 0, 999999999, 0, 2, 0, 11, 1, 1]), (20, [6, 7], [50, 0, 0, 3, 6, 0, 2, 1, 0, 0, 9999999999, 0, 2, 0, 12, 1, 1]), (20, [7], [50, 0, 0, 0, 2, 0, 0, 1, 0]), (24, [0, 3], [])], [], [(0, -1, 11, [])], [(20, [3, 8, 2], [30, 12, 1, 1, 170, 1, 0, 0, -1, 0, 0]), (23, [6], [2147483648, 1]), (23, [6], [0, -1]), (20, [6, 8], [50, 0, 0, 3, 6, 0, 2, 1, 0, 0, 0, 0, 2, 0, 1, 1, 1]), (20, [6, 8], [50, 0, 0, 3, 6, 0, 2, 1, 0, 0, 9, 0, 2, 0, 2, 1, 1]), (20, [6, 8], [50, 0, 0, 3, 6, 0, 2, 1, 0, 0, 99, 0, 2, 0, 3, 1, 1]), (20, [6, 8], [50, 0, 0, 3, 6, 0, 2, 1, 0, 0, 999, 0, 2, 0, 4, 1, 1]), (20, [6, 8], [50, 0, 0, 3, 6, 0, 2, 1, 0, 0, 9999, 0, 2, 0, 5, 1, 1]), (20, [6, 8], [50, 0, 0, 3, 6, 0, 2, 1, 0, 0, 99999, 0, 2, 0, 6, 1, 1]), (20, [6, 8], [50, 0, 0, 3, 6, 0, 2, 1, 0, 0, 999999, 0, 2, 0, 7, 1, 1]), (20, [6, 8], [50, 0, 0, 3, 6, 0, 2, 1, 0, 0, 9999999, 0, 2, 0, 8, 1, 1]), (20, [6, 8], [50, 0, 0, 3, 6, 0, 2, 1, 0, 0, 99999999, 0, 2, 0, 9, 1, 1]), (20, [6, 8], [50, 0, 0, 3, 6, 0, 2, 1, 0, 0, 999999999, 0, 2, 0, 10, 1, 1]), (20, [6, 8], [50, 0, 0, 3, 6, 0, 2, 1, 0, 0, 9999999999, 0, 2, 0, 11, 1, 1]), (20, [8], [50, 0, 0, 0, 2, 0, -1, 1, 0]), (24, [0, 3], [])], [(8, 7, -1000000000000, -1)], [])
theorem oo_Mo_writeNumber_10 {kA : Nat → ClassId} : or_ok kA GG o_Mo_writeNumber_10 := by
  intro A ta ws vs hD hth hl hk hds hf
  have hl : vs.length = 8 := hl
  have hk : ∀ q ∈ ([(0, (2, 0, 0, [150])), (2, (0, 0, 99999987, [])), (3, (2, 0, 0, [150])), (6, (1, 0, 92233720368547758, [])), (7, (0, -1, 11, []))] : List (Nat × tv_T)), tv_ok ta q.2 (n_v vs q.1) := hk
  obtain ⟨t0, hk⟩ := List.forall_mem_cons.mp hk
  have t0 : tv_ok ta (2, 0, 0, [150]) (n_v vs 0) := t0
  have r0 : ta (v_ad (n_v vs 0)) = some 150 := tv_rg t0
  obtain ⟨t2, hk⟩ := List.forall_mem_cons.mp hk
  have t2 : tv_ok ta (0, 0, 99999987, []) (n_v vs 2) := t2
  have k2 : 0 ≤ v_iv (n_v vs 2) ∧ v_iv (n_v vs 2) ≤ 99999987 := tv_rng t2
  obtain ⟨t3, hk⟩ := List.forall_mem_cons.mp hk
  have t3 : tv_ok ta (2, 0, 0, [150]) (n_v vs 3) := t3
  have r3 : ta (v_ad (n_v vs 3)) = some 150 := tv_rg t3
  obtain ⟨t6, hk⟩ := List.forall_mem_cons.mp hk
  have t6 : tv_ok ta (1, 0, 92233720368547758, []) (n_v vs 6) := t6
  have k6 : 0 ≤ v_iv (n_v vs 6) ∧ v_iv (n_v vs 6) ≤ 92233720368547758 := tv_rngL t6
  obtain ⟨t7, hk⟩ := List.forall_mem_cons.mp hk
  have t7 : tv_ok ta (0, -1, 11, []) (n_v vs 7) := t7
  have k7 : (-1) ≤ v_iv (n_v vs 7) ∧ v_iv (n_v vs 7) ≤ 11 := tv_rng t7
  have hf : fc_ok [(20, [3, 7, 2], [30, 13, 1, 1, 170, 1, 0, 0, -1, 0, 0]), (23, [6], [2147483648, 1]), (23, [6], [0, -1]), (20, [6, 7], [50, 0, 0, 3, 6, 0, 2, 1, 0, 0, 0, 0, 2, 0, 2, 1, 1]), (20, [6, 7], [50, 0, 0, 3, 6, 0, 2, 1, 0, 0, 9, 0, 2, 0, 3, 1, 1]), (20, [6, 7], [50, 0, 0, 3, 6, 0, 2, 1, 0, 0, 99, 0, 2, 0, 4, 1, 1]), (20, [6, 7], [50, 0, 0, 3, 6, 0, 2, 1, 0, 0, 999, 0, 2, 0, 5, 1, 1]), (20, [6, 7], [50, 0, 0, 3, 6, 0, 2, 1, 0, 0, 9999, 0, 2, 0, 6, 1, 1]), (20, [6, 7], [50, 0, 0, 3, 6, 0, 2, 1, 0, 0, 99999, 0, 2, 0, 7, 1, 1]), (20, [6, 7], [50, 0, 0, 3, 6, 0, 2, 1, 0, 0, 999999, 0, 2, 0, 8, 1, 1]), (20, [6, 7], [50, 0, 0, 3, 6, 0, 2, 1, 0, 0, 9999999, 0, 2, 0, 9, 1, 1]), (20, [6, 7], [50, 0, 0, 3, 6, 0, 2, 1, 0, 0, 99999999, 0, 2, 0, 10, 1, 1]), (20, [6, 7], [50, 0, 0, 3, 6, 0, 2, 1, 0, 0, 999999999, 0, 2, 0, 11, 1, 1]), (20, [6, 7], [50, 0, 0, 3, 6, 0, 2, 1, 0, 0, 9999999999, 0, 2, 0, 12, 1, 1]), (20, [7], [50, 0, 0, 0, 2, 0, 0, 1, 0]), (24, [0, 3], [])] ta ws vs := hf
  obtain ⟨f0, hf⟩ := fc_un (show (20 : Nat) < 100 from by decide) hf
  have f0 : 1 * w_fi ws (n_v vs 3) 170 + (1 * v_iv (n_v vs 7) + ((-1) * v_iv (n_v vs 2) + 0)) ≤ 13 := f0
  obtain ⟨f1, hf⟩ := fc_un (show (23 : Nat) < 100 from by decide) hf
  have f1 : 1 * v_iv (n_v vs 6) + 0 ≤ 2147483648 := f1
  obtain ⟨f2, hf⟩ := fc_un (show (23 : Nat) < 100 from by decide) hf
  have f2 : (-1) * v_iv (n_v vs 6) + 0 ≤ 0 := f2
  obtain ⟨f3, hf⟩ := fc_un (show (20 : Nat) < 100 from by decide) hf
  have f3 : (v_iv (n_v vs 6) ≤ 0) ∨ (2 ≤ v_iv (n_v vs 7)) := f3
  obtain ⟨f4, hf⟩ := fc_un (show (20 : Nat) < 100 from by decide) hf
  have f4 : (v_iv (n_v vs 6) ≤ 9) ∨ (3 ≤ v_iv (n_v vs 7)) := f4
  obtain ⟨f5, hf⟩ := fc_un (show (20 : Nat) < 100 from by decide) hf
  have f5 : (v_iv (n_v vs 6) ≤ 99) ∨ (4 ≤ v_iv (n_v vs 7)) := f5
  obtain ⟨f6, hf⟩ := fc_un (show (20 : Nat) < 100 from by decide) hf
  have f6 : (v_iv (n_v vs 6) ≤ 999) ∨ (5 ≤ v_iv (n_v vs 7)) := f6
  obtain ⟨f7, hf⟩ := fc_un (show (20 : Nat) < 100 from by decide) hf
  have f7 : (v_iv (n_v vs 6) ≤ 9999) ∨ (6 ≤ v_iv (n_v vs 7)) := f7
  obtain ⟨f8, hf⟩ := fc_un (show (20 : Nat) < 100 from by decide) hf
  have f8 : (v_iv (n_v vs 6) ≤ 99999) ∨ (7 ≤ v_iv (n_v vs 7)) := f8
  obtain ⟨f9, hf⟩ := fc_un (show (20 : Nat) < 100 from by decide) hf
  have f9 : (v_iv (n_v vs 6) ≤ 999999) ∨ (8 ≤ v_iv (n_v vs 7)) := f9
  obtain ⟨f10, hf⟩ := fc_un (show (20 : Nat) < 100 from by decide) hf
  have f10 : (v_iv (n_v vs 6) ≤ 9999999) ∨ (9 ≤ v_iv (n_v vs 7)) := f10
  obtain ⟨f11, hf⟩ := fc_un (show (20 : Nat) < 100 from by decide) hf
  have f11 : (v_iv (n_v vs 6) ≤ 99999999) ∨ (10 ≤ v_iv (n_v vs 7)) := f11
  obtain ⟨f12, hf⟩ := fc_un (show (20 : Nat) < 100 from by decide) hf
  have f12 : (v_iv (n_v vs 6) ≤ 999999999) ∨ (11 ≤ v_iv (n_v vs 7)) := f12
  obtain ⟨f13, hf⟩ := fc_un (show (20 : Nat) < 100 from by decide) hf
  have f13 : (v_iv (n_v vs 6) ≤ 9999999999) ∨ (12 ≤ v_iv (n_v vs 7)) := f13
  obtain ⟨f14, hf⟩ := fc_un (show (20 : Nat) < 100 from by decide) hf
  have f14 : 0 ≤ v_iv (n_v vs 7) := f14
  obtain ⟨f15, hf⟩ := fc_un (show (24 : Nat) < 100 from by decide) hf
  have f15 : n_v vs 0 = n_v vs 3 := f15
  have q3 : n_v vs 3 = n_v vs 0 := f15.symm
  rw [q3] at f0
  have kz_0_170 : 0 ≤ w_fi ws (n_v vs 0) 170 ∧ w_fi ws (n_v vs 0) 170 ≤ 100000000 := tv_rng (th_fd hD hth r0 (g := GG_150) rfl (k := 170) (t := (0, 0, 100000000, [])) rfl rfl)
  obtain ⟨x, ex, hx⟩ := iv_ex (ta := ta) (lo := (-1)) (hi := 11) (z := (-1) + (1 * v_iv (n_v vs 7) + 0)) (by omega) (by omega) (by omega) (by omega)
  have ex2 : v_iv (Value.int x) = (-1) + (1 * v_iv (n_v vs 7) + 0) := ex
  have ex3 : (-1) ≤ v_iv (Value.int x) ∧ v_iv (Value.int x) ≤ 11 := tv_rng hx
  have e_0 : n_v (vs ++ [Value.int x]) 0 = n_v vs 0 := n_v_old (by rw [hl]; decide)
  have e_2 : n_v (vs ++ [Value.int x]) 2 = n_v vs 2 := n_v_old (by rw [hl]; decide)
  have e_3 : n_v (vs ++ [Value.int x]) 3 = n_v vs 3 := n_v_old (by rw [hl]; decide)
  have e_6 : n_v (vs ++ [Value.int x]) 6 = n_v vs 6 := n_v_old (by rw [hl]; decide)
  have e_8 : n_v (vs ++ [Value.int x]) 8 = Value.int x := n_v_new hl
  have nf0 : fc_1 (20, [3, 8, 2], [30, 12, 1, 1, 170, 1, 0, 0, -1, 0, 0]) ws (vs ++ [Value.int x]) := by
    refine ⟨fun n hn => ?_, ?_⟩
    · have hn : n ∈ [3, 8, 2] := hn
      rw [List.length_append, hl]
      simp only [List.mem_cons, List.not_mem_nil, or_false] at hn
      show n < 8 + 1; omega
    · show 1 * w_fi ws (n_v (vs ++ [Value.int x]) 3) 170 + (1 * v_iv (n_v (vs ++ [Value.int x]) 8) + ((-1) * v_iv (n_v (vs ++ [Value.int x]) 2) + 0)) ≤ 12
      rw [e_2]
      rw [e_3]
      rw [e_8]
      rw [q3]
      omega
  have nf1 : fc_1 (23, [6], [2147483648, 1]) ws (vs ++ [Value.int x]) := by
    refine ⟨fun n hn => ?_, ?_⟩
    · have hn : n ∈ [6] := hn
      rw [List.length_append, hl]
      simp only [List.mem_cons, List.not_mem_nil, or_false] at hn
      show n < 8 + 1; omega
    · show 1 * v_iv (n_v (vs ++ [Value.int x]) 6) + 0 ≤ 2147483648
      rw [e_6]
      omega
  have nf2 : fc_1 (23, [6], [0, -1]) ws (vs ++ [Value.int x]) := by
    refine ⟨fun n hn => ?_, ?_⟩
    · have hn : n ∈ [6] := hn
      rw [List.length_append, hl]
      simp only [List.mem_cons, List.not_mem_nil, or_false] at hn
      show n < 8 + 1; omega
    · show (-1) * v_iv (n_v (vs ++ [Value.int x]) 6) + 0 ≤ 0
      rw [e_6]
      omega
  have nf3 : fc_1 (20, [6, 8], [50, 0, 0, 3, 6, 0, 2, 1, 0, 0, 0, 0, 2, 0, 1, 1, 1]) ws (vs ++ [Value.int x]) := by
    refine ⟨fun n hn => ?_, ?_⟩
    · have hn : n ∈ [6, 8] := hn
      rw [List.length_append, hl]
      simp only [List.mem_cons, List.not_mem_nil, or_false] at hn
      show n < 8 + 1; omega
    · show (v_iv (n_v (vs ++ [Value.int x]) 6) ≤ 0) ∨ (1 ≤ v_iv (n_v (vs ++ [Value.int x]) 8))
      rw [e_6]
      rw [e_8]
      clear f5 f6 f7 f8 f9 f10 f11 f12 f13
      first | omega | grind
  have nf4 : fc_1 (20, [6, 8], [50, 0, 0, 3, 6, 0, 2, 1, 0, 0, 9, 0, 2, 0, 2, 1, 1]) ws (vs ++ [Value.int x]) := by
    refine ⟨fun n hn => ?_, ?_⟩
    · have hn : n ∈ [6, 8] := hn
      rw [List.length_append, hl]
      simp only [List.mem_cons, List.not_mem_nil, or_false] at hn
      show n < 8 + 1; omega
    · show (v_iv (n_v (vs ++ [Value.int x]) 6) ≤ 9) ∨ (2 ≤ v_iv (n_v (vs ++ [Value.int x]) 8))
      rw [e_6]
      rw [e_8]
      clear f3 f6 f7 f8 f9 f10 f11 f12 f13
      first | omega | grind
  have nf5 : fc_1 (20, [6, 8], [50, 0, 0, 3, 6, 0, 2, 1, 0, 0, 99, 0, 2, 0, 3, 1, 1]) ws (vs ++ [Value.int x]) := by
    refine ⟨fun n hn => ?_, ?_⟩
    · have hn : n ∈ [6, 8] := hn
      rw [List.length_append, hl]
      simp only [List.mem_cons, List.not_mem_nil, or_false] at hn
      show n < 8 + 1; omega
    · show (v_iv (n_v (vs ++ [Value.int x]) 6) ≤ 99) ∨ (3 ≤ v_iv (n_v (vs ++ [Value.int x]) 8))
      rw [e_6]
      rw [e_8]
      clear f3 f4 f7 f8 f9 f10 f11 f12 f13
      first | omega | grind
  have nf6 : fc_1 (20, [6, 8], [50, 0, 0, 3, 6, 0, 2, 1, 0, 0, 999, 0, 2, 0, 4, 1, 1]) ws (vs ++ [Value.int x]) := by
    refine ⟨fun n hn => ?_, ?_⟩
    · have hn : n ∈ [6, 8] := hn
      rw [List.length_append, hl]
      simp only [List.mem_cons, List.not_mem_nil, or_false] at hn
      show n < 8 + 1; omega
    · show (v_iv (n_v (vs ++ [Value.int x]) 6) ≤ 999) ∨ (4 ≤ v_iv (n_v (vs ++ [Value.int x]) 8))
      rw [e_6]
      rw [e_8]
      clear f3 f4 f5 f8 f9 f10 f11 f12 f13
      first | omega | grind
  have nf7 : fc_1 (20, [6, 8], [50, 0, 0, 3, 6, 0, 2, 1, 0, 0, 9999, 0, 2, 0, 5, 1, 1]) ws (vs ++ [Value.int x]) := by
    refine ⟨fun n hn => ?_, ?_⟩
    · have hn : n ∈ [6, 8] := hn
      rw [List.length_append, hl]
      simp only [List.mem_cons, List.not_mem_nil, or_false] at hn
      show n < 8 + 1; omega
    · show (v_iv (n_v (vs ++ [Value.int x]) 6) ≤ 9999) ∨ (5 ≤ v_iv (n_v (vs ++ [Value.int x]) 8))
      rw [e_6]
      rw [e_8]
      clear f3 f4 f5 f6 f9 f10 f11 f12 f13
      first | omega | grind
  have nf8 : fc_1 (20, [6, 8], [50, 0, 0, 3, 6, 0, 2, 1, 0, 0, 99999, 0, 2, 0, 6, 1, 1]) ws (vs ++ [Value.int x]) := by
    refine ⟨fun n hn => ?_, ?_⟩
    · have hn : n ∈ [6, 8] := hn
      rw [List.length_append, hl]
      simp only [List.mem_cons, List.not_mem_nil, or_false] at hn
      show n < 8 + 1; omega
    · show (v_iv (n_v (vs ++ [Value.int x]) 6) ≤ 99999) ∨ (6 ≤ v_iv (n_v (vs ++ [Value.int x]) 8))
      rw [e_6]
      rw [e_8]
      clear f3 f4 f5 f6 f7 f10 f11 f12 f13
      first | omega | grind
  have nf9 : fc_1 (20, [6, 8], [50, 0, 0, 3, 6, 0, 2, 1, 0, 0, 999999, 0, 2, 0, 7, 1, 1]) ws (vs ++ [Value.int x]) := by
    refine ⟨fun n hn => ?_, ?_⟩
    · have hn : n ∈ [6, 8] := hn
      rw [List.length_append, hl]
      simp only [List.mem_cons, List.not_mem_nil, or_false] at hn
      show n < 8 + 1; omega
    · show (v_iv (n_v (vs ++ [Value.int x]) 6) ≤ 999999) ∨ (7 ≤ v_iv (n_v (vs ++ [Value.int x]) 8))
      rw [e_6]
      rw [e_8]
      clear f3 f4 f5 f6 f7 f8 f11 f12 f13
      first | omega | grind
  have nf10 : fc_1 (20, [6, 8], [50, 0, 0, 3, 6, 0, 2, 1, 0, 0, 9999999, 0, 2, 0, 8, 1, 1]) ws (vs ++ [Value.int x]) := by
    refine ⟨fun n hn => ?_, ?_⟩
    · have hn : n ∈ [6, 8] := hn
      rw [List.length_append, hl]
      simp only [List.mem_cons, List.not_mem_nil, or_false] at hn
      show n < 8 + 1; omega
    · show (v_iv (n_v (vs ++ [Value.int x]) 6) ≤ 9999999) ∨ (8 ≤ v_iv (n_v (vs ++ [Value.int x]) 8))
      rw [e_6]
      rw [e_8]
      clear f3 f4 f5 f6 f7 f8 f9 f12 f13
      first | omega | grind
  have nf11 : fc_1 (20, [6, 8], [50, 0, 0, 3, 6, 0, 2, 1, 0, 0, 99999999, 0, 2, 0, 9, 1, 1]) ws (vs ++ [Value.int x]) := by
    refine ⟨fun n hn => ?_, ?_⟩
    · have hn : n ∈ [6, 8] := hn
      rw [List.length_append, hl]
      simp only [List.mem_cons, List.not_mem_nil, or_false] at hn
      show n < 8 + 1; omega
    · show (v_iv (n_v (vs ++ [Value.int x]) 6) ≤ 99999999) ∨ (9 ≤ v_iv (n_v (vs ++ [Value.int x]) 8))
      rw [e_6]
      rw [e_8]
      clear f3 f4 f5 f6 f7 f8 f9 f10 f13
      first | omega | grind
  have nf12 : fc_1 (20, [6, 8], [50, 0, 0, 3, 6, 0, 2, 1, 0, 0, 999999999, 0, 2, 0, 10, 1, 1]) ws (vs ++ [Value.int x]) := by
    refine ⟨fun n hn => ?_, ?_⟩
    · have hn : n ∈ [6, 8] := hn
      rw [List.length_append, hl]
      simp only [List.mem_cons, List.not_mem_nil, or_false] at hn
      show n < 8 + 1; omega
    · show (v_iv (n_v (vs ++ [Value.int x]) 6) ≤ 999999999) ∨ (10 ≤ v_iv (n_v (vs ++ [Value.int x]) 8))
      rw [e_6]
      rw [e_8]
      clear f3 f4 f5 f6 f7 f8 f9 f10 f11
      first | omega | grind
  have nf13 : fc_1 (20, [6, 8], [50, 0, 0, 3, 6, 0, 2, 1, 0, 0, 9999999999, 0, 2, 0, 11, 1, 1]) ws (vs ++ [Value.int x]) := by
    refine ⟨fun n hn => ?_, ?_⟩
    · have hn : n ∈ [6, 8] := hn
      rw [List.length_append, hl]
      simp only [List.mem_cons, List.not_mem_nil, or_false] at hn
      show n < 8 + 1; omega
    · show (v_iv (n_v (vs ++ [Value.int x]) 6) ≤ 9999999999) ∨ (11 ≤ v_iv (n_v (vs ++ [Value.int x]) 8))
      rw [e_6]
      rw [e_8]
      clear f3 f4 f5 f6 f7 f8 f9 f10 f11 f12
      first | omega | grind
  have nf14 : fc_1 (20, [8], [50, 0, 0, 0, 2, 0, -1, 1, 0]) ws (vs ++ [Value.int x]) := by
    refine ⟨fun n hn => ?_, ?_⟩
    · have hn : n ∈ [8] := hn
      rw [List.length_append, hl]
      simp only [List.mem_cons, List.not_mem_nil, or_false] at hn
      show n < 8 + 1; omega
    · show (-1) ≤ v_iv (n_v (vs ++ [Value.int x]) 8)
      rw [e_8]
      first | omega | grind
  have nf15 : fc_1 (24, [0, 3], []) ws (vs ++ [Value.int x]) := by
    refine ⟨fun n hn => ?_, ?_⟩
    · have hn : n ∈ [0, 3] := hn
      rw [List.length_append, hl]
      simp only [List.mem_cons, List.not_mem_nil, or_false] at hn
      show n < 8 + 1; omega
    · show n_v (vs ++ [Value.int x]) 0 = n_v (vs ++ [Value.int x]) 3
      first | rfl | simp only [e_0, e_3, q3]
  obtain ⟨x0, e0, _, _⟩ := tv_int t7 rfl
  have e1 : v_iv (n_v vs 7) = x0.toInt := by rw [e0]; rfl
  have ho : sy_ofs (vs ++ [Value.int x]) (8, 7, -1000000000000, -1) := by
    refine ⟨x, x0, by rw [List.getElem?_append_right (by rw [hl]; decide), hl]; rfl, ?_, ?_, ?_⟩
    · rw [List.getElem?_append_left (by rw [hl]; decide)]; exact n_v_some (by rw [hl]; decide) e0
    · show x0.toInt + (-1000000000000) ≤ x.toInt; omega
    · show x.toInt ≤ x0.toInt + (-1); omega
  exact ⟨(fun _ h => (by cases h)), [Value.int x], ag_one hx, List.forall_mem_cons.mpr ⟨⟨show (20 : Nat) < 100 from by decide, nf0⟩, List.forall_mem_cons.mpr ⟨⟨show (23 : Nat) < 100 from by decide, nf1⟩, List.forall_mem_cons.mpr ⟨⟨show (23 : Nat) < 100 from by decide, nf2⟩, List.forall_mem_cons.mpr ⟨⟨show (20 : Nat) < 100 from by decide, nf3⟩, List.forall_mem_cons.mpr ⟨⟨show (20 : Nat) < 100 from by decide, nf4⟩, List.forall_mem_cons.mpr ⟨⟨show (20 : Nat) < 100 from by decide, nf5⟩, List.forall_mem_cons.mpr ⟨⟨show (20 : Nat) < 100 from by decide, nf6⟩, List.forall_mem_cons.mpr ⟨⟨show (20 : Nat) < 100 from by decide, nf7⟩, List.forall_mem_cons.mpr ⟨⟨show (20 : Nat) < 100 from by decide, nf8⟩, List.forall_mem_cons.mpr ⟨⟨show (20 : Nat) < 100 from by decide, nf9⟩, List.forall_mem_cons.mpr ⟨⟨show (20 : Nat) < 100 from by decide, nf10⟩, List.forall_mem_cons.mpr ⟨⟨show (20 : Nat) < 100 from by decide, nf11⟩, List.forall_mem_cons.mpr ⟨⟨show (20 : Nat) < 100 from by decide, nf12⟩, List.forall_mem_cons.mpr ⟨⟨show (20 : Nat) < 100 from by decide, nf13⟩, List.forall_mem_cons.mpr ⟨⟨show (20 : Nat) < 100 from by decide, nf14⟩, List.forall_mem_cons.mpr ⟨⟨show (24 : Nat) < 100 from by decide, nf15⟩, (fun _ h => (by cases h))⟩⟩⟩⟩⟩⟩⟩⟩⟩⟩⟩⟩⟩⟩⟩⟩, List.forall_mem_cons.mpr ⟨ho, (fun _ h => (by cases h))⟩⟩
def n_Mo_writeNumber_an : List an_T := [(26, [(0, (2, 0, 0, [150])), (1, (0, -2147483648, 2147483647, [])), (2, (1, 0, 2147483648, [])), (4, (1, 1, 2147483648, []))], [], (0, 0), [(0, 0, 99974), (2, 7, -1), (0, 0, 100000)], [(1, 4, -1000000000000, 0), (4, 1, -1000000000000, 0)], [], [(2, 0, 0, [150]), (0, -2147483648, 2147483647, []), (0, 0, 99999987, [])], 0, [(0, -1, 2147483647, [])], [(20, [3, 2], [30, 1, 1, 1, 170, -1, 0, 0]), (23, [6], [-1, -1]), (23, [6], [2147483648, 1]), (20, [6, 5], [50, 0, 0, 3, 6, 0, 2, 1, 0, 0, 1, 0, 2, 1, 0, 1, 1]), (24, [0, 3], []), (20, [7, 5, 6], [30, 0, 1, 0, 0, -1, 0, 0, 1, 0, 0]), (20, [7, 5, 6], [30, 0, -1, 0, 0, 1, 0, 0, -1, 0, 0])]), (45, [(0, (2, 0, 0, [150])), (1, (0, -2147483648, 2147483647, [])), (2, (1, 0, 2147483648, [])), (4, (1, 10, 2147483648, []))], [], (0, 0), [(0, 0, 99974), (2, 7, -1), (0, 0, 99955)], [(1, 4, -1000000000000, 0), (4, 1, -1000000000000, 0)], [], [(2, 0, 0, [150]), (0, -2147483648, 2147483647, []), (0, 0, 99999987, [])], 0, [(0, -1, 2147483647, [])], [(20, [3, 2], [30, 1, 1, 1, 170, -1, 0, 0]), (23, [6], [-1, -1]), (23, [6], [2147483648, 1]), (20, [6, 5], [50, 0, 0, 3, 6, 0, 2, 1, 0, 0, 1, 0, 2, 1, 0, 1, 1]), (20, [5, 6, 7], [30, -1, 1, 0, 0, -1, 0, 0, -1, 0, 0]), (24, [0, 3], [])]), (48, [(0, (2, 0, 0, [150])), (1, (0, -2147483648, 2147483647, [])), (2, (1, 0, 2147483648, [])), (4, (1, 0, 922337203685477580, []))], [], (0, 0), [(0, 0, 99952), (2, 7, -1), (0, 0, 100000)], [(1, 4, -1000000000000, 0), (4, 1, -1000000000000, 0)], [], [(2, 0, 0, [150]), (0, -2147483648, 2147483647, []), (0, 0, 99999987, [])], 0, [(0, -1, 11, [])], [(20, [3, 7, 2], [30, 12, 1, 1, 170, 1, 0, 0, -1, 0, 0]), (23, [6], [2147483648, 1]), (23, [6], [0, -1]), (20, [6, 7], [50, 0, 0, 3, 6, 0, 2, 1, 0, 0, 0, 0, 2, 0, 1, 1, 1]), (20, [6, 7], [50, 0, 0, 3, 6, 0, 2, 1, 0, 0, 9, 0, 2, 0, 2, 1, 1]), (20, [6, 7], [50, 0, 0, 3, 6, 0, 2, 1, 0, 0, 99, 0, 2, 0, 3, 1, 1]), (20, [6, 7], [50, 0, 0, 3, 6, 0, 2, 1, 0, 0, 999, 0, 2, 0, 4, 1, 1]), (20, [6, 7], [50, 0, 0, 3, 6, 0, 2, 1, 0, 0, 9999, 0, 2, 0, 5, 1, 1]), (20, [6, 7], [50, 0, 0, 3, 6, 0, 2, 1, 0, 0, 99999, 0, 2, 0, 6, 1, 1]), (20, [6, 7], [50, 0, 0, 3, 6, 0, 2, 1, 0, 0, 999999, 0, 2, 0, 7, 1, 1]), (20, [6, 7], [50, 0, 0, 3, 6, 0, 2, 1, 0, 0, 9999999, 0, 2, 0, 8, 1, 1]), (20, [6, 7], [50, 0, 0, 3, 6, 0, 2, 1, 0, 0, 99999999, 0, 2, 0, 9, 1, 1]), (20, [6, 7], [50, 0, 0, 3, 6, 0, 2, 1, 0, 0, 999999999, 0, 2, 0, 10, 1, 1]), (20, [6, 7], [50, 0, 0, 3, 6, 0, 2, 1, 0, 0, 9999999999, 0, 2, 0, 11, 1, 1]), (20, [7], [50, 0, 0, 0, 2, 0, -1, 1, 0]), (24, [0, 3], [])]), (80, [(0, (2, 0, 0, [150])), (1, (0, -2147483648, 2147483647, [])), (2, (1, 0, 2147483648, [])), (4, (1, 0, 92233720368547758, []))], [], (0, 0), [(0, 0, 99952), (2, 7, -1), (0, 0, 99920)], [(1, 4, -1000000000000, 0), (4, 1, -1000000000000, 0)], [], [(2, 0, 0, [150]), (0, -2147483648, 2147483647, []), (0, 0, 99999987, [])], 0, [(0, -1, 11, [])], [(20, [3, 7, 2], [30, 13, 1, 1, 170, 1, 0, 0, -1, 0, 0]), (23, [6], [2147483648, 1]), (23, [6], [0, -1]), (20, [6, 7], [50, 0, 0, 3, 6, 0, 2, 1, 0, 0, 0, 0, 2, 0, 2, 1, 1]), (20, [6, 7], [50, 0, 0, 3, 6, 0, 2, 1, 0, 0, 9, 0, 2, 0, 3, 1, 1]), (20, [6, 7], [50, 0, 0, 3, 6, 0, 2, 1, 0, 0, 99, 0, 2, 0, 4, 1, 1]), (20, [6, 7], [50, 0, 0, 3, 6, 0, 2, 1, 0, 0, 999, 0, 2, 0, 5, 1, 1]), (20, [6, 7], [50, 0, 0, 3, 6, 0, 2, 1, 0, 0, 9999, 0, 2, 0, 6, 1, 1]), (20, [6, 7], [50, 0, 0, 3, 6, 0, 2, 1, 0, 0, 99999, 0, 2, 0, 7, 1, 1]), (20, [6, 7], [50, 0, 0, 3, 6, 0, 2, 1, 0, 0, 999999, 0, 2, 0, 8, 1, 1]), (20, [6, 7], [50, 0, 0, 3, 6, 0, 2, 1, 0, 0, 9999999, 0, 2, 0, 9, 1, 1]), (20, [6, 7], [50, 0, 0, 3, 6, 0, 2, 1, 0, 0, 99999999, 0, 2, 0, 10, 1, 1]), (20, [6, 7], [50, 0, 0, 3, 6, 0, 2, 1, 0, 0, 999999999, 0, 2, 0, 11, 1, 1]), (20, [6, 7], [50, 0, 0, 3, 6, 0, 2, 1, 0, 0, 9999999999, 0, 2, 0, 12, 1, 1]), (20, [7], [50, 0, 0, 0, 2, 0, 0, 1, 0]), (24, [0, 3], [])])]
def t_Mo_writeNumber_ct : ct_L := [(64, 1280, e_Mo_write1), (211, 1280, e_Mo_write1)]
set_option maxRecDepth 100000 in
theorem c_Mo_writeNumber {l : Launch} {D : va_G} {kA : Nat → ClassId} (h_Mo_write1 : ct_ok l D kA GG y_Mo_write1 z_Mo_write1 e_Mo_write1) : ct_ok l D kA GG y_Mo_writeNumber z_Mo_writeNumber e_Mo_writeNumber := chk_all_ok (FT := []) (PT := []) (CT := t_Mo_writeNumber_ct) (KT := [(2, 1165, .long (10), (1, 10, 10, [])), (2, 1167, .long (48), (1, 48, 48, [])), (2, 1283, .long (9), (1, 9, 9, []))]) (NT := []) (AN := n_Mo_writeNumber_an) (OT := [o_Mo_writeNumber_0, o_Mo_writeNumber_1, o_Mo_writeNumber_2, o_Mo_writeNumber_3, o_Mo_writeNumber_4, o_Mo_writeNumber_5, o_Mo_writeNumber_6, o_Mo_writeNumber_7, o_Mo_writeNumber_8, o_Mo_writeNumber_9, o_Mo_writeNumber_10]) 3 200 (List.forall_mem_cons.mpr ⟨oo_Mo_writeNumber_0, List.forall_mem_cons.mpr ⟨oo_Mo_writeNumber_1, List.forall_mem_cons.mpr ⟨oo_Mo_writeNumber_2, List.forall_mem_cons.mpr ⟨oo_Mo_writeNumber_3, List.forall_mem_cons.mpr ⟨oo_Mo_writeNumber_4, List.forall_mem_cons.mpr ⟨oo_Mo_writeNumber_5, List.forall_mem_cons.mpr ⟨oo_Mo_writeNumber_6, List.forall_mem_cons.mpr ⟨oo_Mo_writeNumber_7, List.forall_mem_cons.mpr ⟨oo_Mo_writeNumber_8, List.forall_mem_cons.mpr ⟨oo_Mo_writeNumber_9, List.forall_mem_cons.mpr ⟨oo_Mo_writeNumber_10, List.forall_mem_nil _⟩⟩⟩⟩⟩⟩⟩⟩⟩⟩⟩) (by decide +kernel) ⟨List.forall_mem_nil _, List.forall_mem_nil _, List.forall_mem_cons.mpr ⟨cl_virtual (y := y_Mo_write1) (ci := 13) rfl rfl ⟨_, _, rfl⟩ (by decide +kernel) h_Mo_write1 wm_3914 wm_9 wm_3911 wm_3913 wv_24_8 ⟨by decide, by decide, by decide +kernel⟩ (by decide), List.forall_mem_cons.mpr ⟨cl_virtual (y := y_Mo_write1) (ci := 13) rfl rfl ⟨_, _, rfl⟩ (by decide +kernel) h_Mo_write1 wm_3914 wm_9 wm_3911 wm_3913 wv_24_8 ⟨by decide, by decide, by decide +kernel⟩ (by decide), List.forall_mem_nil _⟩⟩, List.forall_mem_cons.mpr ⟨⟨kt_mk2 wm_3800, fun _ => Or.inr (Or.inl ⟨rfl, _, rfl, by decide, by decide⟩)⟩, List.forall_mem_cons.mpr ⟨⟨kt_mk2 wm_3801, fun _ => Or.inr (Or.inl ⟨rfl, _, rfl, by decide, by decide⟩)⟩, List.forall_mem_cons.mpr ⟨⟨kt_mk2 wm_3928, fun _ => Or.inr (Or.inl ⟨rfl, _, rfl, by decide, by decide⟩)⟩, List.forall_mem_nil _⟩⟩⟩, List.forall_mem_nil _, GG_pl⟩ (by decide +kernel)
def o_Ro_readWay_0 : or_T := (15, 5, [(0, (2, 0, 0, [9])), (1, (0, 0, 5999, [])), (4, (0, 0, 0, []))], [(9, [1, 0], [6]), (20, [0], [50, 2, 0, 4, 5, 2, 7, 0, 2, 0, 1, 2, 0, 4, 2, 7, 0, 2, 0, 1, 2, 0, 5, 0, 8, 6, 3, 2, 0, 4, 2, 0, 5, 0, 6000]), (20, [0], [50, 3, 0, 6, 4, 5, 0, 7, 4, 3, 2, 0, 6, 0, 1, 6, 3, 2, 0, 4, 2, 0, 5]), (20, [0], [30, 0, 1, 1, 17])], [], [], [(20, [1, 0], [50, 2, 0, 1004, 1005, 0, 6, 4, 2, 1, 0, 0, 1, 6, 3, 2, 1, 4, 2, 1, 5]), (20, [0, 4], [30, 0, 1, 1, 17, -1, 0, 0])], [], [])
theorem oo_Ro_readWay_0 {kA : Nat → ClassId} : or_ok kA GG o_Ro_readWay_0 := by
  intro A ta ws vs hD hth hl hk hds hf
  have hl : vs.length = 5 := hl
  have hk : ∀ q ∈ ([(0, (2, 0, 0, [9])), (1, (0, 0, 5999, [])), (4, (0, 0, 0, []))] : List (Nat × tv_T)), tv_ok ta q.2 (n_v vs q.1) := hk
  obtain ⟨t0, hk⟩ := List.forall_mem_cons.mp hk
  have t0 : tv_ok ta (2, 0, 0, [9]) (n_v vs 0) := t0
  have r0 : ta (v_ad (n_v vs 0)) = some 9 := tv_rg t0
  obtain ⟨t1, hk⟩ := List.forall_mem_cons.mp hk
  have t1 : tv_ok ta (0, 0, 5999, []) (n_v vs 1) := t1
  have k1 : 0 ≤ v_iv (n_v vs 1) ∧ v_iv (n_v vs 1) ≤ 5999 := tv_rng t1
  obtain ⟨t4, hk⟩ := List.forall_mem_cons.mp hk
  have t4 : tv_ok ta (0, 0, 0, []) (n_v vs 4) := t4
  have k4 : 0 ≤ v_iv (n_v vs 4) ∧ v_iv (n_v vs 4) ≤ 0 := tv_rng t4
  have hf : fc_ok [(9, [1, 0], [6]), (20, [0], [50, 2, 0, 4, 5, 2, 7, 0, 2, 0, 1, 2, 0, 4, 2, 7, 0, 2, 0, 1, 2, 0, 5, 0, 8, 6, 3, 2, 0, 4, 2, 0, 5, 0, 6000]), (20, [0], [50, 3, 0, 6, 4, 5, 0, 7, 4, 3, 2, 0, 6, 0, 1, 6, 3, 2, 0, 4, 2, 0, 5]), (20, [0], [30, 0, 1, 1, 17])] ta ws vs := hf
  obtain ⟨f0, hf⟩ := fc_un (show (9 : Nat) < 100 from by decide) hf
  have f0 : n_v vs 1 = w_fd ws (v_ad (n_v vs 0)) 6 := f0
  obtain ⟨f1, hf⟩ := fc_un (show (20 : Nat) < 100 from by decide) hf
  have f1 : (1 ≤ w_fi ws (n_v vs 0) 4) ∧ ((1 ≤ w_fi ws (n_v vs 0) 5) ∧ ((w_fi ws (n_v vs 0) 4 * w_fi ws (n_v vs 0) 5) ≤ 6000)) := f1
  obtain ⟨f2, hf⟩ := fc_un (show (20 : Nat) < 100 from by decide) hf
  have f2 : (w_fi ws (n_v vs 0) 6 + 1) ≤ (w_fi ws (n_v vs 0) 4 * w_fi ws (n_v vs 0) 5) := f2
  obtain ⟨f3, hf⟩ := fc_un (show (20 : Nat) < 100 from by decide) hf
  have f3 : 1 * w_fi ws (n_v vs 0) 17 + 0 ≤ 0 := f3
  have g0 : v_iv (n_v vs 1) = w_fi ws (n_v vs 0) 6 := congrArg v_iv f0
  have kz_0_4 : (-2147483648) ≤ w_fi ws (n_v vs 0) 4 ∧ w_fi ws (n_v vs 0) 4 ≤ 2147483647 := tv_rng (th_fd hD hth r0 (g := GG_9) rfl (k := 4) (t := (0, -2147483648, 2147483647, [])) rfl rfl)
  have kz_0_5 : (-2147483648) ≤ w_fi ws (n_v vs 0) 5 ∧ w_fi ws (n_v vs 0) 5 ≤ 2147483647 := tv_rng (th_fd hD hth r0 (g := GG_9) rfl (k := 5) (t := (0, -2147483648, 2147483647, [])) rfl rfl)
  have kz_0_6 : 0 ≤ w_fi ws (n_v vs 0) 6 ∧ w_fi ws (n_v vs 0) 6 ≤ 5999 := tv_rng (th_fd hD hth r0 (g := GG_9) rfl (k := 6) (t := (0, 0, 5999, [])) rfl rfl)
  have kz_0_17 : 0 ≤ w_fi ws (n_v vs 0) 17 ∧ w_fi ws (n_v vs 0) 17 ≤ 6000 := tv_rng (th_fd hD hth r0 (g := GG_9) rfl (k := 17) (t := (0, 0, 6000, [])) rfl rfl)
  have nf0 : fc_1 (20, [1, 0], [50, 2, 0, 1004, 1005, 0, 6, 4, 2, 1, 0, 0, 1, 6, 3, 2, 1, 4, 2, 1, 5]) ws (vs) := by
    refine ⟨fun n hn => ?_, ?_⟩
    · have hn : n ∈ [1, 0] := hn
      rw [hl]
      simp only [List.mem_cons, List.not_mem_nil, or_false] at hn
      show n < 5; omega
    · show (v_iv (n_v vs 1) + 1) ≤ (w_fi ws (n_v vs 0) 4 * w_fi ws (n_v vs 0) 5)
      first | omega | grind
  have nf1 : fc_1 (20, [0, 4], [30, 0, 1, 1, 17, -1, 0, 0]) ws (vs) := by
    refine ⟨fun n hn => ?_, ?_⟩
    · have hn : n ∈ [0, 4] := hn
      rw [hl]
      simp only [List.mem_cons, List.not_mem_nil, or_false] at hn
      show n < 5; omega
    · show 1 * w_fi ws (n_v vs 0) 17 + ((-1) * v_iv (n_v vs 4) + 0) ≤ 0
      omega
  refine ⟨(fun _ h => (by cases h)), [], trivial, ?_, (fun _ h => (by cases h))⟩
  rw [List.append_nil]
  exact List.forall_mem_cons.mpr ⟨⟨show (20 : Nat) < 100 from by decide, nf0⟩, List.forall_mem_cons.mpr ⟨⟨show (20 : Nat) < 100 from by decide, nf1⟩, (fun _ h => (by cases h))⟩⟩
def o_Ro_readWay_1 : or_T := (15, 18, [(0, (2, 0, 0, [9])), (1, (0, 0, 5999, [])), (4, (0, 0, 5999, [])), (6, (0, 6000, 6000, [])), (7, (0, 0, 5999, [])), (10, (0, 0, 5999, [])), (11, (0, -1, -1, [])), (17, (0, 1, 6000, []))], [(6, [17, 4], [1]), (7, [10, 11], [1]), (20, [10, 0], [50, 2, 0, 1004, 1005, 3, 6, 1, 2, 1, 0, 0, -1, 2, 6, 0, 2, 0, 0, 1, 0, 0, 6, 4, 2, 1, 0, 0, 1, 6, 3, 2, 1, 4, 2, 1, 5]), (7, [1, 7], [1]), (9, [7, 0], [7]), (7, [4, 6], [2]), (20, [0], [50, 2, 0, 4, 5, 2, 7, 0, 2, 0, 1, 2, 0, 4, 2, 7, 0, 2, 0, 1, 2, 0, 5, 0, 8, 6, 3, 2, 0, 4, 2, 0, 5, 0, 6000]), (20, [1, 0], [50, 2, 0, 1004, 1005, 0, 6, 4, 2, 1, 0, 0, 1, 6, 3, 2, 1, 4, 2, 1, 5]), (20, [0, 4], [30, 0, 1, 1, 17, -1, 0, 0])], [], [], [(20, [10, 0], [50, 2, 0, 1004, 1005, 0, 6, 4, 2, 1, 0, 0, 1, 6, 3, 2, 1, 4, 2, 1, 5]), (20, [0, 17], [30, 0, 1, 1, 17, -1, 0, 0])], [], [(17, 4, 1, 1), (1, 4, -4294967296, 5999)])
theorem oo_Ro_readWay_1 {kA : Nat → ClassId} : or_ok kA GG o_Ro_readWay_1 := by
  intro A ta ws vs hD hth hl hk hds hf
  have hl : vs.length = 18 := hl
  have hk : ∀ q ∈ ([(0, (2, 0, 0, [9])), (1, (0, 0, 5999, [])), (4, (0, 0, 5999, [])), (6, (0, 6000, 6000, [])), (7, (0, 0, 5999, [])), (10, (0, 0, 5999, [])), (11, (0, -1, -1, [])), (17, (0, 1, 6000, []))] : List (Nat × tv_T)), tv_ok ta q.2 (n_v vs q.1) := hk
  obtain ⟨t0, hk⟩ := List.forall_mem_cons.mp hk
  have t0 : tv_ok ta (2, 0, 0, [9]) (n_v vs 0) := t0
  have r0 : ta (v_ad (n_v vs 0)) = some 9 := tv_rg t0
  obtain ⟨t1, hk⟩ := List.forall_mem_cons.mp hk
  have t1 : tv_ok ta (0, 0, 5999, []) (n_v vs 1) := t1
  have k1 : 0 ≤ v_iv (n_v vs 1) ∧ v_iv (n_v vs 1) ≤ 5999 := tv_rng t1
  obtain ⟨t4, hk⟩ := List.forall_mem_cons.mp hk
  have t4 : tv_ok ta (0, 0, 5999, []) (n_v vs 4) := t4
  have k4 : 0 ≤ v_iv (n_v vs 4) ∧ v_iv (n_v vs 4) ≤ 5999 := tv_rng t4
  obtain ⟨t6, hk⟩ := List.forall_mem_cons.mp hk
  have t6 : tv_ok ta (0, 6000, 6000, []) (n_v vs 6) := t6
  have k6 : 6000 ≤ v_iv (n_v vs 6) ∧ v_iv (n_v vs 6) ≤ 6000 := tv_rng t6
  obtain ⟨t7, hk⟩ := List.forall_mem_cons.mp hk
  have t7 : tv_ok ta (0, 0, 5999, []) (n_v vs 7) := t7
  have k7 : 0 ≤ v_iv (n_v vs 7) ∧ v_iv (n_v vs 7) ≤ 5999 := tv_rng t7
  obtain ⟨t10, hk⟩ := List.forall_mem_cons.mp hk
  have t10 : tv_ok ta (0, 0, 5999, []) (n_v vs 10) := t10
  have k10 : 0 ≤ v_iv (n_v vs 10) ∧ v_iv (n_v vs 10) ≤ 5999 := tv_rng t10
  obtain ⟨t11, hk⟩ := List.forall_mem_cons.mp hk
  have t11 : tv_ok ta (0, -1, -1, []) (n_v vs 11) := t11
  have k11 : (-1) ≤ v_iv (n_v vs 11) ∧ v_iv (n_v vs 11) ≤ (-1) := tv_rng t11
  obtain ⟨t17, hk⟩ := List.forall_mem_cons.mp hk
  have t17 : tv_ok ta (0, 1, 6000, []) (n_v vs 17) := t17
  have k17 : 1 ≤ v_iv (n_v vs 17) ∧ v_iv (n_v vs 17) ≤ 6000 := tv_rng t17
  have hds : ∀ q ∈ ([(17, 4, 1, 1), (1, 4, -4294967296, 5999)] : List of_T), n_iv vs q.2.1 + q.2.2.1 ≤ n_iv vs q.1 ∧ n_iv vs q.1 ≤ n_iv vs q.2.1 + q.2.2.2 := hds
  obtain ⟨d0, hds⟩ := List.forall_mem_cons.mp hds
  have d0 : v_iv (n_v vs 4) + 1 ≤ v_iv (n_v vs 17) ∧ v_iv (n_v vs 17) ≤ v_iv (n_v vs 4) + 1 := d0
  obtain ⟨d1, hds⟩ := List.forall_mem_cons.mp hds
  have d1 : v_iv (n_v vs 4) + (-4294967296) ≤ v_iv (n_v vs 1) ∧ v_iv (n_v vs 1) ≤ v_iv (n_v vs 4) + 5999 := d1
  have hf : fc_ok [(6, [17, 4], [1]), (7, [10, 11], [1]), (20, [10, 0], [50, 2, 0, 1004, 1005, 3, 6, 1, 2, 1, 0, 0, -1, 2, 6, 0, 2, 0, 0, 1, 0, 0, 6, 4, 2, 1, 0, 0, 1, 6, 3, 2, 1, 4, 2, 1, 5]), (7, [1, 7], [1]), (9, [7, 0], [7]), (7, [4, 6], [2]), (20, [0], [50, 2, 0, 4, 5, 2, 7, 0, 2, 0, 1, 2, 0, 4, 2, 7, 0, 2, 0, 1, 2, 0, 5, 0, 8, 6, 3, 2, 0, 4, 2, 0, 5, 0, 6000]), (20, [1, 0], [50, 2, 0, 1004, 1005, 0, 6, 4, 2, 1, 0, 0, 1, 6, 3, 2, 1, 4, 2, 1, 5]), (20, [0, 4], [30, 0, 1, 1, 17, -1, 0, 0])] ta ws vs := hf
  obtain ⟨f0, hf⟩ := fc_un (show (6 : Nat) < 100 from by decide) hf
  have f0 : v_iv (n_v vs 17) = v_iv (n_v vs 4) + 1 := f0
  obtain ⟨f1, hf⟩ := fc_un (show (7 : Nat) < 100 from by decide) hf
  have f1 : v_iv (n_v vs 10) ≠ v_iv (n_v vs 11) := f1
  obtain ⟨f2, hf⟩ := fc_un (show (20 : Nat) < 100 from by decide) hf
  have f2 : (v_iv (n_v vs 10) = (-1)) ∨ ((0 ≤ v_iv (n_v vs 10)) ∧ ((v_iv (n_v vs 10) + 1) ≤ (w_fi ws (n_v vs 0) 4 * w_fi ws (n_v vs 0) 5))) := f2
  obtain ⟨f3, hf⟩ := fc_un (show (7 : Nat) < 100 from by decide) hf
  have f3 : v_iv (n_v vs 1) ≠ v_iv (n_v vs 7) := f3
  obtain ⟨f4, hf⟩ := fc_un (show (9 : Nat) < 100 from by decide) hf
  have f4 : n_v vs 7 = w_fd ws (v_ad (n_v vs 0)) 7 := f4
  obtain ⟨f5, hf⟩ := fc_un (show (7 : Nat) < 100 from by decide) hf
  have f5 : v_iv (n_v vs 4) < v_iv (n_v vs 6) := f5
  obtain ⟨f6, hf⟩ := fc_un (show (20 : Nat) < 100 from by decide) hf
  have f6 : (1 ≤ w_fi ws (n_v vs 0) 4) ∧ ((1 ≤ w_fi ws (n_v vs 0) 5) ∧ ((w_fi ws (n_v vs 0) 4 * w_fi ws (n_v vs 0) 5) ≤ 6000)) := f6
  obtain ⟨f7, hf⟩ := fc_un (show (20 : Nat) < 100 from by decide) hf
  have f7 : (v_iv (n_v vs 1) + 1) ≤ (w_fi ws (n_v vs 0) 4 * w_fi ws (n_v vs 0) 5) := f7
  obtain ⟨f8, hf⟩ := fc_un (show (20 : Nat) < 100 from by decide) hf
  have f8 : 1 * w_fi ws (n_v vs 0) 17 + ((-1) * v_iv (n_v vs 4) + 0) ≤ 0 := f8
  have g4 : v_iv (n_v vs 7) = w_fi ws (n_v vs 0) 7 := congrArg v_iv f4
  have kz_0_4 : (-2147483648) ≤ w_fi ws (n_v vs 0) 4 ∧ w_fi ws (n_v vs 0) 4 ≤ 2147483647 := tv_rng (th_fd hD hth r0 (g := GG_9) rfl (k := 4) (t := (0, -2147483648, 2147483647, [])) rfl rfl)
  have kz_0_5 : (-2147483648) ≤ w_fi ws (n_v vs 0) 5 ∧ w_fi ws (n_v vs 0) 5 ≤ 2147483647 := tv_rng (th_fd hD hth r0 (g := GG_9) rfl (k := 5) (t := (0, -2147483648, 2147483647, [])) rfl rfl)
  have kz_0_7 : 0 ≤ w_fi ws (n_v vs 0) 7 ∧ w_fi ws (n_v vs 0) 7 ≤ 5999 := tv_rng (th_fd hD hth r0 (g := GG_9) rfl (k := 7) (t := (0, 0, 5999, [])) rfl rfl)
  have kz_0_17 : 0 ≤ w_fi ws (n_v vs 0) 17 ∧ w_fi ws (n_v vs 0) 17 ≤ 6000 := tv_rng (th_fd hD hth r0 (g := GG_9) rfl (k := 17) (t := (0, 0, 6000, [])) rfl rfl)
  have nf0 : fc_1 (20, [10, 0], [50, 2, 0, 1004, 1005, 0, 6, 4, 2, 1, 0, 0, 1, 6, 3, 2, 1, 4, 2, 1, 5]) ws (vs) := by
    refine ⟨fun n hn => ?_, ?_⟩
    · have hn : n ∈ [10, 0] := hn
      rw [hl]
      simp only [List.mem_cons, List.not_mem_nil, or_false] at hn
      show n < 18; omega
    · show (v_iv (n_v vs 10) + 1) ≤ (w_fi ws (n_v vs 0) 4 * w_fi ws (n_v vs 0) 5)
      first | omega | grind
  have nf1 : fc_1 (20, [0, 17], [30, 0, 1, 1, 17, -1, 0, 0]) ws (vs) := by
    refine ⟨fun n hn => ?_, ?_⟩
    · have hn : n ∈ [0, 17] := hn
      rw [hl]
      simp only [List.mem_cons, List.not_mem_nil, or_false] at hn
      show n < 18; omega
    · show 1 * w_fi ws (n_v vs 0) 17 + ((-1) * v_iv (n_v vs 17) + 0) ≤ 0
      omega
  refine ⟨(fun _ h => (by cases h)), [], trivial, ?_, (fun _ h => (by cases h))⟩
  rw [List.append_nil]
  exact List.forall_mem_cons.mpr ⟨⟨show (20 : Nat) < 100 from by decide, nf0⟩, List.forall_mem_cons.mpr ⟨⟨show (20 : Nat) < 100 from by decide, nf1⟩, (fun _ h => (by cases h))⟩⟩
def o_Ro_readWay_2 : or_T := (107, 13, [(0, (2, 0, 0, [9])), (1, (0, 0, 5999, [])), (4, (0, 0, 5999, [])), (5, (0, 24, 6000, [])), (6, (0, 6000, 6000, [])), (7, (0, 0, 5999, [])), (10, (0, 24, 24, [])), (11, (0, 1, 1, [])), (12, (0, 25, 6001, []))], [(1, [12, 5, 11], []), (9, [5, 0], [17]), (7, [5, 10], [3]), (7, [1, 7], [1]), (9, [7, 0], [7]), (7, [4, 6], [2]), (20, [0], [50, 2, 0, 4, 5, 2, 7, 0, 2, 0, 1, 2, 0, 4, 2, 7, 0, 2, 0, 1, 2, 0, 5, 0, 8, 6, 3, 2, 0, 4, 2, 0, 5, 0, 6000]), (20, [1, 0], [50, 2, 0, 1004, 1005, 0, 6, 4, 2, 1, 0, 0, 1, 6, 3, 2, 1, 4, 2, 1, 5]), (20, [0, 4], [30, 0, 1, 1, 17, -1, 0, 0])], [(12, (0, 25, 6000, []))], [], [], [], [(12, 5, 1, 1), (12, 1, -4294967296, 6001), (12, 4, -4294967296, 6001), (1, 4, -4294967296, 5999), (1, 5, -4294967296, 5999), (5, 1, -4294967296, 6000), (5, 4, -4294967296, 6000)])
theorem oo_Ro_readWay_2 {kA : Nat → ClassId} : or_ok kA GG o_Ro_readWay_2 := by
  intro A ta ws vs hD hth hl hk hds hf
  have hl : vs.length = 13 := hl
  have hk : ∀ q ∈ ([(0, (2, 0, 0, [9])), (1, (0, 0, 5999, [])), (4, (0, 0, 5999, [])), (5, (0, 24, 6000, [])), (6, (0, 6000, 6000, [])), (7, (0, 0, 5999, [])), (10, (0, 24, 24, [])), (11, (0, 1, 1, [])), (12, (0, 25, 6001, []))] : List (Nat × tv_T)), tv_ok ta q.2 (n_v vs q.1) := hk
  obtain ⟨t0, hk⟩ := List.forall_mem_cons.mp hk
  have t0 : tv_ok ta (2, 0, 0, [9]) (n_v vs 0) := t0
  have r0 : ta (v_ad (n_v vs 0)) = some 9 := tv_rg t0
  obtain ⟨t1, hk⟩ := List.forall_mem_cons.mp hk
  have t1 : tv_ok ta (0, 0, 5999, []) (n_v vs 1) := t1
  have k1 : 0 ≤ v_iv (n_v vs 1) ∧ v_iv (n_v vs 1) ≤ 5999 := tv_rng t1
  obtain ⟨t4, hk⟩ := List.forall_mem_cons.mp hk
  have t4 : tv_ok ta (0, 0, 5999, []) (n_v vs 4) := t4
  have k4 : 0 ≤ v_iv (n_v vs 4) ∧ v_iv (n_v vs 4) ≤ 5999 := tv_rng t4
  obtain ⟨t5, hk⟩ := List.forall_mem_cons.mp hk
  have t5 : tv_ok ta (0, 24, 6000, []) (n_v vs 5) := t5
  have k5 : 24 ≤ v_iv (n_v vs 5) ∧ v_iv (n_v vs 5) ≤ 6000 := tv_rng t5
  obtain ⟨t6, hk⟩ := List.forall_mem_cons.mp hk
  have t6 : tv_ok ta (0, 6000, 6000, []) (n_v vs 6) := t6
  have k6 : 6000 ≤ v_iv (n_v vs 6) ∧ v_iv (n_v vs 6) ≤ 6000 := tv_rng t6
  obtain ⟨t7, hk⟩ := List.forall_mem_cons.mp hk
  have t7 : tv_ok ta (0, 0, 5999, []) (n_v vs 7) := t7
  have k7 : 0 ≤ v_iv (n_v vs 7) ∧ v_iv (n_v vs 7) ≤ 5999 := tv_rng t7
  obtain ⟨t10, hk⟩ := List.forall_mem_cons.mp hk
  have t10 : tv_ok ta (0, 24, 24, []) (n_v vs 10) := t10
  have k10 : 24 ≤ v_iv (n_v vs 10) ∧ v_iv (n_v vs 10) ≤ 24 := tv_rng t10
  obtain ⟨t11, hk⟩ := List.forall_mem_cons.mp hk
  have t11 : tv_ok ta (0, 1, 1, []) (n_v vs 11) := t11
  have k11 : 1 ≤ v_iv (n_v vs 11) ∧ v_iv (n_v vs 11) ≤ 1 := tv_rng t11
  obtain ⟨t12, hk⟩ := List.forall_mem_cons.mp hk
  have t12 : tv_ok ta (0, 25, 6001, []) (n_v vs 12) := t12
  have k12 : 25 ≤ v_iv (n_v vs 12) ∧ v_iv (n_v vs 12) ≤ 6001 := tv_rng t12
  have hds : ∀ q ∈ ([(12, 5, 1, 1), (12, 1, -4294967296, 6001), (12, 4, -4294967296, 6001), (1, 4, -4294967296, 5999), (1, 5, -4294967296, 5999), (5, 1, -4294967296, 6000), (5, 4, -4294967296, 6000)] : List of_T), n_iv vs q.2.1 + q.2.2.1 ≤ n_iv vs q.1 ∧ n_iv vs q.1 ≤ n_iv vs q.2.1 + q.2.2.2 := hds
  obtain ⟨d0, hds⟩ := List.forall_mem_cons.mp hds
  have d0 : v_iv (n_v vs 5) + 1 ≤ v_iv (n_v vs 12) ∧ v_iv (n_v vs 12) ≤ v_iv (n_v vs 5) + 1 := d0
  obtain ⟨d1, hds⟩ := List.forall_mem_cons.mp hds
  have d1 : v_iv (n_v vs 1) + (-4294967296) ≤ v_iv (n_v vs 12) ∧ v_iv (n_v vs 12) ≤ v_iv (n_v vs 1) + 6001 := d1
  obtain ⟨d2, hds⟩ := List.forall_mem_cons.mp hds
  have d2 : v_iv (n_v vs 4) + (-4294967296) ≤ v_iv (n_v vs 12) ∧ v_iv (n_v vs 12) ≤ v_iv (n_v vs 4) + 6001 := d2
  obtain ⟨d3, hds⟩ := List.forall_mem_cons.mp hds
  have d3 : v_iv (n_v vs 4) + (-4294967296) ≤ v_iv (n_v vs 1) ∧ v_iv (n_v vs 1) ≤ v_iv (n_v vs 4) + 5999 := d3
  obtain ⟨d4, hds⟩ := List.forall_mem_cons.mp hds
  have d4 : v_iv (n_v vs 5) + (-4294967296) ≤ v_iv (n_v vs 1) ∧ v_iv (n_v vs 1) ≤ v_iv (n_v vs 5) + 5999 := d4
  obtain ⟨d5, hds⟩ := List.forall_mem_cons.mp hds
  have d5 : v_iv (n_v vs 1) + (-4294967296) ≤ v_iv (n_v vs 5) ∧ v_iv (n_v vs 5) ≤ v_iv (n_v vs 1) + 6000 := d5
  obtain ⟨d6, hds⟩ := List.forall_mem_cons.mp hds
  have d6 : v_iv (n_v vs 4) + (-4294967296) ≤ v_iv (n_v vs 5) ∧ v_iv (n_v vs 5) ≤ v_iv (n_v vs 4) + 6000 := d6
  have hf : fc_ok [(1, [12, 5, 11], []), (9, [5, 0], [17]), (7, [5, 10], [3]), (7, [1, 7], [1]), (9, [7, 0], [7]), (7, [4, 6], [2]), (20, [0], [50, 2, 0, 4, 5, 2, 7, 0, 2, 0, 1, 2, 0, 4, 2, 7, 0, 2, 0, 1, 2, 0, 5, 0, 8, 6, 3, 2, 0, 4, 2, 0, 5, 0, 6000]), (20, [1, 0], [50, 2, 0, 1004, 1005, 0, 6, 4, 2, 1, 0, 0, 1, 6, 3, 2, 1, 4, 2, 1, 5]), (20, [0, 4], [30, 0, 1, 1, 17, -1, 0, 0])] ta ws vs := hf
  obtain ⟨f0, hf⟩ := fc_un (show (1 : Nat) < 100 from by decide) hf
  have f0 : v_iv (n_v vs 12) = v_iv (n_v vs 5) + v_iv (n_v vs 11) := f0
  obtain ⟨f1, hf⟩ := fc_un (show (9 : Nat) < 100 from by decide) hf
  have f1 : n_v vs 5 = w_fd ws (v_ad (n_v vs 0)) 17 := f1
  obtain ⟨f2, hf⟩ := fc_un (show (7 : Nat) < 100 from by decide) hf
  have f2 : v_iv (n_v vs 10) ≤ v_iv (n_v vs 5) := f2
  obtain ⟨f3, hf⟩ := fc_un (show (7 : Nat) < 100 from by decide) hf
  have f3 : v_iv (n_v vs 1) ≠ v_iv (n_v vs 7) := f3
  obtain ⟨f4, hf⟩ := fc_un (show (9 : Nat) < 100 from by decide) hf
  have f4 : n_v vs 7 = w_fd ws (v_ad (n_v vs 0)) 7 := f4
  obtain ⟨f5, hf⟩ := fc_un (show (7 : Nat) < 100 from by decide) hf
  have f5 : v_iv (n_v vs 4) < v_iv (n_v vs 6) := f5
  obtain ⟨f6, hf⟩ := fc_un (show (20 : Nat) < 100 from by decide) hf
  have f6 : (1 ≤ w_fi ws (n_v vs 0) 4) ∧ ((1 ≤ w_fi ws (n_v vs 0) 5) ∧ ((w_fi ws (n_v vs 0) 4 * w_fi ws (n_v vs 0) 5) ≤ 6000)) := f6
  obtain ⟨f7, hf⟩ := fc_un (show (20 : Nat) < 100 from by decide) hf
  have f7 : (v_iv (n_v vs 1) + 1) ≤ (w_fi ws (n_v vs 0) 4 * w_fi ws (n_v vs 0) 5) := f7
  obtain ⟨f8, hf⟩ := fc_un (show (20 : Nat) < 100 from by decide) hf
  have f8 : 1 * w_fi ws (n_v vs 0) 17 + ((-1) * v_iv (n_v vs 4) + 0) ≤ 0 := f8
  have g1 : v_iv (n_v vs 5) = w_fi ws (n_v vs 0) 17 := congrArg v_iv f1
  have g4 : v_iv (n_v vs 7) = w_fi ws (n_v vs 0) 7 := congrArg v_iv f4
  have kz_0_4 : (-2147483648) ≤ w_fi ws (n_v vs 0) 4 ∧ w_fi ws (n_v vs 0) 4 ≤ 2147483647 := tv_rng (th_fd hD hth r0 (g := GG_9) rfl (k := 4) (t := (0, -2147483648, 2147483647, [])) rfl rfl)
  have kz_0_5 : (-2147483648) ≤ w_fi ws (n_v vs 0) 5 ∧ w_fi ws (n_v vs 0) 5 ≤ 2147483647 := tv_rng (th_fd hD hth r0 (g := GG_9) rfl (k := 5) (t := (0, -2147483648, 2147483647, [])) rfl rfl)
  have kz_0_7 : 0 ≤ w_fi ws (n_v vs 0) 7 ∧ w_fi ws (n_v vs 0) 7 ≤ 5999 := tv_rng (th_fd hD hth r0 (g := GG_9) rfl (k := 7) (t := (0, 0, 5999, [])) rfl rfl)
  have kz_0_17 : 0 ≤ w_fi ws (n_v vs 0) 17 ∧ w_fi ws (n_v vs 0) 17 ≤ 6000 := tv_rng (th_fd hD hth r0 (g := GG_9) rfl (k := 17) (t := (0, 0, 6000, [])) rfl rfl)
  have rf12 : tv_ok ta (0, 25, 6000, []) (n_v vs 12) := tv_in t12 (by first | omega | grind) (by first | omega | grind)
  refine ⟨List.forall_mem_cons.mpr ⟨rf12, (fun _ h => (by cases h))⟩, [], trivial, ?_, (fun _ h => (by cases h))⟩
  rw [List.append_nil]
  exact (fun _ h => (by cases h))
def o_Ro_readWay_3 : or_T := (15, 21, [(0, (2, 0, 0, [9])), (1, (0, 0, 5999, [])), (4, (0, 0, 5999, [])), (5, (0, 24, 6000, [])), (6, (0, 6000, 6000, [])), (7, (0, 0, 5999, [])), (10, (0, 24, 24, [])), (11, (0, 1, 1, [])), (12, (0, 25, 6000, [])), (13, (0, 0, 5999, [])), (14, (0, -1, -1, [])), (20, (0, 1, 6000, []))], [(6, [20, 4], [1]), (7, [13, 14], [1]), (20, [13, 0], [50, 2, 0, 1004, 1005, 3, 6, 1, 2, 1, 0, 0, -1, 2, 6, 0, 2, 0, 0, 1, 0, 0, 6, 4, 2, 1, 0, 0, 1, 6, 3, 2, 1, 4, 2, 1, 5]), (20, [0], [50, 2, 0, 4, 5, 2, 7, 0, 2, 0, 1, 2, 0, 4, 2, 7, 0, 2, 0, 1, 2, 0, 5, 0, 8, 6, 3, 2, 0, 4, 2, 0, 5, 0, 6000]), (20, [1, 0], [50, 2, 0, 1004, 1005, 0, 6, 4, 2, 1, 0, 0, 1, 6, 3, 2, 1, 4, 2, 1, 5]), (101, [0, 12], [17]), (1, [12, 5, 11], []), (9, [5, 0], [17]), (7, [5, 10], [3]), (7, [1, 7], [1]), (9, [7, 0], [7]), (7, [4, 6], [2]), (20, [0], [50, 2, 0, 4, 5, 2, 7, 0, 2, 0, 1, 2, 0, 4, 2, 7, 0, 2, 0, 1, 2, 0, 5, 0, 8, 6, 3, 2, 0, 4, 2, 0, 5, 0, 6000]), (20, [1, 0], [50, 2, 0, 1004, 1005, 0, 6, 4, 2, 1, 0, 0, 1, 6, 3, 2, 1, 4, 2, 1, 5]), (20, [0, 4], [30, 0, 1, 1, 17, -1, 0, 0])], [], [], [(20, [13, 0], [50, 2, 0, 1004, 1005, 0, 6, 4, 2, 1, 0, 0, 1, 6, 3, 2, 1, 4, 2, 1, 5]), (20, [0, 20], [30, 0, 1, 1, 17, -1, 0, 0])], [], [(20, 4, 1, 1), (12, 5, 1, 1), (12, 1, -4294967296, 6001), (12, 4, -4294967296, 6001), (1, 4, -4294967296, 5999), (1, 5, -4294967296, 5999), (5, 1, -4294967296, 6000), (5, 4, -4294967296, 6000)])
theorem oo_Ro_readWay_3 {kA : Nat → ClassId} : or_ok kA GG o_Ro_readWay_3 := by
  intro A ta ws vs hD hth hl hk hds hf
  have hl : vs.length = 21 := hl
  have hk : ∀ q ∈ ([(0, (2, 0, 0, [9])), (1, (0, 0, 5999, [])), (4, (0, 0, 5999, [])), (5, (0, 24, 6000, [])), (6, (0, 6000, 6000, [])), (7, (0, 0, 5999, [])), (10, (0, 24, 24, [])), (11, (0, 1, 1, [])), (12, (0, 25, 6000, [])), (13, (0, 0, 5999, [])), (14, (0, -1, -1, [])), (20, (0, 1, 6000, []))] : List (Nat × tv_T)), tv_ok ta q.2 (n_v vs q.1) := hk
  obtain ⟨t0, hk⟩ := List.forall_mem_cons.mp hk
  have t0 : tv_ok ta (2, 0, 0, [9]) (n_v vs 0) := t0
  have r0 : ta (v_ad (n_v vs 0)) = some 9 := tv_rg t0
  obtain ⟨t1, hk⟩ := List.forall_mem_cons.mp hk
  have t1 : tv_ok ta (0, 0, 5999, []) (n_v vs 1) := t1
  have k1 : 0 ≤ v_iv (n_v vs 1) ∧ v_iv (n_v vs 1) ≤ 5999 := tv_rng t1
  obtain ⟨t4, hk⟩ := List.forall_mem_cons.mp hk
  have t4 : tv_ok ta (0, 0, 5999, []) (n_v vs 4) := t4
  have k4 : 0 ≤ v_iv (n_v vs 4) ∧ v_iv (n_v vs 4) ≤ 5999 := tv_rng t4
  obtain ⟨t5, hk⟩ := List.forall_mem_cons.mp hk
  have t5 : tv_ok ta (0, 24, 6000, []) (n_v vs 5) := t5
  have k5 : 24 ≤ v_iv (n_v vs 5) ∧ v_iv (n_v vs 5) ≤ 6000 := tv_rng t5
  obtain ⟨t6, hk⟩ := List.forall_mem_cons.mp hk
  have t6 : tv_ok ta (0, 6000, 6000, []) (n_v vs 6) := t6
  have k6 : 6000 ≤ v_iv (n_v vs 6) ∧ v_iv (n_v vs 6) ≤ 6000 := tv_rng t6
  obtain ⟨t7, hk⟩ := List.forall_mem_cons.mp hk
  have t7 : tv_ok ta (0, 0, 5999, []) (n_v vs 7) := t7
  have k7 : 0 ≤ v_iv (n_v vs 7) ∧ v_iv (n_v vs 7) ≤ 5999 := tv_rng t7
  obtain ⟨t10, hk⟩ := List.forall_mem_cons.mp hk
  have t10 : tv_ok ta (0, 24, 24, []) (n_v vs 10) := t10
  have k10 : 24 ≤ v_iv (n_v vs 10) ∧ v_iv (n_v vs 10) ≤ 24 := tv_rng t10
  obtain ⟨t11, hk⟩ := List.forall_mem_cons.mp hk
  have t11 : tv_ok ta (0, 1, 1, []) (n_v vs 11) := t11
  have k11 : 1 ≤ v_iv (n_v vs 11) ∧ v_iv (n_v vs 11) ≤ 1 := tv_rng t11
  obtain ⟨t12, hk⟩ := List.forall_mem_cons.mp hk
  have t12 : tv_ok ta (0, 25, 6000, []) (n_v vs 12) := t12
  have k12 : 25 ≤ v_iv (n_v vs 12) ∧ v_iv (n_v vs 12) ≤ 6000 := tv_rng t12
  obtain ⟨t13, hk⟩ := List.forall_mem_cons.mp hk
  have t13 : tv_ok ta (0, 0, 5999, []) (n_v vs 13) := t13
  have k13 : 0 ≤ v_iv (n_v vs 13) ∧ v_iv (n_v vs 13) ≤ 5999 := tv_rng t13
  obtain ⟨t14, hk⟩ := List.forall_mem_cons.mp hk
  have t14 : tv_ok ta (0, -1, -1, []) (n_v vs 14) := t14
  have k14 : (-1) ≤ v_iv (n_v vs 14) ∧ v_iv (n_v vs 14) ≤ (-1) := tv_rng t14
  obtain ⟨t20, hk⟩ := List.forall_mem_cons.mp hk
  have t20 : tv_ok ta (0, 1, 6000, []) (n_v vs 20) := t20
  have k20 : 1 ≤ v_iv (n_v vs 20) ∧ v_iv (n_v vs 20) ≤ 6000 := tv_rng t20
  have hds : ∀ q ∈ ([(20, 4, 1, 1), (12, 5, 1, 1), (12, 1, -4294967296, 6001), (12, 4, -4294967296, 6001), (1, 4, -4294967296, 5999), (1, 5, -4294967296, 5999), (5, 1, -4294967296, 6000), (5, 4, -4294967296, 6000)] : List of_T), n_iv vs q.2.1 + q.2.2.1 ≤ n_iv vs q.1 ∧ n_iv vs q.1 ≤ n_iv vs q.2.1 + q.2.2.2 := hds
  obtain ⟨d0, hds⟩ := List.forall_mem_cons.mp hds
  have d0 : v_iv (n_v vs 4) + 1 ≤ v_iv (n_v vs 20) ∧ v_iv (n_v vs 20) ≤ v_iv (n_v vs 4) + 1 := d0
  obtain ⟨d1, hds⟩ := List.forall_mem_cons.mp hds
  have d1 : v_iv (n_v vs 5) + 1 ≤ v_iv (n_v vs 12) ∧ v_iv (n_v vs 12) ≤ v_iv (n_v vs 5) + 1 := d1
  obtain ⟨d2, hds⟩ := List.forall_mem_cons.mp hds
  have d2 : v_iv (n_v vs 1) + (-4294967296) ≤ v_iv (n_v vs 12) ∧ v_iv (n_v vs 12) ≤ v_iv (n_v vs 1) + 6001 := d2
  obtain ⟨d3, hds⟩ := List.forall_mem_cons.mp hds
  have d3 : v_iv (n_v vs 4) + (-4294967296) ≤ v_iv (n_v vs 12) ∧ v_iv (n_v vs 12) ≤ v_iv (n_v vs 4) + 6001 := d3
  obtain ⟨d4, hds⟩ := List.forall_mem_cons.mp hds
  have d4 : v_iv (n_v vs 4) + (-4294967296) ≤ v_iv (n_v vs 1) ∧ v_iv (n_v vs 1) ≤ v_iv (n_v vs 4) + 5999 := d4
  obtain ⟨d5, hds⟩ := List.forall_mem_cons.mp hds
  have d5 : v_iv (n_v vs 5) + (-4294967296) ≤ v_iv (n_v vs 1) ∧ v_iv (n_v vs 1) ≤ v_iv (n_v vs 5) + 5999 := d5
  obtain ⟨d6, hds⟩ := List.forall_mem_cons.mp hds
  have d6 : v_iv (n_v vs 1) + (-4294967296) ≤ v_iv (n_v vs 5) ∧ v_iv (n_v vs 5) ≤ v_iv (n_v vs 1) + 6000 := d6
  obtain ⟨d7, hds⟩ := List.forall_mem_cons.mp hds
  have d7 : v_iv (n_v vs 4) + (-4294967296) ≤ v_iv (n_v vs 5) ∧ v_iv (n_v vs 5) ≤ v_iv (n_v vs 4) + 6000 := d7
  have hf : fc_ok [(6, [20, 4], [1]), (7, [13, 14], [1]), (20, [13, 0], [50, 2, 0, 1004, 1005, 3, 6, 1, 2, 1, 0, 0, -1, 2, 6, 0, 2, 0, 0, 1, 0, 0, 6, 4, 2, 1, 0, 0, 1, 6, 3, 2, 1, 4, 2, 1, 5]), (20, [0], [50, 2, 0, 4, 5, 2, 7, 0, 2, 0, 1, 2, 0, 4, 2, 7, 0, 2, 0, 1, 2, 0, 5, 0, 8, 6, 3, 2, 0, 4, 2, 0, 5, 0, 6000]), (20, [1, 0], [50, 2, 0, 1004, 1005, 0, 6, 4, 2, 1, 0, 0, 1, 6, 3, 2, 1, 4, 2, 1, 5]), (101, [0, 12], [17]), (1, [12, 5, 11], []), (9, [5, 0], [17]), (7, [5, 10], [3]), (7, [1, 7], [1]), (9, [7, 0], [7]), (7, [4, 6], [2]), (20, [0], [50, 2, 0, 4, 5, 2, 7, 0, 2, 0, 1, 2, 0, 4, 2, 7, 0, 2, 0, 1, 2, 0, 5, 0, 8, 6, 3, 2, 0, 4, 2, 0, 5, 0, 6000]), (20, [1, 0], [50, 2, 0, 1004, 1005, 0, 6, 4, 2, 1, 0, 0, 1, 6, 3, 2, 1, 4, 2, 1, 5]), (20, [0, 4], [30, 0, 1, 1, 17, -1, 0, 0])] ta ws vs := hf
  obtain ⟨f0, hf⟩ := fc_un (show (6 : Nat) < 100 from by decide) hf
  have f0 : v_iv (n_v vs 20) = v_iv (n_v vs 4) + 1 := f0
  obtain ⟨f1, hf⟩ := fc_un (show (7 : Nat) < 100 from by decide) hf
  have f1 : v_iv (n_v vs 13) ≠ v_iv (n_v vs 14) := f1
  obtain ⟨f2, hf⟩ := fc_un (show (20 : Nat) < 100 from by decide) hf
  have f2 : (v_iv (n_v vs 13) = (-1)) ∨ ((0 ≤ v_iv (n_v vs 13)) ∧ ((v_iv (n_v vs 13) + 1) ≤ (w_fi ws (n_v vs 0) 4 * w_fi ws (n_v vs 0) 5))) := f2
  obtain ⟨f3, hf⟩ := fc_un (show (20 : Nat) < 100 from by decide) hf
  have f3 : (1 ≤ w_fi ws (n_v vs 0) 4) ∧ ((1 ≤ w_fi ws (n_v vs 0) 5) ∧ ((w_fi ws (n_v vs 0) 4 * w_fi ws (n_v vs 0) 5) ≤ 6000)) := f3
  obtain ⟨f4, hf⟩ := fc_un (show (20 : Nat) < 100 from by decide) hf
  have f4 : (v_iv (n_v vs 1) + 1) ≤ (w_fi ws (n_v vs 0) 4 * w_fi ws (n_v vs 0) 5) := f4
  obtain ⟨ta1, w1, le1, ⟨_, s1⟩, hf⟩ := fc_us (show ¬ (101 : Nat) < 100 from by decide) hf
  have s1 : (∀ b j, w_el ws b j = w_el w1 b j) ∧ ∀ b j, w_fd ws b j = if b = v_ad (n_v vs 0) ∧ j = 17 then n_v vs 12 else w_fd w1 b j := s1
  obtain ⟨f6, hf⟩ := fc_un (show (1 : Nat) < 100 from by decide) hf
  have f6 : v_iv (n_v vs 12) = v_iv (n_v vs 5) + v_iv (n_v vs 11) := f6
  obtain ⟨f7, hf⟩ := fc_un (show (9 : Nat) < 100 from by decide) hf
  have f7 : n_v vs 5 = w_fd w1 (v_ad (n_v vs 0)) 17 := f7
  obtain ⟨f8, hf⟩ := fc_un (show (7 : Nat) < 100 from by decide) hf
  have f8 : v_iv (n_v vs 10) ≤ v_iv (n_v vs 5) := f8
  obtain ⟨f9, hf⟩ := fc_un (show (7 : Nat) < 100 from by decide) hf
  have f9 : v_iv (n_v vs 1) ≠ v_iv (n_v vs 7) := f9
  obtain ⟨f10, hf⟩ := fc_un (show (9 : Nat) < 100 from by decide) hf
  have f10 : n_v vs 7 = w_fd w1 (v_ad (n_v vs 0)) 7 := f10
  obtain ⟨f11, hf⟩ := fc_un (show (7 : Nat) < 100 from by decide) hf
  have f11 : v_iv (n_v vs 4) < v_iv (n_v vs 6) := f11
  obtain ⟨f12, hf⟩ := fc_un (show (20 : Nat) < 100 from by decide) hf
  have f12 : (1 ≤ w_fi w1 (n_v vs 0) 4) ∧ ((1 ≤ w_fi w1 (n_v vs 0) 5) ∧ ((w_fi w1 (n_v vs 0) 4 * w_fi w1 (n_v vs 0) 5) ≤ 6000)) := f12
  obtain ⟨f13, hf⟩ := fc_un (show (20 : Nat) < 100 from by decide) hf
  have f13 : (v_iv (n_v vs 1) + 1) ≤ (w_fi w1 (n_v vs 0) 4 * w_fi w1 (n_v vs 0) 5) := f13
  obtain ⟨f14, hf⟩ := fc_un (show (20 : Nat) < 100 from by decide) hf
  have f14 : 1 * w_fi w1 (n_v vs 0) 17 + ((-1) * v_iv (n_v vs 4) + 0) ≤ 0 := f14
  have g7 : v_iv (n_v vs 5) = w_fi w1 (n_v vs 0) 17 := congrArg v_iv f7
  have g10 : v_iv (n_v vs 7) = w_fi w1 (n_v vs 0) 7 := congrArg v_iv f10
  have fe_0_4_1 : w_fi ws (n_v vs 0) 4 = w_fi w1 (n_v vs 0) 4 := by show v_iv (w_fd _ _ _) = v_iv (w_fd _ _ _); rw [s1.2, if_neg (fun e => absurd e.2 (by decide))]
  have fe_0_5_1 : w_fi ws (n_v vs 0) 5 = w_fi w1 (n_v vs 0) 5 := by show v_iv (w_fd _ _ _) = v_iv (w_fd _ _ _); rw [s1.2, if_neg (fun e => absurd e.2 (by decide))]
  have fe_0_7_1 : w_fi ws (n_v vs 0) 7 = w_fi w1 (n_v vs 0) 7 := by show v_iv (w_fd _ _ _) = v_iv (w_fd _ _ _); rw [s1.2, if_neg (fun e => absurd e.2 (by decide))]
  have fe_0_17_1 : w_fi ws (n_v vs 0) 17 = v_iv (n_v vs 12) := by show v_iv (w_fd _ _ _) = _; rw [s1.2, if_pos ⟨rfl, rfl⟩]
  have pe_0_4_5_1 : w_fi ws (n_v vs 0) 4 * w_fi ws (n_v vs 0) 5 = w_fi w1 (n_v vs 0) 4 * w_fi w1 (n_v vs 0) 5 := by rw [fe_0_4_1, fe_0_5_1]
  have kz_0_4 : (-2147483648) ≤ w_fi ws (n_v vs 0) 4 ∧ w_fi ws (n_v vs 0) 4 ≤ 2147483647 := tv_rng (th_fd hD hth r0 (g := GG_9) rfl (k := 4) (t := (0, -2147483648, 2147483647, [])) rfl rfl)
  have kz_0_5 : (-2147483648) ≤ w_fi ws (n_v vs 0) 5 ∧ w_fi ws (n_v vs 0) 5 ≤ 2147483647 := tv_rng (th_fd hD hth r0 (g := GG_9) rfl (k := 5) (t := (0, -2147483648, 2147483647, [])) rfl rfl)
  have kz_0_7 : 0 ≤ w_fi ws (n_v vs 0) 7 ∧ w_fi ws (n_v vs 0) 7 ≤ 5999 := tv_rng (th_fd hD hth r0 (g := GG_9) rfl (k := 7) (t := (0, 0, 5999, [])) rfl rfl)
  have kz_0_17 : 0 ≤ w_fi ws (n_v vs 0) 17 ∧ w_fi ws (n_v vs 0) 17 ≤ 6000 := tv_rng (th_fd hD hth r0 (g := GG_9) rfl (k := 17) (t := (0, 0, 6000, [])) rfl rfl)
  have nf0 : fc_1 (20, [13, 0], [50, 2, 0, 1004, 1005, 0, 6, 4, 2, 1, 0, 0, 1, 6, 3, 2, 1, 4, 2, 1, 5]) ws (vs) := by
    refine ⟨fun n hn => ?_, ?_⟩
    · have hn : n ∈ [13, 0] := hn
      rw [hl]
      simp only [List.mem_cons, List.not_mem_nil, or_false] at hn
      show n < 21; omega
    · show (v_iv (n_v vs 13) + 1) ≤ (w_fi ws (n_v vs 0) 4 * w_fi ws (n_v vs 0) 5)
      first | omega | grind
  have nf1 : fc_1 (20, [0, 20], [30, 0, 1, 1, 17, -1, 0, 0]) ws (vs) := by
    refine ⟨fun n hn => ?_, ?_⟩
    · have hn : n ∈ [0, 20] := hn
      rw [hl]
      simp only [List.mem_cons, List.not_mem_nil, or_false] at hn
      show n < 21; omega
    · show 1 * w_fi ws (n_v vs 0) 17 + ((-1) * v_iv (n_v vs 20) + 0) ≤ 0
      omega
  refine ⟨(fun _ h => (by cases h)), [], trivial, ?_, (fun _ h => (by cases h))⟩
  rw [List.append_nil]
  exact List.forall_mem_cons.mpr ⟨⟨show (20 : Nat) < 100 from by decide, nf0⟩, List.forall_mem_cons.mpr ⟨⟨show (20 : Nat) < 100 from by decide, nf1⟩, (fun _ h => (by cases h))⟩⟩
def o_Ro_readWay_4 : or_T := (77, 14, [(0, (2, 0, 0, [9])), (1, (0, 0, 5999, [])), (4, (0, 0, 5999, [])), (5, (0, 0, 23, [])), (6, (0, 6000, 6000, [])), (7, (0, 0, 5999, [])), (10, (0, 24, 24, [])), (13, (0, -2147483648, 2147483647, []))], [(9, [13, 0], [4]), (9, [5, 0], [17]), (7, [5, 10], [2]), (7, [1, 7], [1]), (9, [7, 0], [7]), (7, [4, 6], [2]), (20, [0], [50, 2, 0, 4, 5, 2, 7, 0, 2, 0, 1, 2, 0, 4, 2, 7, 0, 2, 0, 1, 2, 0, 5, 0, 8, 6, 3, 2, 0, 4, 2, 0, 5, 0, 6000]), (20, [1, 0], [50, 2, 0, 1004, 1005, 0, 6, 4, 2, 1, 0, 0, 1, 6, 3, 2, 1, 4, 2, 1, 5]), (20, [0, 4], [30, 0, 1, 1, 17, -1, 0, 0])], [(13, (0, 1, 6000, []))], [], [], [], [(1, 4, -4294967296, 5999), (1, 5, -4294967296, 5999), (5, 1, -4294967296, 6000), (5, 4, -4294967296, 6000)])
theorem oo_Ro_readWay_4 {kA : Nat → ClassId} : or_ok kA GG o_Ro_readWay_4 := by
  intro A ta ws vs hD hth hl hk hds hf
  have hl : vs.length = 14 := hl
  have hk : ∀ q ∈ ([(0, (2, 0, 0, [9])), (1, (0, 0, 5999, [])), (4, (0, 0, 5999, [])), (5, (0, 0, 23, [])), (6, (0, 6000, 6000, [])), (7, (0, 0, 5999, [])), (10, (0, 24, 24, [])), (13, (0, -2147483648, 2147483647, []))] : List (Nat × tv_T)), tv_ok ta q.2 (n_v vs q.1) := hk
  obtain ⟨t0, hk⟩ := List.forall_mem_cons.mp hk
  have t0 : tv_ok ta (2, 0, 0, [9]) (n_v vs 0) := t0
  have r0 : ta (v_ad (n_v vs 0)) = some 9 := tv_rg t0
  obtain ⟨t1, hk⟩ := List.forall_mem_cons.mp hk
  have t1 : tv_ok ta (0, 0, 5999, []) (n_v vs 1) := t1
  have k1 : 0 ≤ v_iv (n_v vs 1) ∧ v_iv (n_v vs 1) ≤ 5999 := tv_rng t1
  obtain ⟨t4, hk⟩ := List.forall_mem_cons.mp hk
  have t4 : tv_ok ta (0, 0, 5999, []) (n_v vs 4) := t4
  have k4 : 0 ≤ v_iv (n_v vs 4) ∧ v_iv (n_v vs 4) ≤ 5999 := tv_rng t4
  obtain ⟨t5, hk⟩ := List.forall_mem_cons.mp hk
  have t5 : tv_ok ta (0, 0, 23, []) (n_v vs 5) := t5
  have k5 : 0 ≤ v_iv (n_v vs 5) ∧ v_iv (n_v vs 5) ≤ 23 := tv_rng t5
  obtain ⟨t6, hk⟩ := List.forall_mem_cons.mp hk
  have t6 : tv_ok ta (0, 6000, 6000, []) (n_v vs 6) := t6
  have k6 : 6000 ≤ v_iv (n_v vs 6) ∧ v_iv (n_v vs 6) ≤ 6000 := tv_rng t6
  obtain ⟨t7, hk⟩ := List.forall_mem_cons.mp hk
  have t7 : tv_ok ta (0, 0, 5999, []) (n_v vs 7) := t7
  have k7 : 0 ≤ v_iv (n_v vs 7) ∧ v_iv (n_v vs 7) ≤ 5999 := tv_rng t7
  obtain ⟨t10, hk⟩ := List.forall_mem_cons.mp hk
  have t10 : tv_ok ta (0, 24, 24, []) (n_v vs 10) := t10
  have k10 : 24 ≤ v_iv (n_v vs 10) ∧ v_iv (n_v vs 10) ≤ 24 := tv_rng t10
  obtain ⟨t13, hk⟩ := List.forall_mem_cons.mp hk
  have t13 : tv_ok ta (0, -2147483648, 2147483647, []) (n_v vs 13) := t13
  have k13 : (-2147483648) ≤ v_iv (n_v vs 13) ∧ v_iv (n_v vs 13) ≤ 2147483647 := tv_rng t13
  have hds : ∀ q ∈ ([(1, 4, -4294967296, 5999), (1, 5, -4294967296, 5999), (5, 1, -4294967296, 6000), (5, 4, -4294967296, 6000)] : List of_T), n_iv vs q.2.1 + q.2.2.1 ≤ n_iv vs q.1 ∧ n_iv vs q.1 ≤ n_iv vs q.2.1 + q.2.2.2 := hds
  obtain ⟨d0, hds⟩ := List.forall_mem_cons.mp hds
  have d0 : v_iv (n_v vs 4) + (-4294967296) ≤ v_iv (n_v vs 1) ∧ v_iv (n_v vs 1) ≤ v_iv (n_v vs 4) + 5999 := d0
  obtain ⟨d1, hds⟩ := List.forall_mem_cons.mp hds
  have d1 : v_iv (n_v vs 5) + (-4294967296) ≤ v_iv (n_v vs 1) ∧ v_iv (n_v vs 1) ≤ v_iv (n_v vs 5) + 5999 := d1
  obtain ⟨d2, hds⟩ := List.forall_mem_cons.mp hds
  have d2 : v_iv (n_v vs 1) + (-4294967296) ≤ v_iv (n_v vs 5) ∧ v_iv (n_v vs 5) ≤ v_iv (n_v vs 1) + 6000 := d2
  obtain ⟨d3, hds⟩ := List.forall_mem_cons.mp hds
  have d3 : v_iv (n_v vs 4) + (-4294967296) ≤ v_iv (n_v vs 5) ∧ v_iv (n_v vs 5) ≤ v_iv (n_v vs 4) + 6000 := d3
  have hf : fc_ok [(9, [13, 0], [4]), (9, [5, 0], [17]), (7, [5, 10], [2]), (7, [1, 7], [1]), (9, [7, 0], [7]), (7, [4, 6], [2]), (20, [0], [50, 2, 0, 4, 5, 2, 7, 0, 2, 0, 1, 2, 0, 4, 2, 7, 0, 2, 0, 1, 2, 0, 5, 0, 8, 6, 3, 2, 0, 4, 2, 0, 5, 0, 6000]), (20, [1, 0], [50, 2, 0, 1004, 1005, 0, 6, 4, 2, 1, 0, 0, 1, 6, 3, 2, 1, 4, 2, 1, 5]), (20, [0, 4], [30, 0, 1, 1, 17, -1, 0, 0])] ta ws vs := hf
  obtain ⟨f0, hf⟩ := fc_un (show (9 : Nat) < 100 from by decide) hf
  have f0 : n_v vs 13 = w_fd ws (v_ad (n_v vs 0)) 4 := f0
  obtain ⟨f1, hf⟩ := fc_un (show (9 : Nat) < 100 from by decide) hf
  have f1 : n_v vs 5 = w_fd ws (v_ad (n_v vs 0)) 17 := f1
  obtain ⟨f2, hf⟩ := fc_un (show (7 : Nat) < 100 from by decide) hf
  have f2 : v_iv (n_v vs 5) < v_iv (n_v vs 10) := f2
  obtain ⟨f3, hf⟩ := fc_un (show (7 : Nat) < 100 from by decide) hf
  have f3 : v_iv (n_v vs 1) ≠ v_iv (n_v vs 7) := f3
  obtain ⟨f4, hf⟩ := fc_un (show (9 : Nat) < 100 from by decide) hf
  have f4 : n_v vs 7 = w_fd ws (v_ad (n_v vs 0)) 7 := f4
  obtain ⟨f5, hf⟩ := fc_un (show (7 : Nat) < 100 from by decide) hf
  have f5 : v_iv (n_v vs 4) < v_iv (n_v vs 6) := f5
  obtain ⟨f6, hf⟩ := fc_un (show (20 : Nat) < 100 from by decide) hf
  have f6 : (1 ≤ w_fi ws (n_v vs 0) 4) ∧ ((1 ≤ w_fi ws (n_v vs 0) 5) ∧ ((w_fi ws (n_v vs 0) 4 * w_fi ws (n_v vs 0) 5) ≤ 6000)) := f6
  obtain ⟨f7, hf⟩ := fc_un (show (20 : Nat) < 100 from by decide) hf
  have f7 : (v_iv (n_v vs 1) + 1) ≤ (w_fi ws (n_v vs 0) 4 * w_fi ws (n_v vs 0) 5) := f7
  obtain ⟨f8, hf⟩ := fc_un (show (20 : Nat) < 100 from by decide) hf
  have f8 : 1 * w_fi ws (n_v vs 0) 17 + ((-1) * v_iv (n_v vs 4) + 0) ≤ 0 := f8
  have g0 : v_iv (n_v vs 13) = w_fi ws (n_v vs 0) 4 := congrArg v_iv f0
  have g1 : v_iv (n_v vs 5) = w_fi ws (n_v vs 0) 17 := congrArg v_iv f1
  have g4 : v_iv (n_v vs 7) = w_fi ws (n_v vs 0) 7 := congrArg v_iv f4
  have kz_0_4 : (-2147483648) ≤ w_fi ws (n_v vs 0) 4 ∧ w_fi ws (n_v vs 0) 4 ≤ 2147483647 := tv_rng (th_fd hD hth r0 (g := GG_9) rfl (k := 4) (t := (0, -2147483648, 2147483647, [])) rfl rfl)
  have kz_0_5 : (-2147483648) ≤ w_fi ws (n_v vs 0) 5 ∧ w_fi ws (n_v vs 0) 5 ≤ 2147483647 := tv_rng (th_fd hD hth r0 (g := GG_9) rfl (k := 5) (t := (0, -2147483648, 2147483647, [])) rfl rfl)
  have kz_0_7 : 0 ≤ w_fi ws (n_v vs 0) 7 ∧ w_fi ws (n_v vs 0) 7 ≤ 5999 := tv_rng (th_fd hD hth r0 (g := GG_9) rfl (k := 7) (t := (0, 0, 5999, [])) rfl rfl)
  have kz_0_17 : 0 ≤ w_fi ws (n_v vs 0) 17 ∧ w_fi ws (n_v vs 0) 17 ≤ 6000 := tv_rng (th_fd hD hth r0 (g := GG_9) rfl (k := 17) (t := (0, 0, 6000, [])) rfl rfl)
  have g1 := grid_bd (w := w_fi ws (n_v vs 0) 4) (h := w_fi ws (n_v vs 0) 5) (by omega) (by omega) (by omega)
  have rf13 : tv_ok ta (0, 1, 6000, []) (n_v vs 13) := tv_in t13 (by first | omega | grind) (by first | omega | grind)
  refine ⟨List.forall_mem_cons.mpr ⟨rf13, (fun _ h => (by cases h))⟩, [], trivial, ?_, (fun _ h => (by cases h))⟩
  rw [List.append_nil]
  exact (fun _ h => (by cases h))
def o_Ro_readWay_5 : or_T := (15, 30, [(0, (2, 0, 0, [9])), (1, (0, 0, 5999, [])), (4, (0, 0, 5999, [])), (5, (0, 0, 23, [])), (6, (0, 6000, 6000, [])), (7, (0, 0, 5999, [])), (10, (0, 24, 24, [])), (11, (2, 0, 0, [116])), (13, (0, 1, 6000, [])), (16, (2, 0, 0, [117])), (20, (0, 1, 1, [])), (21, (0, 1, 24, [])), (22, (0, 0, 5999, [])), (23, (0, -1, -1, [])), (29, (0, 1, 6000, []))], [(6, [29, 4], [1]), (7, [22, 23], [1]), (20, [22, 0], [50, 2, 0, 1004, 1005, 3, 6, 1, 2, 1, 0, 0, -1, 2, 6, 0, 2, 0, 0, 1, 0, 0, 6, 4, 2, 1, 0, 0, 1, 6, 3, 2, 1, 4, 2, 1, 5]), (20, [0], [50, 2, 0, 4, 5, 2, 7, 0, 2, 0, 1, 2, 0, 4, 2, 7, 0, 2, 0, 1, 2, 0, 5, 0, 8, 6, 3, 2, 0, 4, 2, 0, 5, 0, 6000]), (20, [1, 0], [50, 2, 0, 1004, 1005, 0, 6, 4, 2, 1, 0, 0, 1, 6, 3, 2, 1, 4, 2, 1, 5]), (101, [0, 21], [17]), (1, [21, 5, 20], []), (9, [5, 0], [17]), (20, [0], [50, 2, 0, 4, 5, 2, 7, 0, 2, 0, 1, 2, 0, 4, 2, 7, 0, 2, 0, 1, 2, 0, 5, 0, 8, 6, 3, 2, 0, 4, 2, 0, 5, 0, 6000]), (20, [1, 0], [50, 2, 0, 1004, 1005, 0, 6, 4, 2, 1, 0, 0, 1, 6, 3, 2, 1, 4, 2, 1, 5]), (20, [0, 4], [30, 0, 1, 1, 17, -1, 0, 0]), (100, [16, 5, 19], []), (9, [13, 0], [4]), (9, [16, 0], [16]), (20, [0], [50, 2, 0, 4, 5, 2, 7, 0, 2, 0, 1, 2, 0, 4, 2, 7, 0, 2, 0, 1, 2, 0, 5, 0, 8, 6, 3, 2, 0, 4, 2, 0, 5, 0, 6000]), (20, [1, 0], [50, 2, 0, 1004, 1005, 0, 6, 4, 2, 1, 0, 0, 1, 6, 3, 2, 1, 4, 2, 1, 5]), (20, [0, 4], [30, 0, 1, 1, 17, -1, 0, 0]), (100, [11, 5, 15], []), (9, [11, 0], [15]), (7, [5, 10], [2]), (7, [1, 7], [1]), (9, [7, 0], [7]), (7, [4, 6], [2]), (20, [0], [50, 2, 0, 4, 5, 2, 7, 0, 2, 0, 1, 2, 0, 4, 2, 7, 0, 2, 0, 1, 2, 0, 5, 0, 8, 6, 3, 2, 0, 4, 2, 0, 5, 0, 6000]), (20, [1, 0], [50, 2, 0, 1004, 1005, 0, 6, 4, 2, 1, 0, 0, 1, 6, 3, 2, 1, 4, 2, 1, 5]), (20, [0, 4], [30, 0, 1, 1, 17, -1, 0, 0])], [], [], [(20, [22, 0], [50, 2, 0, 1004, 1005, 0, 6, 4, 2, 1, 0, 0, 1, 6, 3, 2, 1, 4, 2, 1, 5]), (20, [0, 29], [30, 0, 1, 1, 17, -1, 0, 0])], [], [(29, 4, 1, 1), (21, 5, 1, 1), (21, 1, -4294967296, 6001), (21, 4, -4294967296, 6001), (1, 4, -4294967296, 5999), (1, 5, -4294967296, 5999), (5, 1, -4294967296, 6000), (5, 4, -4294967296, 6000)])
theorem oo_Ro_readWay_5 {kA : Nat → ClassId} : or_ok kA GG o_Ro_readWay_5 := by
  intro A ta ws vs hD hth hl hk hds hf
  have hl : vs.length = 30 := hl
  have hk : ∀ q ∈ ([(0, (2, 0, 0, [9])), (1, (0, 0, 5999, [])), (4, (0, 0, 5999, [])), (5, (0, 0, 23, [])), (6, (0, 6000, 6000, [])), (7, (0, 0, 5999, [])), (10, (0, 24, 24, [])), (11, (2, 0, 0, [116])), (13, (0, 1, 6000, [])), (16, (2, 0, 0, [117])), (20, (0, 1, 1, [])), (21, (0, 1, 24, [])), (22, (0, 0, 5999, [])), (23, (0, -1, -1, [])), (29, (0, 1, 6000, []))] : List (Nat × tv_T)), tv_ok ta q.2 (n_v vs q.1) := hk
  obtain ⟨t0, hk⟩ := List.forall_mem_cons.mp hk
  have t0 : tv_ok ta (2, 0, 0, [9]) (n_v vs 0) := t0
  have r0 : ta (v_ad (n_v vs 0)) = some 9 := tv_rg t0
  obtain ⟨t1, hk⟩ := List.forall_mem_cons.mp hk
  have t1 : tv_ok ta (0, 0, 5999, []) (n_v vs 1) := t1
  have k1 : 0 ≤ v_iv (n_v vs 1) ∧ v_iv (n_v vs 1) ≤ 5999 := tv_rng t1
  obtain ⟨t4, hk⟩ := List.forall_mem_cons.mp hk
  have t4 : tv_ok ta (0, 0, 5999, []) (n_v vs 4) := t4
  have k4 : 0 ≤ v_iv (n_v vs 4) ∧ v_iv (n_v vs 4) ≤ 5999 := tv_rng t4
  obtain ⟨t5, hk⟩ := List.forall_mem_cons.mp hk
  have t5 : tv_ok ta (0, 0, 23, []) (n_v vs 5) := t5
  have k5 : 0 ≤ v_iv (n_v vs 5) ∧ v_iv (n_v vs 5) ≤ 23 := tv_rng t5
  obtain ⟨t6, hk⟩ := List.forall_mem_cons.mp hk
  have t6 : tv_ok ta (0, 6000, 6000, []) (n_v vs 6) := t6
  have k6 : 6000 ≤ v_iv (n_v vs 6) ∧ v_iv (n_v vs 6) ≤ 6000 := tv_rng t6
  obtain ⟨t7, hk⟩ := List.forall_mem_cons.mp hk
  have t7 : tv_ok ta (0, 0, 5999, []) (n_v vs 7) := t7
  have k7 : 0 ≤ v_iv (n_v vs 7) ∧ v_iv (n_v vs 7) ≤ 5999 := tv_rng t7
  obtain ⟨t10, hk⟩ := List.forall_mem_cons.mp hk
  have t10 : tv_ok ta (0, 24, 24, []) (n_v vs 10) := t10
  have k10 : 24 ≤ v_iv (n_v vs 10) ∧ v_iv (n_v vs 10) ≤ 24 := tv_rng t10
  obtain ⟨t11, hk⟩ := List.forall_mem_cons.mp hk
  have t11 : tv_ok ta (2, 0, 0, [116]) (n_v vs 11) := t11
  have r11 : ta (v_ad (n_v vs 11)) = some 116 := tv_rg t11
  obtain ⟨t13, hk⟩ := List.forall_mem_cons.mp hk
  have t13 : tv_ok ta (0, 1, 6000, []) (n_v vs 13) := t13
  have k13 : 1 ≤ v_iv (n_v vs 13) ∧ v_iv (n_v vs 13) ≤ 6000 := tv_rng t13
  obtain ⟨t16, hk⟩ := List.forall_mem_cons.mp hk
  have t16 : tv_ok ta (2, 0, 0, [117]) (n_v vs 16) := t16
  have r16 : ta (v_ad (n_v vs 16)) = some 117 := tv_rg t16
  obtain ⟨t20, hk⟩ := List.forall_mem_cons.mp hk
  have t20 : tv_ok ta (0, 1, 1, []) (n_v vs 20) := t20
  have k20 : 1 ≤ v_iv (n_v vs 20) ∧ v_iv (n_v vs 20) ≤ 1 := tv_rng t20
  obtain ⟨t21, hk⟩ := List.forall_mem_cons.mp hk
  have t21 : tv_ok ta (0, 1, 24, []) (n_v vs 21) := t21
  have k21 : 1 ≤ v_iv (n_v vs 21) ∧ v_iv (n_v vs 21) ≤ 24 := tv_rng t21
  obtain ⟨t22, hk⟩ := List.forall_mem_cons.mp hk
  have t22 : tv_ok ta (0, 0, 5999, []) (n_v vs 22) := t22
  have k22 : 0 ≤ v_iv (n_v vs 22) ∧ v_iv (n_v vs 22) ≤ 5999 := tv_rng t22
  obtain ⟨t23, hk⟩ := List.forall_mem_cons.mp hk
  have t23 : tv_ok ta (0, -1, -1, []) (n_v vs 23) := t23
  have k23 : (-1) ≤ v_iv (n_v vs 23) ∧ v_iv (n_v vs 23) ≤ (-1) := tv_rng t23
  obtain ⟨t29, hk⟩ := List.forall_mem_cons.mp hk
  have t29 : tv_ok ta (0, 1, 6000, []) (n_v vs 29) := t29
  have k29 : 1 ≤ v_iv (n_v vs 29) ∧ v_iv (n_v vs 29) ≤ 6000 := tv_rng t29
  have hds : ∀ q ∈ ([(29, 4, 1, 1), (21, 5, 1, 1), (21, 1, -4294967296, 6001), (21, 4, -4294967296, 6001), (1, 4, -4294967296, 5999), (1, 5, -4294967296, 5999), (5, 1, -4294967296, 6000), (5, 4, -4294967296, 6000)] : List of_T), n_iv vs q.2.1 + q.2.2.1 ≤ n_iv vs q.1 ∧ n_iv vs q.1 ≤ n_iv vs q.2.1 + q.2.2.2 := hds
  obtain ⟨d0, hds⟩ := List.forall_mem_cons.mp hds
  have d0 : v_iv (n_v vs 4) + 1 ≤ v_iv (n_v vs 29) ∧ v_iv (n_v vs 29) ≤ v_iv (n_v vs 4) + 1 := d0
  obtain ⟨d1, hds⟩ := List.forall_mem_cons.mp hds
  have d1 : v_iv (n_v vs 5) + 1 ≤ v_iv (n_v vs 21) ∧ v_iv (n_v vs 21) ≤ v_iv (n_v vs 5) + 1 := d1
  obtain ⟨d2, hds⟩ := List.forall_mem_cons.mp hds
  have d2 : v_iv (n_v vs 1) + (-4294967296) ≤ v_iv (n_v vs 21) ∧ v_iv (n_v vs 21) ≤ v_iv (n_v vs 1) + 6001 := d2
  obtain ⟨d3, hds⟩ := List.forall_mem_cons.mp hds
  have d3 : v_iv (n_v vs 4) + (-4294967296) ≤ v_iv (n_v vs 21) ∧ v_iv (n_v vs 21) ≤ v_iv (n_v vs 4) + 6001 := d3
  obtain ⟨d4, hds⟩ := List.forall_mem_cons.mp hds
  have d4 : v_iv (n_v vs 4) + (-4294967296) ≤ v_iv (n_v vs 1) ∧ v_iv (n_v vs 1) ≤ v_iv (n_v vs 4) + 5999 := d4
  obtain ⟨d5, hds⟩ := List.forall_mem_cons.mp hds
  have d5 : v_iv (n_v vs 5) + (-4294967296) ≤ v_iv (n_v vs 1) ∧ v_iv (n_v vs 1) ≤ v_iv (n_v vs 5) + 5999 := d5
  obtain ⟨d6, hds⟩ := List.forall_mem_cons.mp hds
  have d6 : v_iv (n_v vs 1) + (-4294967296) ≤ v_iv (n_v vs 5) ∧ v_iv (n_v vs 5) ≤ v_iv (n_v vs 1) + 6000 := d6
  obtain ⟨d7, hds⟩ := List.forall_mem_cons.mp hds
  have d7 : v_iv (n_v vs 4) + (-4294967296) ≤ v_iv (n_v vs 5) ∧ v_iv (n_v vs 5) ≤ v_iv (n_v vs 4) + 6000 := d7
  have hf : fc_ok [(6, [29, 4], [1]), (7, [22, 23], [1]), (20, [22, 0], [50, 2, 0, 1004, 1005, 3, 6, 1, 2, 1, 0, 0, -1, 2, 6, 0, 2, 0, 0, 1, 0, 0, 6, 4, 2, 1, 0, 0, 1, 6, 3, 2, 1, 4, 2, 1, 5]), (20, [0], [50, 2, 0, 4, 5, 2, 7, 0, 2, 0, 1, 2, 0, 4, 2, 7, 0, 2, 0, 1, 2, 0, 5, 0, 8, 6, 3, 2, 0, 4, 2, 0, 5, 0, 6000]), (20, [1, 0], [50, 2, 0, 1004, 1005, 0, 6, 4, 2, 1, 0, 0, 1, 6, 3, 2, 1, 4, 2, 1, 5]), (101, [0, 21], [17]), (1, [21, 5, 20], []), (9, [5, 0], [17]), (20, [0], [50, 2, 0, 4, 5, 2, 7, 0, 2, 0, 1, 2, 0, 4, 2, 7, 0, 2, 0, 1, 2, 0, 5, 0, 8, 6, 3, 2, 0, 4, 2, 0, 5, 0, 6000]), (20, [1, 0], [50, 2, 0, 1004, 1005, 0, 6, 4, 2, 1, 0, 0, 1, 6, 3, 2, 1, 4, 2, 1, 5]), (20, [0, 4], [30, 0, 1, 1, 17, -1, 0, 0]), (100, [16, 5, 19], []), (9, [13, 0], [4]), (9, [16, 0], [16]), (20, [0], [50, 2, 0, 4, 5, 2, 7, 0, 2, 0, 1, 2, 0, 4, 2, 7, 0, 2, 0, 1, 2, 0, 5, 0, 8, 6, 3, 2, 0, 4, 2, 0, 5, 0, 6000]), (20, [1, 0], [50, 2, 0, 1004, 1005, 0, 6, 4, 2, 1, 0, 0, 1, 6, 3, 2, 1, 4, 2, 1, 5]), (20, [0, 4], [30, 0, 1, 1, 17, -1, 0, 0]), (100, [11, 5, 15], []), (9, [11, 0], [15]), (7, [5, 10], [2]), (7, [1, 7], [1]), (9, [7, 0], [7]), (7, [4, 6], [2]), (20, [0], [50, 2, 0, 4, 5, 2, 7, 0, 2, 0, 1, 2, 0, 4, 2, 7, 0, 2, 0, 1, 2, 0, 5, 0, 8, 6, 3, 2, 0, 4, 2, 0, 5, 0, 6000]), (20, [1, 0], [50, 2, 0, 1004, 1005, 0, 6, 4, 2, 1, 0, 0, 1, 6, 3, 2, 1, 4, 2, 1, 5]), (20, [0, 4], [30, 0, 1, 1, 17, -1, 0, 0])] ta ws vs := hf
  obtain ⟨f0, hf⟩ := fc_un (show (6 : Nat) < 100 from by decide) hf
  have f0 : v_iv (n_v vs 29) = v_iv (n_v vs 4) + 1 := f0
  obtain ⟨f1, hf⟩ := fc_un (show (7 : Nat) < 100 from by decide) hf
  have f1 : v_iv (n_v vs 22) ≠ v_iv (n_v vs 23) := f1
  obtain ⟨f2, hf⟩ := fc_un (show (20 : Nat) < 100 from by decide) hf
  have f2 : (v_iv (n_v vs 22) = (-1)) ∨ ((0 ≤ v_iv (n_v vs 22)) ∧ ((v_iv (n_v vs 22) + 1) ≤ (w_fi ws (n_v vs 0) 4 * w_fi ws (n_v vs 0) 5))) := f2
  obtain ⟨f3, hf⟩ := fc_un (show (20 : Nat) < 100 from by decide) hf
  have f3 : (1 ≤ w_fi ws (n_v vs 0) 4) ∧ ((1 ≤ w_fi ws (n_v vs 0) 5) ∧ ((w_fi ws (n_v vs 0) 4 * w_fi ws (n_v vs 0) 5) ≤ 6000)) := f3
  obtain ⟨f4, hf⟩ := fc_un (show (20 : Nat) < 100 from by decide) hf
  have f4 : (v_iv (n_v vs 1) + 1) ≤ (w_fi ws (n_v vs 0) 4 * w_fi ws (n_v vs 0) 5) := f4
  obtain ⟨ta1, w1, le1, ⟨_, s1⟩, hf⟩ := fc_us (show ¬ (101 : Nat) < 100 from by decide) hf
  have s1 : (∀ b j, w_el ws b j = w_el w1 b j) ∧ ∀ b j, w_fd ws b j = if b = v_ad (n_v vs 0) ∧ j = 17 then n_v vs 21 else w_fd w1 b j := s1
  obtain ⟨f6, hf⟩ := fc_un (show (1 : Nat) < 100 from by decide) hf
  have f6 : v_iv (n_v vs 21) = v_iv (n_v vs 5) + v_iv (n_v vs 20) := f6
  obtain ⟨f7, hf⟩ := fc_un (show (9 : Nat) < 100 from by decide) hf
  have f7 : n_v vs 5 = w_fd w1 (v_ad (n_v vs 0)) 17 := f7
  obtain ⟨f8, hf⟩ := fc_un (show (20 : Nat) < 100 from by decide) hf
  have f8 : (1 ≤ w_fi w1 (n_v vs 0) 4) ∧ ((1 ≤ w_fi w1 (n_v vs 0) 5) ∧ ((w_fi w1 (n_v vs 0) 4 * w_fi w1 (n_v vs 0) 5) ≤ 6000)) := f8
  obtain ⟨f9, hf⟩ := fc_un (show (20 : Nat) < 100 from by decide) hf
  have f9 : (v_iv (n_v vs 1) + 1) ≤ (w_fi w1 (n_v vs 0) 4 * w_fi w1 (n_v vs 0) 5) := f9
  obtain ⟨f10, hf⟩ := fc_un (show (20 : Nat) < 100 from by decide) hf
  have f10 : 1 * w_fi w1 (n_v vs 0) 17 + ((-1) * v_iv (n_v vs 4) + 0) ≤ 0 := f10
  obtain ⟨ta2, w2, le2, ⟨_, s2⟩, hf⟩ := fc_us (show ¬ (100 : Nat) < 100 from by decide) hf
  have s2 : (∀ b j, w_el w1 b j = if b = v_ad (n_v vs 16) ∧ j = (v_iv (n_v vs 5)).toNat then v_iv (n_v vs 19) else w_el w2 b j) ∧ ∀ b k, w_fd w1 b k = w_fd w2 b k := s2
  obtain ⟨f12, hf⟩ := fc_un (show (9 : Nat) < 100 from by decide) hf
  have f12 : n_v vs 13 = w_fd w2 (v_ad (n_v vs 0)) 4 := f12
  obtain ⟨f13, hf⟩ := fc_un (show (9 : Nat) < 100 from by decide) hf
  have f13 : n_v vs 16 = w_fd w2 (v_ad (n_v vs 0)) 16 := f13
  obtain ⟨f14, hf⟩ := fc_un (show (20 : Nat) < 100 from by decide) hf
  have f14 : (1 ≤ w_fi w2 (n_v vs 0) 4) ∧ ((1 ≤ w_fi w2 (n_v vs 0) 5) ∧ ((w_fi w2 (n_v vs 0) 4 * w_fi w2 (n_v vs 0) 5) ≤ 6000)) := f14
  obtain ⟨f15, hf⟩ := fc_un (show (20 : Nat) < 100 from by decide) hf
  have f15 : (v_iv (n_v vs 1) + 1) ≤ (w_fi w2 (n_v vs 0) 4 * w_fi w2 (n_v vs 0) 5) := f15
  obtain ⟨f16, hf⟩ := fc_un (show (20 : Nat) < 100 from by decide) hf
  have f16 : 1 * w_fi w2 (n_v vs 0) 17 + ((-1) * v_iv (n_v vs 4) + 0) ≤ 0 := f16
  obtain ⟨ta3, w3, le3, ⟨_, s3⟩, hf⟩ := fc_us (show ¬ (100 : Nat) < 100 from by decide) hf
  have s3 : (∀ b j, w_el w2 b j = if b = v_ad (n_v vs 11) ∧ j = (v_iv (n_v vs 5)).toNat then v_iv (n_v vs 15) else w_el w3 b j) ∧ ∀ b k, w_fd w2 b k = w_fd w3 b k := s3
  obtain ⟨f18, hf⟩ := fc_un (show (9 : Nat) < 100 from by decide) hf
  have f18 : n_v vs 11 = w_fd w3 (v_ad (n_v vs 0)) 15 := f18
  obtain ⟨f19, hf⟩ := fc_un (show (7 : Nat) < 100 from by decide) hf
  have f19 : v_iv (n_v vs 5) < v_iv (n_v vs 10) := f19
  obtain ⟨f20, hf⟩ := fc_un (show (7 : Nat) < 100 from by decide) hf
  have f20 : v_iv (n_v vs 1) ≠ v_iv (n_v vs 7) := f20
  obtain ⟨f21, hf⟩ := fc_un (show (9 : Nat) < 100 from by decide) hf
  have f21 : n_v vs 7 = w_fd w3 (v_ad (n_v vs 0)) 7 := f21
  obtain ⟨f22, hf⟩ := fc_un (show (7 : Nat) < 100 from by decide) hf
  have f22 : v_iv (n_v vs 4) < v_iv (n_v vs 6) := f22
  obtain ⟨f23, hf⟩ := fc_un (show (20 : Nat) < 100 from by decide) hf
  have f23 : (1 ≤ w_fi w3 (n_v vs 0) 4) ∧ ((1 ≤ w_fi w3 (n_v vs 0) 5) ∧ ((w_fi w3 (n_v vs 0) 4 * w_fi w3 (n_v vs 0) 5) ≤ 6000)) := f23
  obtain ⟨f24, hf⟩ := fc_un (show (20 : Nat) < 100 from by decide) hf
  have f24 : (v_iv (n_v vs 1) + 1) ≤ (w_fi w3 (n_v vs 0) 4 * w_fi w3 (n_v vs 0) 5) := f24
  obtain ⟨f25, hf⟩ := fc_un (show (20 : Nat) < 100 from by decide) hf
  have f25 : 1 * w_fi w3 (n_v vs 0) 17 + ((-1) * v_iv (n_v vs 4) + 0) ≤ 0 := f25
  have ar_0_15_1 : w_ar w1 (n_v vs 0) 15 = w_ar ws (n_v vs 0) 15 := by show v_ad (w_fd w1 _ _) = v_ad (w_fd ws _ _); rw [s1.2, if_neg (fun e => absurd e.2 (by decide))]
  have ar_0_15_2 : w_ar w2 (n_v vs 0) 15 = w_ar ws (n_v vs 0) 15 := by rw [← ar_0_15_1]; show v_ad (w_fd w2 _ _) = v_ad (w_fd w1 _ _); rw [s2.2]
  have ar_0_15_3 : w_ar w3 (n_v vs 0) 15 = w_ar ws (n_v vs 0) 15 := by rw [← ar_0_15_2]; show v_ad (w_fd w3 _ _) = v_ad (w_fd w2 _ _); rw [s3.2]
  have cr_0_15 : ta (w_ar ws (n_v vs 0) 15) = some 116 := tv_rg (th_fd hD hth r0 (g := GG_9) rfl (k := 15) (t := (2, 0, 0, [116])) rfl rfl)
  have ar_0_16_1 : w_ar w1 (n_v vs 0) 16 = w_ar ws (n_v vs 0) 16 := by show v_ad (w_fd w1 _ _) = v_ad (w_fd ws _ _); rw [s1.2, if_neg (fun e => absurd e.2 (by decide))]
  have ar_0_16_2 : w_ar w2 (n_v vs 0) 16 = w_ar ws (n_v vs 0) 16 := by rw [← ar_0_16_1]; show v_ad (w_fd w2 _ _) = v_ad (w_fd w1 _ _); rw [s2.2]
  have ar_0_16_3 : w_ar w3 (n_v vs 0) 16 = w_ar ws (n_v vs 0) 16 := by rw [← ar_0_16_2]; show v_ad (w_fd w3 _ _) = v_ad (w_fd w2 _ _); rw [s3.2]
  have cr_0_16 : ta (w_ar ws (n_v vs 0) 16) = some 117 := tv_rg (th_fd hD hth r0 (g := GG_9) rfl (k := 16) (t := (2, 0, 0, [117])) rfl rfl)
  have ad_16 : v_ad (n_v vs 16) = w_ar ws (n_v vs 0) 16 := (congrArg v_ad f13).trans ar_0_16_2
  have ad_11 : v_ad (n_v vs 11) = w_ar ws (n_v vs 0) 15 := (congrArg v_ad f18).trans ar_0_15_3
  have g7 : v_iv (n_v vs 5) = w_fi w1 (n_v vs 0) 17 := congrArg v_iv f7
  have g12 : v_iv (n_v vs 13) = w_fi w2 (n_v vs 0) 4 := congrArg v_iv f12
  have g21 : v_iv (n_v vs 7) = w_fi w3 (n_v vs 0) 7 := congrArg v_iv f21
  have fe_0_4_1 : w_fi ws (n_v vs 0) 4 = w_fi w1 (n_v vs 0) 4 := by show v_iv (w_fd _ _ _) = v_iv (w_fd _ _ _); rw [s1.2, if_neg (fun e => absurd e.2 (by decide))]
  have fe_0_5_1 : w_fi ws (n_v vs 0) 5 = w_fi w1 (n_v vs 0) 5 := by show v_iv (w_fd _ _ _) = v_iv (w_fd _ _ _); rw [s1.2, if_neg (fun e => absurd e.2 (by decide))]
  have fe_0_7_1 : w_fi ws (n_v vs 0) 7 = w_fi w1 (n_v vs 0) 7 := by show v_iv (w_fd _ _ _) = v_iv (w_fd _ _ _); rw [s1.2, if_neg (fun e => absurd e.2 (by decide))]
  have fe_0_17_1 : w_fi ws (n_v vs 0) 17 = v_iv (n_v vs 21) := by show v_iv (w_fd _ _ _) = _; rw [s1.2, if_pos ⟨rfl, rfl⟩]
  have fe_0_4_2 : w_fi w1 (n_v vs 0) 4 = w_fi w2 (n_v vs 0) 4 := congrArg v_iv (s2.2 _ _)
  have fe_0_5_2 : w_fi w1 (n_v vs 0) 5 = w_fi w2 (n_v vs 0) 5 := congrArg v_iv (s2.2 _ _)
  have fe_0_7_2 : w_fi w1 (n_v vs 0) 7 = w_fi w2 (n_v vs 0) 7 := congrArg v_iv (s2.2 _ _)
  have fe_0_17_2 : w_fi w1 (n_v vs 0) 17 = w_fi w2 (n_v vs 0) 17 := congrArg v_iv (s2.2 _ _)
  have fe_0_4_3 : w_fi w2 (n_v vs 0) 4 = w_fi w3 (n_v vs 0) 4 := congrArg v_iv (s3.2 _ _)
  have fe_0_5_3 : w_fi w2 (n_v vs 0) 5 = w_fi w3 (n_v vs 0) 5 := congrArg v_iv (s3.2 _ _)
  have fe_0_7_3 : w_fi w2 (n_v vs 0) 7 = w_fi w3 (n_v vs 0) 7 := congrArg v_iv (s3.2 _ _)
  have fe_0_17_3 : w_fi w2 (n_v vs 0) 17 = w_fi w3 (n_v vs 0) 17 := congrArg v_iv (s3.2 _ _)
  have pe_0_4_5_1 : w_fi ws (n_v vs 0) 4 * w_fi ws (n_v vs 0) 5 = w_fi w1 (n_v vs 0) 4 * w_fi w1 (n_v vs 0) 5 := by rw [fe_0_4_1, fe_0_5_1]
  have pe_0_4_5_2 : w_fi w1 (n_v vs 0) 4 * w_fi w1 (n_v vs 0) 5 = w_fi w2 (n_v vs 0) 4 * w_fi w2 (n_v vs 0) 5 := by rw [fe_0_4_2, fe_0_5_2]
  have pe_0_4_5_3 : w_fi w2 (n_v vs 0) 4 * w_fi w2 (n_v vs 0) 5 = w_fi w3 (n_v vs 0) 4 * w_fi w3 (n_v vs 0) 5 := by rw [fe_0_4_3, fe_0_5_3]
  have kz_0_4 : (-2147483648) ≤ w_fi ws (n_v vs 0) 4 ∧ w_fi ws (n_v vs 0) 4 ≤ 2147483647 := tv_rng (th_fd hD hth r0 (g := GG_9) rfl (k := 4) (t := (0, -2147483648, 2147483647, [])) rfl rfl)
  have kz_0_5 : (-2147483648) ≤ w_fi ws (n_v vs 0) 5 ∧ w_fi ws (n_v vs 0) 5 ≤ 2147483647 := tv_rng (th_fd hD hth r0 (g := GG_9) rfl (k := 5) (t := (0, -2147483648, 2147483647, [])) rfl rfl)
  have kz_0_7 : 0 ≤ w_fi ws (n_v vs 0) 7 ∧ w_fi ws (n_v vs 0) 7 ≤ 5999 := tv_rng (th_fd hD hth r0 (g := GG_9) rfl (k := 7) (t := (0, 0, 5999, [])) rfl rfl)
  have kz_0_17 : 0 ≤ w_fi ws (n_v vs 0) 17 ∧ w_fi ws (n_v vs 0) 17 ≤ 6000 := tv_rng (th_fd hD hth r0 (g := GG_9) rfl (k := 17) (t := (0, 0, 6000, [])) rfl rfl)
  have nf0 : fc_1 (20, [22, 0], [50, 2, 0, 1004, 1005, 0, 6, 4, 2, 1, 0, 0, 1, 6, 3, 2, 1, 4, 2, 1, 5]) ws (vs) := by
    refine ⟨fun n hn => ?_, ?_⟩
    · have hn : n ∈ [22, 0] := hn
      rw [hl]
      simp only [List.mem_cons, List.not_mem_nil, or_false] at hn
      show n < 30; omega
    · show (v_iv (n_v vs 22) + 1) ≤ (w_fi ws (n_v vs 0) 4 * w_fi ws (n_v vs 0) 5)
      first | omega | grind
  have nf1 : fc_1 (20, [0, 29], [30, 0, 1, 1, 17, -1, 0, 0]) ws (vs) := by
    refine ⟨fun n hn => ?_, ?_⟩
    · have hn : n ∈ [0, 29] := hn
      rw [hl]
      simp only [List.mem_cons, List.not_mem_nil, or_false] at hn
      show n < 30; omega
    · show 1 * w_fi ws (n_v vs 0) 17 + ((-1) * v_iv (n_v vs 29) + 0) ≤ 0
      omega
  refine ⟨(fun _ h => (by cases h)), [], trivial, ?_, (fun _ h => (by cases h))⟩
  rw [List.append_nil]
  exact List.forall_mem_cons.mpr ⟨⟨show (20 : Nat) < 100 from by decide, nf0⟩, List.forall_mem_cons.mpr ⟨⟨show (20 : Nat) < 100 from by decide, nf1⟩, (fun _ h => (by cases h))⟩⟩
def n_Ro_readWay_an : List an_T := [(15, [(0, (2, 0, 0, [9])), (1, (0, 0, 5999, [])), (2, (0, -1, 3, [])), (3, (0, -2147483648, 1000000000, [])), (4, (0, 0, 6000, []))], [], (0, 0), [(0, 0, 99985), (1, 4, 6000), (0, 0, 100000)], [(1, 2, -1000000000000, 6000), (1, 4, -1000000000000, 5999), (1, 5, -1000000000000, 5999), (2, 1, -1000000000000, 3), (2, 4, -1000000000000, 2), (2, 5, -1000000000000, 3), (5, 1, -1000000000000, 6000), (5, 2, -1000000000000, 6001), (5, 4, -1000000000000, 6000)], [((0, 17), (0, 0, 6000, []))], [], 0, [], [(20, [0], [50, 2, 0, 4, 5, 2, 7, 0, 2, 0, 1, 2, 0, 4, 2, 7, 0, 2, 0, 1, 2, 0, 5, 0, 8, 6, 3, 2, 0, 4, 2, 0, 5, 0, 6000]), (20, [1, 0], [50, 2, 0, 1004, 1005, 0, 6, 4, 2, 1, 0, 0, 1, 6, 3, 2, 1, 4, 2, 1, 5]), (20, [0, 4], [30, 0, 1, 1, 17, -1, 0, 0])])]
def t_Ro_readWay_ct : ct_L := [(1, 144, e_Ro_next), (1, 147, e_Ro_nextStep)]
set_option maxRecDepth 100000 in
theorem c_Ro_readWay {l : Launch} {D : va_G} {kA : Nat → ClassId} (h_Ro_next : ct_ok l D kA GG y_Ro_next z_Ro_next e_Ro_next) (h_Ro_nextStep : ct_ok l D kA GG y_Ro_nextStep z_Ro_nextStep e_Ro_nextStep) : ct_ok l D kA GG y_Ro_readWay z_Ro_readWay e_Ro_readWay := chk_all_ok (FT := [(19, 9, 2), (23, 9, 3), (26, 9, 4), (32, 9, 6), (35, 9, 7), (38, 9, 8), (45, 9, 10), (62, 9, 15), (65, 9, 16), (68, 9, 17)]) (PT := [(68, 9, 17, .int)]) (CT := t_Ro_readWay_ct) (KT := []) (NT := []) (AN := n_Ro_readWay_an) (OT := [o_Ro_readWay_0, o_Ro_readWay_1, o_Ro_readWay_2, o_Ro_readWay_3, o_Ro_readWay_4, o_Ro_readWay_5]) 3 636 (List.forall_mem_cons.mpr ⟨oo_Ro_readWay_0, List.forall_mem_cons.mpr ⟨oo_Ro_readWay_1, List.forall_mem_cons.mpr ⟨oo_Ro_readWay_2, List.forall_mem_cons.mpr ⟨oo_Ro_readWay_3, List.forall_mem_cons.mpr ⟨oo_Ro_readWay_4, List.forall_mem_cons.mpr ⟨oo_Ro_readWay_5, List.forall_mem_nil _⟩⟩⟩⟩⟩⟩) (by decide +kernel) ⟨List.forall_mem_cons.mpr ⟨gf_Ro_19, List.forall_mem_cons.mpr ⟨gf_Ro_23, List.forall_mem_cons.mpr ⟨gf_Ro_26, List.forall_mem_cons.mpr ⟨gf_Ro_32, List.forall_mem_cons.mpr ⟨gf_Ro_35, List.forall_mem_cons.mpr ⟨gf_Ro_38, List.forall_mem_cons.mpr ⟨gf_Ro_45, List.forall_mem_cons.mpr ⟨gf_Ro_62, List.forall_mem_cons.mpr ⟨gf_Ro_65, List.forall_mem_cons.mpr ⟨gf_Ro_68, List.forall_mem_nil _⟩⟩⟩⟩⟩⟩⟩⟩⟩⟩, List.forall_mem_cons.mpr ⟨pf_Ro_68, List.forall_mem_nil _⟩, List.forall_mem_cons.mpr ⟨cl_virtual (y := y_Ro_next) (ci := 9) rfl rfl ⟨_, _, rfl⟩ (by decide +kernel) h_Ro_next wm_1961 wm_22 wm_1958 wm_1960 wv_9_6 ⟨by decide, by decide, by decide +kernel⟩ (by decide), List.forall_mem_cons.mpr ⟨cl_virtual (y := y_Ro_nextStep) (ci := 9) rfl rfl ⟨_, _, rfl⟩ (by decide +kernel) h_Ro_nextStep wm_1969 wm_22 wm_1966 wm_1968 wv_9_8 ⟨by decide, by decide, by decide +kernel⟩ (by decide), List.forall_mem_nil _⟩⟩, List.forall_mem_nil _, List.forall_mem_nil _, GG_pl⟩ (by decide +kernel)
def o_Mo_styleNeed_0 : or_T := (43, 9, [(0, (2, 0, 0, [150])), (2, (0, 0, 2009, [])), (4, (0, 0, 0, []))], [(20, [4, 0], [50, 1, 1, 1158, 1160, 4, 6, 1, 2, 1, 0, 0, 1, 1, 6, 3, 1, 160, 2, 1, 158, 0, 3]), (20, [0], [50, 2, 1, 158, 157, 160, 2, 12, 0, 7, 4, 3, 2, 0, 158, 0, 1, 2, 0, 157, 2, 7, 0, 3, 2, 0, 157, 0, 2010, 3, 14, 1, 10, 3, 0, 160, 5, 3, 2, 0, 157, 0, 1, 0, 0, 1, 10, 3, 0, 160, 5, 3, 2, 0, 157, 0, 1, 0, 4]), (20, [0, 2], [30, 0, 1, 1, 158, -1, 0, 0]), (20, [0, 2], [30, 0, -1, 1, 158, 1, 0, 0]), (20, [0], [30, -1, -1, 1, 8]), (102, [8], [0, 13008, 13009]), (8, [4], [0])], [], [], [(20, [2, 0], [30, 0, 1, 0, 0, -1, 1, 158])], [], [])
theorem oo_Mo_styleNeed_0 {kA : Nat → ClassId} : or_ok kA GG o_Mo_styleNeed_0 := by
  intro A ta ws vs hD hth hl hk hds hf
  have hl : vs.length = 9 := hl
  have hk : ∀ q ∈ ([(0, (2, 0, 0, [150])), (2, (0, 0, 2009, [])), (4, (0, 0, 0, []))] : List (Nat × tv_T)), tv_ok ta q.2 (n_v vs q.1) := hk
  obtain ⟨t0, hk⟩ := List.forall_mem_cons.mp hk
  have t0 : tv_ok ta (2, 0, 0, [150]) (n_v vs 0) := t0
  have r0 : ta (v_ad (n_v vs 0)) = some 150 := tv_rg t0
  obtain ⟨t2, hk⟩ := List.forall_mem_cons.mp hk
  have t2 : tv_ok ta (0, 0, 2009, []) (n_v vs 2) := t2
  have k2 : 0 ≤ v_iv (n_v vs 2) ∧ v_iv (n_v vs 2) ≤ 2009 := tv_rng t2
  obtain ⟨t4, hk⟩ := List.forall_mem_cons.mp hk
  have t4 : tv_ok ta (0, 0, 0, []) (n_v vs 4) := t4
  have k4 : 0 ≤ v_iv (n_v vs 4) ∧ v_iv (n_v vs 4) ≤ 0 := tv_rng t4
  have hf : fc_ok [(20, [4, 0], [50, 1, 1, 1158, 1160, 4, 6, 1, 2, 1, 0, 0, 1, 1, 6, 3, 1, 160, 2, 1, 158, 0, 3]), (20, [0], [50, 2, 1, 158, 157, 160, 2, 12, 0, 7, 4, 3, 2, 0, 158, 0, 1, 2, 0, 157, 2, 7, 0, 3, 2, 0, 157, 0, 2010, 3, 14, 1, 10, 3, 0, 160, 5, 3, 2, 0, 157, 0, 1, 0, 0, 1, 10, 3, 0, 160, 5, 3, 2, 0, 157, 0, 1, 0, 4]), (20, [0, 2], [30, 0, 1, 1, 158, -1, 0, 0]), (20, [0, 2], [30, 0, -1, 1, 158, 1, 0, 0]), (20, [0], [30, -1, -1, 1, 8]), (102, [8], [0, 13008, 13009]), (8, [4], [0])] ta ws vs := hf
  obtain ⟨f0, hf⟩ := fc_un (show (20 : Nat) < 100 from by decide) hf
  have f0 : (v_iv (n_v vs 4) = 1) → (w_ei ws (w_ar ws (n_v vs 0) 160) (w_fi ws (n_v vs 0) 158) = 3) := f0
  obtain ⟨f1, hf⟩ := fc_un (show (20 : Nat) < 100 from by decide) hf
  have f1 : ((w_fi ws (n_v vs 0) 158 + 1) ≤ w_fi ws (n_v vs 0) 157) ∧ ((w_fi ws (n_v vs 0) 157 ≤ 2010) ∧ ((w_ei ws (w_ar ws (n_v vs 0) 160) ((w_fi ws (n_v vs 0) 157 - 1)) = 0) ∨ (w_ei ws (w_ar ws (n_v vs 0) 160) ((w_fi ws (n_v vs 0) 157 - 1)) = 4))) := f1
  obtain ⟨f2, hf⟩ := fc_un (show (20 : Nat) < 100 from by decide) hf
  have f2 : 1 * w_fi ws (n_v vs 0) 158 + ((-1) * v_iv (n_v vs 2) + 0) ≤ 0 := f2
  obtain ⟨f3, hf⟩ := fc_un (show (20 : Nat) < 100 from by decide) hf
  have f3 : (-1) * w_fi ws (n_v vs 0) 158 + (1 * v_iv (n_v vs 2) + 0) ≤ 0 := f3
  obtain ⟨f4, hf⟩ := fc_un (show (20 : Nat) < 100 from by decide) hf
  have f4 : (-1) * w_fi ws (n_v vs 0) 8 + 0 ≤ (-1) := f4
  obtain ⟨ta1, w1, le1, ⟨_, s1⟩, hf⟩ := fc_us (show ¬ (102 : Nat) < 100 from by decide) hf
  obtain ⟨f6, hf⟩ := fc_un (show (8 : Nat) < 100 from by decide) hf
  have f6 : v_iv (n_v vs 4) = 0 := f6
  have cr_0_160 : ta (w_ar ws (n_v vs 0) 160) = some 259 := tv_rg (th_fd hD hth r0 (g := GG_150) rfl (k := 160) (t := (2, 0, 0, [259])) rfl rfl)
  have hK_0_160 : ∀ j : Int, 0 ≤ j → j < 2010 → 0 ≤ w_ei ws (w_ar ws (n_v vs 0) 160) j ∧ w_ei ws (w_ar ws (n_v vs 0) 160) j ≤ 4 := fun j h0 h1 => th_el hD hth cr_0_160 (kd := 0) (n := 2010) (m := 2010) (lo := 0) (hi := 4) (rs := []) (L := []) rfl (by decide) (j := j.toNat) (by omega)
  have kz_0_8 : 0 ≤ w_fi ws (n_v vs 0) 8 ∧ w_fi ws (n_v vs 0) 8 ≤ 5 := tv_rng (th_fd hD hth r0 (g := GG_150) rfl (k := 8) (t := (0, 0, 5, [])) rfl rfl)
  have kz_0_157 : 0 ≤ w_fi ws (n_v vs 0) 157 ∧ w_fi ws (n_v vs 0) 157 ≤ 2010 := tv_rng (th_fd hD hth r0 (g := GG_150) rfl (k := 157) (t := (0, 0, 2010, [])) rfl rfl)
  have kz_0_158 : 0 ≤ w_fi ws (n_v vs 0) 158 ∧ w_fi ws (n_v vs 0) 158 ≤ 2009 := tv_rng (th_fd hD hth r0 (g := GG_150) rfl (k := 158) (t := (0, 0, 2009, [])) rfl rfl)
  have nf0 : fc_1 (20, [2, 0], [30, 0, 1, 0, 0, -1, 1, 158]) ws (vs) := by
    refine ⟨fun n hn => ?_, ?_⟩
    · have hn : n ∈ [2, 0] := hn
      rw [hl]
      simp only [List.mem_cons, List.not_mem_nil, or_false] at hn
      show n < 9; omega
    · show 1 * v_iv (n_v vs 2) + ((-1) * w_fi ws (n_v vs 0) 158 + 0) ≤ 0
      omega
  refine ⟨(fun _ h => (by cases h)), [], trivial, ?_, (fun _ h => (by cases h))⟩
  rw [List.append_nil]
  exact List.forall_mem_cons.mpr ⟨⟨show (20 : Nat) < 100 from by decide, nf0⟩, (fun _ h => (by cases h))⟩
def o_Mo_styleNeed_1 : or_T := (23, 8, [(0, (2, 0, 0, [150])), (2, (0, 0, 2009, [])), (4, (0, 1, 1, [])), (5, (0, 0, 2009, [])), (6, (0, 1, 1, [])), (7, (0, 1, 2010, []))], [(1, [7, 5, 6], []), (9, [5, 0], [158]), (8, [4], [1]), (20, [4, 0], [50, 1, 1, 1158, 1160, 4, 6, 1, 2, 1, 0, 0, 1, 1, 6, 3, 1, 160, 2, 1, 158, 0, 3]), (20, [0], [50, 2, 1, 158, 157, 160, 2, 12, 0, 7, 4, 3, 2, 0, 158, 0, 1, 2, 0, 157, 2, 7, 0, 3, 2, 0, 157, 0, 2010, 3, 14, 1, 10, 3, 0, 160, 5, 3, 2, 0, 157, 0, 1, 0, 0, 1, 10, 3, 0, 160, 5, 3, 2, 0, 157, 0, 1, 0, 4]), (20, [0, 2], [30, 0, 1, 1, 158, -1, 0, 0]), (20, [0, 2], [30, 0, -1, 1, 158, 1, 0, 0])], [(7, (0, 1, 2009, []))], [], [], [], [(7, 5, 1, 1)])
theorem oo_Mo_styleNeed_1 {kA : Nat → ClassId} : or_ok kA GG o_Mo_styleNeed_1 := by
  intro A ta ws vs hD hth hl hk hds hf
  have hl : vs.length = 8 := hl
  have hk : ∀ q ∈ ([(0, (2, 0, 0, [150])), (2, (0, 0, 2009, [])), (4, (0, 1, 1, [])), (5, (0, 0, 2009, [])), (6, (0, 1, 1, [])), (7, (0, 1, 2010, []))] : List (Nat × tv_T)), tv_ok ta q.2 (n_v vs q.1) := hk
  obtain ⟨t0, hk⟩ := List.forall_mem_cons.mp hk
  have t0 : tv_ok ta (2, 0, 0, [150]) (n_v vs 0) := t0
  have r0 : ta (v_ad (n_v vs 0)) = some 150 := tv_rg t0
  obtain ⟨t2, hk⟩ := List.forall_mem_cons.mp hk
  have t2 : tv_ok ta (0, 0, 2009, []) (n_v vs 2) := t2
  have k2 : 0 ≤ v_iv (n_v vs 2) ∧ v_iv (n_v vs 2) ≤ 2009 := tv_rng t2
  obtain ⟨t4, hk⟩ := List.forall_mem_cons.mp hk
  have t4 : tv_ok ta (0, 1, 1, []) (n_v vs 4) := t4
  have k4 : 1 ≤ v_iv (n_v vs 4) ∧ v_iv (n_v vs 4) ≤ 1 := tv_rng t4
  obtain ⟨t5, hk⟩ := List.forall_mem_cons.mp hk
  have t5 : tv_ok ta (0, 0, 2009, []) (n_v vs 5) := t5
  have k5 : 0 ≤ v_iv (n_v vs 5) ∧ v_iv (n_v vs 5) ≤ 2009 := tv_rng t5
  obtain ⟨t6, hk⟩ := List.forall_mem_cons.mp hk
  have t6 : tv_ok ta (0, 1, 1, []) (n_v vs 6) := t6
  have k6 : 1 ≤ v_iv (n_v vs 6) ∧ v_iv (n_v vs 6) ≤ 1 := tv_rng t6
  obtain ⟨t7, hk⟩ := List.forall_mem_cons.mp hk
  have t7 : tv_ok ta (0, 1, 2010, []) (n_v vs 7) := t7
  have k7 : 1 ≤ v_iv (n_v vs 7) ∧ v_iv (n_v vs 7) ≤ 2010 := tv_rng t7
  have hds : ∀ q ∈ ([(7, 5, 1, 1)] : List of_T), n_iv vs q.2.1 + q.2.2.1 ≤ n_iv vs q.1 ∧ n_iv vs q.1 ≤ n_iv vs q.2.1 + q.2.2.2 := hds
  obtain ⟨d0, hds⟩ := List.forall_mem_cons.mp hds
  have d0 : v_iv (n_v vs 5) + 1 ≤ v_iv (n_v vs 7) ∧ v_iv (n_v vs 7) ≤ v_iv (n_v vs 5) + 1 := d0
  have hf : fc_ok [(1, [7, 5, 6], []), (9, [5, 0], [158]), (8, [4], [1]), (20, [4, 0], [50, 1, 1, 1158, 1160, 4, 6, 1, 2, 1, 0, 0, 1, 1, 6, 3, 1, 160, 2, 1, 158, 0, 3]), (20, [0], [50, 2, 1, 158, 157, 160, 2, 12, 0, 7, 4, 3, 2, 0, 158, 0, 1, 2, 0, 157, 2, 7, 0, 3, 2, 0, 157, 0, 2010, 3, 14, 1, 10, 3, 0, 160, 5, 3, 2, 0, 157, 0, 1, 0, 0, 1, 10, 3, 0, 160, 5, 3, 2, 0, 157, 0, 1, 0, 4]), (20, [0, 2], [30, 0, 1, 1, 158, -1, 0, 0]), (20, [0, 2], [30, 0, -1, 1, 158, 1, 0, 0])] ta ws vs := hf
  obtain ⟨f0, hf⟩ := fc_un (show (1 : Nat) < 100 from by decide) hf
  have f0 : v_iv (n_v vs 7) = v_iv (n_v vs 5) + v_iv (n_v vs 6) := f0
  obtain ⟨f1, hf⟩ := fc_un (show (9 : Nat) < 100 from by decide) hf
  have f1 : n_v vs 5 = w_fd ws (v_ad (n_v vs 0)) 158 := f1
  obtain ⟨f2, hf⟩ := fc_un (show (8 : Nat) < 100 from by decide) hf
  have f2 : v_iv (n_v vs 4) ≠ 0 := f2
  obtain ⟨f3, hf⟩ := fc_un (show (20 : Nat) < 100 from by decide) hf
  have f3 : (v_iv (n_v vs 4) = 1) → (w_ei ws (w_ar ws (n_v vs 0) 160) (w_fi ws (n_v vs 0) 158) = 3) := f3
  obtain ⟨f4, hf⟩ := fc_un (show (20 : Nat) < 100 from by decide) hf
  have f4 : ((w_fi ws (n_v vs 0) 158 + 1) ≤ w_fi ws (n_v vs 0) 157) ∧ ((w_fi ws (n_v vs 0) 157 ≤ 2010) ∧ ((w_ei ws (w_ar ws (n_v vs 0) 160) ((w_fi ws (n_v vs 0) 157 - 1)) = 0) ∨ (w_ei ws (w_ar ws (n_v vs 0) 160) ((w_fi ws (n_v vs 0) 157 - 1)) = 4))) := f4
  obtain ⟨f5, hf⟩ := fc_un (show (20 : Nat) < 100 from by decide) hf
  have f5 : 1 * w_fi ws (n_v vs 0) 158 + ((-1) * v_iv (n_v vs 2) + 0) ≤ 0 := f5
  obtain ⟨f6, hf⟩ := fc_un (show (20 : Nat) < 100 from by decide) hf
  have f6 : (-1) * w_fi ws (n_v vs 0) 158 + (1 * v_iv (n_v vs 2) + 0) ≤ 0 := f6
  have cr_0_160 : ta (w_ar ws (n_v vs 0) 160) = some 259 := tv_rg (th_fd hD hth r0 (g := GG_150) rfl (k := 160) (t := (2, 0, 0, [259])) rfl rfl)
  have g1 : v_iv (n_v vs 5) = w_fi ws (n_v vs 0) 158 := congrArg v_iv f1
  have hK_0_160 : ∀ j : Int, 0 ≤ j → j < 2010 → 0 ≤ w_ei ws (w_ar ws (n_v vs 0) 160) j ∧ w_ei ws (w_ar ws (n_v vs 0) 160) j ≤ 4 := fun j h0 h1 => th_el hD hth cr_0_160 (kd := 0) (n := 2010) (m := 2010) (lo := 0) (hi := 4) (rs := []) (L := []) rfl (by decide) (j := j.toNat) (by omega)
  have kz_0_157 : 0 ≤ w_fi ws (n_v vs 0) 157 ∧ w_fi ws (n_v vs 0) 157 ≤ 2010 := tv_rng (th_fd hD hth r0 (g := GG_150) rfl (k := 157) (t := (0, 0, 2010, [])) rfl rfl)
  have kz_0_158 : 0 ≤ w_fi ws (n_v vs 0) 158 ∧ w_fi ws (n_v vs 0) 158 ≤ 2009 := tv_rng (th_fd hD hth r0 (g := GG_150) rfl (k := 158) (t := (0, 0, 2009, [])) rfl rfl)
  have rf7 : tv_ok ta (0, 1, 2009, []) (n_v vs 7) := tv_in t7 (by first | omega | grind) (by first | omega | grind)
  refine ⟨List.forall_mem_cons.mpr ⟨rf7, (fun _ h => (by cases h))⟩, [], trivial, ?_, (fun _ h => (by cases h))⟩
  rw [List.append_nil]
  exact (fun _ h => (by cases h))
def o_Mo_styleNeed_2 : or_T := (43, 8, [(0, (2, 0, 0, [150])), (2, (0, 0, 2009, [])), (4, (0, 1, 1, [])), (5, (0, 0, 2009, [])), (6, (0, 1, 1, [])), (7, (0, 1, 2009, []))], [(101, [0, 7], [158]), (1, [7, 5, 6], []), (9, [5, 0], [158]), (8, [4], [1]), (20, [4, 0], [50, 1, 1, 1158, 1160, 4, 6, 1, 2, 1, 0, 0, 1, 1, 6, 3, 1, 160, 2, 1, 158, 0, 3]), (20, [0], [50, 2, 1, 158, 157, 160, 2, 12, 0, 7, 4, 3, 2, 0, 158, 0, 1, 2, 0, 157, 2, 7, 0, 3, 2, 0, 157, 0, 2010, 3, 14, 1, 10, 3, 0, 160, 5, 3, 2, 0, 157, 0, 1, 0, 0, 1, 10, 3, 0, 160, 5, 3, 2, 0, 157, 0, 1, 0, 4]), (20, [0, 2], [30, 0, 1, 1, 158, -1, 0, 0]), (20, [0, 2], [30, 0, -1, 1, 158, 1, 0, 0])], [], [], [(20, [0], [50, 2, 1, 158, 157, 160, 2, 12, 0, 7, 4, 3, 2, 0, 158, 0, 1, 2, 0, 157, 2, 7, 0, 3, 2, 0, 157, 0, 2010, 3, 14, 1, 10, 3, 0, 160, 5, 3, 2, 0, 157, 0, 1, 0, 0, 1, 10, 3, 0, 160, 5, 3, 2, 0, 157, 0, 1, 0, 4]), (20, [2, 0], [30, 0, 1, 0, 0, -1, 1, 158])], [], [(7, 5, 1, 1)])
theorem oo_Mo_styleNeed_2 {kA : Nat → ClassId} : or_ok kA GG o_Mo_styleNeed_2 := by
  intro A ta ws vs hD hth hl hk hds hf
  have hl : vs.length = 8 := hl
  have hk : ∀ q ∈ ([(0, (2, 0, 0, [150])), (2, (0, 0, 2009, [])), (4, (0, 1, 1, [])), (5, (0, 0, 2009, [])), (6, (0, 1, 1, [])), (7, (0, 1, 2009, []))] : List (Nat × tv_T)), tv_ok ta q.2 (n_v vs q.1) := hk
  obtain ⟨t0, hk⟩ := List.forall_mem_cons.mp hk
  have t0 : tv_ok ta (2, 0, 0, [150]) (n_v vs 0) := t0
  have r0 : ta (v_ad (n_v vs 0)) = some 150 := tv_rg t0
  obtain ⟨t2, hk⟩ := List.forall_mem_cons.mp hk
  have t2 : tv_ok ta (0, 0, 2009, []) (n_v vs 2) := t2
  have k2 : 0 ≤ v_iv (n_v vs 2) ∧ v_iv (n_v vs 2) ≤ 2009 := tv_rng t2
  obtain ⟨t4, hk⟩ := List.forall_mem_cons.mp hk
  have t4 : tv_ok ta (0, 1, 1, []) (n_v vs 4) := t4
  have k4 : 1 ≤ v_iv (n_v vs 4) ∧ v_iv (n_v vs 4) ≤ 1 := tv_rng t4
  obtain ⟨t5, hk⟩ := List.forall_mem_cons.mp hk
  have t5 : tv_ok ta (0, 0, 2009, []) (n_v vs 5) := t5
  have k5 : 0 ≤ v_iv (n_v vs 5) ∧ v_iv (n_v vs 5) ≤ 2009 := tv_rng t5
  obtain ⟨t6, hk⟩ := List.forall_mem_cons.mp hk
  have t6 : tv_ok ta (0, 1, 1, []) (n_v vs 6) := t6
  have k6 : 1 ≤ v_iv (n_v vs 6) ∧ v_iv (n_v vs 6) ≤ 1 := tv_rng t6
  obtain ⟨t7, hk⟩ := List.forall_mem_cons.mp hk
  have t7 : tv_ok ta (0, 1, 2009, []) (n_v vs 7) := t7
  have k7 : 1 ≤ v_iv (n_v vs 7) ∧ v_iv (n_v vs 7) ≤ 2009 := tv_rng t7
  have hds : ∀ q ∈ ([(7, 5, 1, 1)] : List of_T), n_iv vs q.2.1 + q.2.2.1 ≤ n_iv vs q.1 ∧ n_iv vs q.1 ≤ n_iv vs q.2.1 + q.2.2.2 := hds
  obtain ⟨d0, hds⟩ := List.forall_mem_cons.mp hds
  have d0 : v_iv (n_v vs 5) + 1 ≤ v_iv (n_v vs 7) ∧ v_iv (n_v vs 7) ≤ v_iv (n_v vs 5) + 1 := d0
  have hf : fc_ok [(101, [0, 7], [158]), (1, [7, 5, 6], []), (9, [5, 0], [158]), (8, [4], [1]), (20, [4, 0], [50, 1, 1, 1158, 1160, 4, 6, 1, 2, 1, 0, 0, 1, 1, 6, 3, 1, 160, 2, 1, 158, 0, 3]), (20, [0], [50, 2, 1, 158, 157, 160, 2, 12, 0, 7, 4, 3, 2, 0, 158, 0, 1, 2, 0, 157, 2, 7, 0, 3, 2, 0, 157, 0, 2010, 3, 14, 1, 10, 3, 0, 160, 5, 3, 2, 0, 157, 0, 1, 0, 0, 1, 10, 3, 0, 160, 5, 3, 2, 0, 157, 0, 1, 0, 4]), (20, [0, 2], [30, 0, 1, 1, 158, -1, 0, 0]), (20, [0, 2], [30, 0, -1, 1, 158, 1, 0, 0])] ta ws vs := hf
  obtain ⟨ta1, w1, le1, ⟨_, s1⟩, hf⟩ := fc_us (show ¬ (101 : Nat) < 100 from by decide) hf
  have s1 : (∀ b j, w_el ws b j = w_el w1 b j) ∧ ∀ b j, w_fd ws b j = if b = v_ad (n_v vs 0) ∧ j = 158 then n_v vs 7 else w_fd w1 b j := s1
  obtain ⟨f1, hf⟩ := fc_un (show (1 : Nat) < 100 from by decide) hf
  have f1 : v_iv (n_v vs 7) = v_iv (n_v vs 5) + v_iv (n_v vs 6) := f1
  obtain ⟨f2, hf⟩ := fc_un (show (9 : Nat) < 100 from by decide) hf
  have f2 : n_v vs 5 = w_fd w1 (v_ad (n_v vs 0)) 158 := f2
  obtain ⟨f3, hf⟩ := fc_un (show (8 : Nat) < 100 from by decide) hf
  have f3 : v_iv (n_v vs 4) ≠ 0 := f3
  obtain ⟨f4, hf⟩ := fc_un (show (20 : Nat) < 100 from by decide) hf
  have f4 : (v_iv (n_v vs 4) = 1) → (w_ei w1 (w_ar w1 (n_v vs 0) 160) (w_fi w1 (n_v vs 0) 158) = 3) := f4
  obtain ⟨f5, hf⟩ := fc_un (show (20 : Nat) < 100 from by decide) hf
  have f5 : ((w_fi w1 (n_v vs 0) 158 + 1) ≤ w_fi w1 (n_v vs 0) 157) ∧ ((w_fi w1 (n_v vs 0) 157 ≤ 2010) ∧ ((w_ei w1 (w_ar w1 (n_v vs 0) 160) ((w_fi w1 (n_v vs 0) 157 - 1)) = 0) ∨ (w_ei w1 (w_ar w1 (n_v vs 0) 160) ((w_fi w1 (n_v vs 0) 157 - 1)) = 4))) := f5
  obtain ⟨f6, hf⟩ := fc_un (show (20 : Nat) < 100 from by decide) hf
  have f6 : 1 * w_fi w1 (n_v vs 0) 158 + ((-1) * v_iv (n_v vs 2) + 0) ≤ 0 := f6
  obtain ⟨f7, hf⟩ := fc_un (show (20 : Nat) < 100 from by decide) hf
  have f7 : (-1) * w_fi w1 (n_v vs 0) 158 + (1 * v_iv (n_v vs 2) + 0) ≤ 0 := f7
  have ar_0_160_1 : w_ar w1 (n_v vs 0) 160 = w_ar ws (n_v vs 0) 160 := by show v_ad (w_fd w1 _ _) = v_ad (w_fd ws _ _); rw [s1.2, if_neg (fun e => absurd e.2 (by decide))]
  have cr_0_160 : ta (w_ar ws (n_v vs 0) 160) = some 259 := tv_rg (th_fd hD hth r0 (g := GG_150) rfl (k := 160) (t := (2, 0, 0, [259])) rfl rfl)
  have g2 : v_iv (n_v vs 5) = w_fi w1 (n_v vs 0) 158 := congrArg v_iv f2
  rw [ar_0_160_1] at f4
  rw [ar_0_160_1] at f5
  have fe_0_157_1 : w_fi ws (n_v vs 0) 157 = w_fi w1 (n_v vs 0) 157 := by show v_iv (w_fd _ _ _) = v_iv (w_fd _ _ _); rw [s1.2, if_neg (fun e => absurd e.2 (by decide))]
  have fe_0_158_1 : w_fi ws (n_v vs 0) 158 = v_iv (n_v vs 7) := by show v_iv (w_fd _ _ _) = _; rw [s1.2, if_pos ⟨rfl, rfl⟩]
  have hE_0_160_1 : ∀ j : Int, w_ei ws (w_ar ws (n_v vs 0) 160) j = w_ei w1 (w_ar ws (n_v vs 0) 160) j := fun j => s1.1 _ _
  have hK_0_160 : ∀ j : Int, 0 ≤ j → j < 2010 → 0 ≤ w_ei ws (w_ar ws (n_v vs 0) 160) j ∧ w_ei ws (w_ar ws (n_v vs 0) 160) j ≤ 4 := fun j h0 h1 => th_el hD hth cr_0_160 (kd := 0) (n := 2010) (m := 2010) (lo := 0) (hi := 4) (rs := []) (L := []) rfl (by decide) (j := j.toNat) (by omega)
  have kz_0_157 : 0 ≤ w_fi ws (n_v vs 0) 157 ∧ w_fi ws (n_v vs 0) 157 ≤ 2010 := tv_rng (th_fd hD hth r0 (g := GG_150) rfl (k := 157) (t := (0, 0, 2010, [])) rfl rfl)
  have kz_0_158 : 0 ≤ w_fi ws (n_v vs 0) 158 ∧ w_fi ws (n_v vs 0) 158 ≤ 2009 := tv_rng (th_fd hD hth r0 (g := GG_150) rfl (k := 158) (t := (0, 0, 2009, [])) rfl rfl)
  have nf0 : fc_1 (20, [0], [50, 2, 1, 158, 157, 160, 2, 12, 0, 7, 4, 3, 2, 0, 158, 0, 1, 2, 0, 157, 2, 7, 0, 3, 2, 0, 157, 0, 2010, 3, 14, 1, 10, 3, 0, 160, 5, 3, 2, 0, 157, 0, 1, 0, 0, 1, 10, 3, 0, 160, 5, 3, 2, 0, 157, 0, 1, 0, 4]) ws (vs) := by
    refine ⟨fun n hn => ?_, ?_⟩
    · have hn : n ∈ [0] := hn
      rw [hl]
      simp only [List.mem_cons, List.not_mem_nil, or_false] at hn
      show n < 8; omega
    · show ((w_fi ws (n_v vs 0) 158 + 1) ≤ w_fi ws (n_v vs 0) 157) ∧ ((w_fi ws (n_v vs 0) 157 ≤ 2010) ∧ ((w_ei ws (w_ar ws (n_v vs 0) 160) ((w_fi ws (n_v vs 0) 157 - 1)) = 0) ∨ (w_ei ws (w_ar ws (n_v vs 0) 160) ((w_fi ws (n_v vs 0) 157 - 1)) = 4)))
      first | omega | grind
  have nf1 : fc_1 (20, [2, 0], [30, 0, 1, 0, 0, -1, 1, 158]) ws (vs) := by
    refine ⟨fun n hn => ?_, ?_⟩
    · have hn : n ∈ [2, 0] := hn
      rw [hl]
      simp only [List.mem_cons, List.not_mem_nil, or_false] at hn
      show n < 8; omega
    · show 1 * v_iv (n_v vs 2) + ((-1) * w_fi ws (n_v vs 0) 158 + 0) ≤ 0
      omega
  refine ⟨(fun _ h => (by cases h)), [], trivial, ?_, (fun _ h => (by cases h))⟩
  rw [List.append_nil]
  exact List.forall_mem_cons.mpr ⟨⟨show (20 : Nat) < 100 from by decide, nf0⟩, List.forall_mem_cons.mpr ⟨⟨show (20 : Nat) < 100 from by decide, nf1⟩, (fun _ h => (by cases h))⟩⟩
def o_Mo_styleNeed_3 : or_T := (7, 4, [(0, (2, 0, 0, [150])), (2, (0, 0, 2009, []))], [(20, [0], [50, 2, 1, 158, 157, 160, 2, 12, 0, 7, 4, 3, 2, 0, 158, 0, 1, 2, 0, 157, 2, 7, 0, 3, 2, 0, 157, 0, 2010, 3, 14, 1, 10, 3, 0, 160, 5, 3, 2, 0, 157, 0, 1, 0, 0, 1, 10, 3, 0, 160, 5, 3, 2, 0, 157, 0, 1, 0, 4]), (20, [0, 2], [30, 0, 1, 1, 158, -1, 0, 0]), (20, [0, 2], [30, 0, -1, 1, 158, 1, 0, 0])], [], [], [(20, [2, 0], [30, 0, 1, 0, 0, -1, 1, 158])], [], [])
theorem oo_Mo_styleNeed_3 {kA : Nat → ClassId} : or_ok kA GG o_Mo_styleNeed_3 := by
  intro A ta ws vs hD hth hl hk hds hf
  have hl : vs.length = 4 := hl
  have hk : ∀ q ∈ ([(0, (2, 0, 0, [150])), (2, (0, 0, 2009, []))] : List (Nat × tv_T)), tv_ok ta q.2 (n_v vs q.1) := hk
  obtain ⟨t0, hk⟩ := List.forall_mem_cons.mp hk
  have t0 : tv_ok ta (2, 0, 0, [150]) (n_v vs 0) := t0
  have r0 : ta (v_ad (n_v vs 0)) = some 150 := tv_rg t0
  obtain ⟨t2, hk⟩ := List.forall_mem_cons.mp hk
  have t2 : tv_ok ta (0, 0, 2009, []) (n_v vs 2) := t2
  have k2 : 0 ≤ v_iv (n_v vs 2) ∧ v_iv (n_v vs 2) ≤ 2009 := tv_rng t2
  have hf : fc_ok [(20, [0], [50, 2, 1, 158, 157, 160, 2, 12, 0, 7, 4, 3, 2, 0, 158, 0, 1, 2, 0, 157, 2, 7, 0, 3, 2, 0, 157, 0, 2010, 3, 14, 1, 10, 3, 0, 160, 5, 3, 2, 0, 157, 0, 1, 0, 0, 1, 10, 3, 0, 160, 5, 3, 2, 0, 157, 0, 1, 0, 4]), (20, [0, 2], [30, 0, 1, 1, 158, -1, 0, 0]), (20, [0, 2], [30, 0, -1, 1, 158, 1, 0, 0])] ta ws vs := hf
  obtain ⟨f0, hf⟩ := fc_un (show (20 : Nat) < 100 from by decide) hf
  have f0 : ((w_fi ws (n_v vs 0) 158 + 1) ≤ w_fi ws (n_v vs 0) 157) ∧ ((w_fi ws (n_v vs 0) 157 ≤ 2010) ∧ ((w_ei ws (w_ar ws (n_v vs 0) 160) ((w_fi ws (n_v vs 0) 157 - 1)) = 0) ∨ (w_ei ws (w_ar ws (n_v vs 0) 160) ((w_fi ws (n_v vs 0) 157 - 1)) = 4))) := f0
  obtain ⟨f1, hf⟩ := fc_un (show (20 : Nat) < 100 from by decide) hf
  have f1 : 1 * w_fi ws (n_v vs 0) 158 + ((-1) * v_iv (n_v vs 2) + 0) ≤ 0 := f1
  obtain ⟨f2, hf⟩ := fc_un (show (20 : Nat) < 100 from by decide) hf
  have f2 : (-1) * w_fi ws (n_v vs 0) 158 + (1 * v_iv (n_v vs 2) + 0) ≤ 0 := f2
  have cr_0_160 : ta (w_ar ws (n_v vs 0) 160) = some 259 := tv_rg (th_fd hD hth r0 (g := GG_150) rfl (k := 160) (t := (2, 0, 0, [259])) rfl rfl)
  have hK_0_160 : ∀ j : Int, 0 ≤ j → j < 2010 → 0 ≤ w_ei ws (w_ar ws (n_v vs 0) 160) j ∧ w_ei ws (w_ar ws (n_v vs 0) 160) j ≤ 4 := fun j h0 h1 => th_el hD hth cr_0_160 (kd := 0) (n := 2010) (m := 2010) (lo := 0) (hi := 4) (rs := []) (L := []) rfl (by decide) (j := j.toNat) (by omega)
  have kz_0_157 : 0 ≤ w_fi ws (n_v vs 0) 157 ∧ w_fi ws (n_v vs 0) 157 ≤ 2010 := tv_rng (th_fd hD hth r0 (g := GG_150) rfl (k := 157) (t := (0, 0, 2010, [])) rfl rfl)
  have kz_0_158 : 0 ≤ w_fi ws (n_v vs 0) 158 ∧ w_fi ws (n_v vs 0) 158 ≤ 2009 := tv_rng (th_fd hD hth r0 (g := GG_150) rfl (k := 158) (t := (0, 0, 2009, [])) rfl rfl)
  have nf0 : fc_1 (20, [2, 0], [30, 0, 1, 0, 0, -1, 1, 158]) ws (vs) := by
    refine ⟨fun n hn => ?_, ?_⟩
    · have hn : n ∈ [2, 0] := hn
      rw [hl]
      simp only [List.mem_cons, List.not_mem_nil, or_false] at hn
      show n < 4; omega
    · show 1 * v_iv (n_v vs 2) + ((-1) * w_fi ws (n_v vs 0) 158 + 0) ≤ 0
      omega
  refine ⟨(fun _ h => (by cases h)), [], trivial, ?_, (fun _ h => (by cases h))⟩
  rw [List.append_nil]
  exact List.forall_mem_cons.mpr ⟨⟨show (20 : Nat) < 100 from by decide, nf0⟩, (fun _ h => (by cases h))⟩
def n_Mo_styleNeed_an : List an_T := []
def t_Mo_styleNeed_ct : ct_L := [(1, 463, e_Mo_wrong), (1, 1172, e_Mo_styleSign)]
set_option maxRecDepth 100000 in
theorem c_Mo_styleNeed {l : Launch} {D : va_G} {kA : Nat → ClassId} (h_Mo_styleSign : ct_ok l D kA GG y_Mo_styleSign z_Mo_styleSign e_Mo_styleSign) (h_Mo_wrong : ct_ok l D kA GG y_Mo_wrong z_Mo_wrong e_Mo_wrong) : ct_ok l D kA GG y_Mo_styleNeed z_Mo_styleNeed e_Mo_styleNeed := chk_all_ok (FT := [(348, 13, 162), (413, 13, 8), (1169, 13, 158)]) (PT := [(1169, 13, 158, .int)]) (CT := t_Mo_styleNeed_ct) (KT := []) (NT := []) (AN := n_Mo_styleNeed_an) (OT := [o_Mo_styleNeed_0, o_Mo_styleNeed_1, o_Mo_styleNeed_2, o_Mo_styleNeed_3]) 0 200 (List.forall_mem_cons.mpr ⟨oo_Mo_styleNeed_0, List.forall_mem_cons.mpr ⟨oo_Mo_styleNeed_1, List.forall_mem_cons.mpr ⟨oo_Mo_styleNeed_2, List.forall_mem_cons.mpr ⟨oo_Mo_styleNeed_3, List.forall_mem_nil _⟩⟩⟩⟩) (by decide +kernel) ⟨List.forall_mem_cons.mpr ⟨gf_Mo_348, List.forall_mem_cons.mpr ⟨gf_Mo_413, List.forall_mem_cons.mpr ⟨gf_Mo_1169, List.forall_mem_nil _⟩⟩⟩, List.forall_mem_cons.mpr ⟨pf_Mo_1169, List.forall_mem_nil _⟩, List.forall_mem_cons.mpr ⟨cl_virtual (y := y_Mo_wrong) (ci := 13) rfl rfl ⟨_, _, rfl⟩ (by decide +kernel) h_Mo_wrong wm_3017 wm_9 wm_3014 wm_3016 wv_13_1 ⟨by decide, by decide, by decide +kernel⟩ (by decide), List.forall_mem_cons.mpr ⟨cl_virtual (y := y_Mo_styleSign) (ci := 13) rfl rfl ⟨_, _, rfl⟩ (by decide +kernel) h_Mo_styleSign wm_3832 wm_9 wm_3829 wm_3831 wv_23_11 ⟨by decide, by decide, by decide +kernel⟩ (by decide), List.forall_mem_nil _⟩⟩, List.forall_mem_nil _, List.forall_mem_nil _, GG_pl⟩ (by decide +kernel)
def o_Ro_goBack_0 : or_T := (11, 10, [(0, (2, 0, 0, [9])), (1, (0, 0, 23999, [])), (3, (0, 0, 48004, [])), (5, (0, 0, 3, [])), (7, (0, 0, 5999, []))], [(11, [7, 1], [4]), (12, [5, 1], [4]), (20, [0], [50, 2, 0, 4, 5, 2, 7, 0, 2, 0, 1, 2, 0, 4, 2, 7, 0, 2, 0, 1, 2, 0, 5, 0, 8, 6, 3, 2, 0, 4, 2, 0, 5, 0, 6000]), (20, [1, 0], [50, 2, 0, 1004, 1005, 0, 6, 4, 2, 1, 0, 0, 1, 6, 2, 0, 4, 6, 3, 2, 1, 4, 2, 1, 5]), (20, [0], [50, 3, 3, 14, 4, 5, 11, 12, 13, 2, 18, 5, 2, 0, 4, 0, 9, 4, 5, 3, 0, 11, 7, 0, 0, 1, 2, 0, 14, 5, 3, 2, 0, 14, 2, 23, 0, 9, 4, 5, 3, 0, 12, 7, 0, 0, 1, 6, 2, 0, 4, 6, 3, 2, 0, 4, 2, 0, 5, 0, 9, 4, 5, 3, 0, 13, 7, 0, 0, 1, 2, 0, 14]), (20, [0, 3], [30, 0, 1, 1, 14, -1, 0, 0]), (20, [0, 3], [30, 0, -1, 1, 14, 1, 0, 0])], [], [], [(20, [7, 0], [50, 2, 0, 1004, 1005, 0, 6, 4, 2, 1, 0, 0, 1, 6, 3, 2, 1, 4, 2, 1, 5])], [], [])
theorem oo_Ro_goBack_0 {kA : Nat → ClassId} : or_ok kA GG o_Ro_goBack_0 := by
  intro A ta ws vs hD hth hl hk hds hf
  have hl : vs.length = 10 := hl
  have hk : ∀ q ∈ ([(0, (2, 0, 0, [9])), (1, (0, 0, 23999, [])), (3, (0, 0, 48004, [])), (5, (0, 0, 3, [])), (7, (0, 0, 5999, []))] : List (Nat × tv_T)), tv_ok ta q.2 (n_v vs q.1) := hk
  obtain ⟨t0, hk⟩ := List.forall_mem_cons.mp hk
  have t0 : tv_ok ta (2, 0, 0, [9]) (n_v vs 0) := t0
  have r0 : ta (v_ad (n_v vs 0)) = some 9 := tv_rg t0
  obtain ⟨t1, hk⟩ := List.forall_mem_cons.mp hk
  have t1 : tv_ok ta (0, 0, 23999, []) (n_v vs 1) := t1
  have k1 : 0 ≤ v_iv (n_v vs 1) ∧ v_iv (n_v vs 1) ≤ 23999 := tv_rng t1
  obtain ⟨t3, hk⟩ := List.forall_mem_cons.mp hk
  have t3 : tv_ok ta (0, 0, 48004, []) (n_v vs 3) := t3
  have k3 : 0 ≤ v_iv (n_v vs 3) ∧ v_iv (n_v vs 3) ≤ 48004 := tv_rng t3
  obtain ⟨t5, hk⟩ := List.forall_mem_cons.mp hk
  have t5 : tv_ok ta (0, 0, 3, []) (n_v vs 5) := t5
  have k5 : 0 ≤ v_iv (n_v vs 5) ∧ v_iv (n_v vs 5) ≤ 3 := tv_rng t5
  obtain ⟨t7, hk⟩ := List.forall_mem_cons.mp hk
  have t7 : tv_ok ta (0, 0, 5999, []) (n_v vs 7) := t7
  have k7 : 0 ≤ v_iv (n_v vs 7) ∧ v_iv (n_v vs 7) ≤ 5999 := tv_rng t7
  have hf : fc_ok [(11, [7, 1], [4]), (12, [5, 1], [4]), (20, [0], [50, 2, 0, 4, 5, 2, 7, 0, 2, 0, 1, 2, 0, 4, 2, 7, 0, 2, 0, 1, 2, 0, 5, 0, 8, 6, 3, 2, 0, 4, 2, 0, 5, 0, 6000]), (20, [1, 0], [50, 2, 0, 1004, 1005, 0, 6, 4, 2, 1, 0, 0, 1, 6, 2, 0, 4, 6, 3, 2, 1, 4, 2, 1, 5]), (20, [0], [50, 3, 3, 14, 4, 5, 11, 12, 13, 2, 18, 5, 2, 0, 4, 0, 9, 4, 5, 3, 0, 11, 7, 0, 0, 1, 2, 0, 14, 5, 3, 2, 0, 14, 2, 23, 0, 9, 4, 5, 3, 0, 12, 7, 0, 0, 1, 6, 2, 0, 4, 6, 3, 2, 0, 4, 2, 0, 5, 0, 9, 4, 5, 3, 0, 13, 7, 0, 0, 1, 2, 0, 14]), (20, [0, 3], [30, 0, 1, 1, 14, -1, 0, 0]), (20, [0, 3], [30, 0, -1, 1, 14, 1, 0, 0])] ta ws vs := hf
  obtain ⟨f0, hf⟩ := fc_un (show (11 : Nat) < 100 from by decide) hf
  have f0 : v_iv (n_v vs 7) = v_iv (n_v vs 1) / 4 := f0
  obtain ⟨f1, hf⟩ := fc_un (show (12 : Nat) < 100 from by decide) hf
  have f1 : v_iv (n_v vs 5) = v_iv (n_v vs 1) % 4 := f1
  obtain ⟨f2, hf⟩ := fc_un (show (20 : Nat) < 100 from by decide) hf
  have f2 : (1 ≤ w_fi ws (n_v vs 0) 4) ∧ ((1 ≤ w_fi ws (n_v vs 0) 5) ∧ ((w_fi ws (n_v vs 0) 4 * w_fi ws (n_v vs 0) 5) ≤ 6000)) := f2
  obtain ⟨f3, hf⟩ := fc_un (show (20 : Nat) < 100 from by decide) hf
  have f3 : (v_iv (n_v vs 1) + 1) ≤ (4 * (w_fi ws (n_v vs 0) 4 * w_fi ws (n_v vs 0) 5)) := f3
  obtain ⟨f4, hf⟩ := fc_un (show (20 : Nat) < 100 from by decide) hf
  have f4 : (∀ j0 : Int, 0 ≤ j0 → j0 < 4 → ((w_ei ws (w_ar ws (n_v vs 0) 11) (j0) + 1) ≤ w_fi ws (n_v vs 0) 14)) ∧ (∀ j0 : Int, 0 ≤ j0 → j0 < w_fi ws (n_v vs 0) 14 → (((w_ei ws (w_ar ws (n_v vs 0) 12) (j0) + 1) ≤ (4 * (w_fi ws (n_v vs 0) 4 * w_fi ws (n_v vs 0) 5))) ∧ ((w_ei ws (w_ar ws (n_v vs 0) 13) (j0) + 1) ≤ w_fi ws (n_v vs 0) 14))) := f4
  obtain ⟨f5, hf⟩ := fc_un (show (20 : Nat) < 100 from by decide) hf
  have f5 : 1 * w_fi ws (n_v vs 0) 14 + ((-1) * v_iv (n_v vs 3) + 0) ≤ 0 := f5
  obtain ⟨f6, hf⟩ := fc_un (show (20 : Nat) < 100 from by decide) hf
  have f6 : (-1) * w_fi ws (n_v vs 0) 14 + (1 * v_iv (n_v vs 3) + 0) ≤ 0 := f6
  have cr_0_11 : ta (w_ar ws (n_v vs 0) 11) = some 113 := tv_rg (th_fd hD hth r0 (g := GG_9) rfl (k := 11) (t := (2, 0, 0, [113])) rfl rfl)
  have cr_0_12 : ta (w_ar ws (n_v vs 0) 12) = some 114 := tv_rg (th_fd hD hth r0 (g := GG_9) rfl (k := 12) (t := (2, 0, 0, [114])) rfl rfl)
  have cr_0_13 : ta (w_ar ws (n_v vs 0) 13) = some 115 := tv_rg (th_fd hD hth r0 (g := GG_9) rfl (k := 13) (t := (2, 0, 0, [115])) rfl rfl)
  have hK_0_11 : ∀ j : Int, 0 ≤ j → j < 4 → (-1) ≤ w_ei ws (w_ar ws (n_v vs 0) 11) j ∧ w_ei ws (w_ar ws (n_v vs 0) 11) j ≤ 48003 := fun j h0 h1 => th_el hD hth cr_0_11 (kd := 0) (n := 4) (m := 4) (lo := (-1)) (hi := 48003) (rs := []) (L := []) rfl (by decide) (j := j.toNat) (by omega)
  have hK_0_12 : ∀ j : Int, 0 ≤ j → j < 48004 → 0 ≤ w_ei ws (w_ar ws (n_v vs 0) 12) j ∧ w_ei ws (w_ar ws (n_v vs 0) 12) j ≤ 23999 := fun j h0 h1 => th_el hD hth cr_0_12 (kd := 0) (n := 48004) (m := 48004) (lo := 0) (hi := 23999) (rs := []) (L := []) rfl (by decide) (j := j.toNat) (by omega)
  have hK_0_13 : ∀ j : Int, 0 ≤ j → j < 48004 → (-1) ≤ w_ei ws (w_ar ws (n_v vs 0) 13) j ∧ w_ei ws (w_ar ws (n_v vs 0) 13) j ≤ 48003 := fun j h0 h1 => th_el hD hth cr_0_13 (kd := 0) (n := 48004) (m := 48004) (lo := (-1)) (hi := 48003) (rs := []) (L := []) rfl (by decide) (j := j.toNat) (by omega)
  have kz_0_4 : (-2147483648) ≤ w_fi ws (n_v vs 0) 4 ∧ w_fi ws (n_v vs 0) 4 ≤ 2147483647 := tv_rng (th_fd hD hth r0 (g := GG_9) rfl (k := 4) (t := (0, -2147483648, 2147483647, [])) rfl rfl)
  have kz_0_5 : (-2147483648) ≤ w_fi ws (n_v vs 0) 5 ∧ w_fi ws (n_v vs 0) 5 ≤ 2147483647 := tv_rng (th_fd hD hth r0 (g := GG_9) rfl (k := 5) (t := (0, -2147483648, 2147483647, [])) rfl rfl)
  have kz_0_14 : 0 ≤ w_fi ws (n_v vs 0) 14 ∧ w_fi ws (n_v vs 0) 14 ≤ 48004 := tv_rng (th_fd hD hth r0 (g := GG_9) rfl (k := 14) (t := (0, 0, 48004, [])) rfl rfl)
  have nf0 : fc_1 (20, [7, 0], [50, 2, 0, 1004, 1005, 0, 6, 4, 2, 1, 0, 0, 1, 6, 3, 2, 1, 4, 2, 1, 5]) ws (vs) := by
    refine ⟨fun n hn => ?_, ?_⟩
    · have hn : n ∈ [7, 0] := hn
      rw [hl]
      simp only [List.mem_cons, List.not_mem_nil, or_false] at hn
      show n < 10; omega
    · show (v_iv (n_v vs 7) + 1) ≤ (w_fi ws (n_v vs 0) 4 * w_fi ws (n_v vs 0) 5)
      first | omega | grind
  refine ⟨(fun _ h => (by cases h)), [], trivial, ?_, (fun _ h => (by cases h))⟩
  rw [List.append_nil]
  exact List.forall_mem_cons.mpr ⟨⟨show (20 : Nat) < 100 from by decide, nf0⟩, (fun _ h => (by cases h))⟩
def o_Ro_goBack_1 : or_T := (60, 16, [(0, (2, 0, 0, [9])), (1, (0, 0, 23999, [])), (3, (0, 0, 48004, [])), (5, (0, 0, 3, [])), (7, (0, 0, 5999, [])), (10, (0, 0, 5999, [])), (11, (0, -1, -1, [])), (12, (0, 0, 5999, []))], [(7, [10, 12], [1]), (9, [12, 0], [6]), (7, [10, 11], [1]), (20, [10, 0], [50, 2, 0, 1004, 1005, 3, 6, 1, 2, 1, 0, 0, -1, 2, 6, 0, 2, 0, 0, 1, 0, 0, 6, 4, 2, 1, 0, 0, 1, 6, 3, 2, 1, 4, 2, 1, 5]), (20, [7, 0], [50, 2, 0, 1004, 1005, 0, 6, 4, 2, 1, 0, 0, 1, 6, 3, 2, 1, 4, 2, 1, 5]), (11, [7, 1], [4]), (12, [5, 1], [4]), (20, [0], [50, 2, 0, 4, 5, 2, 7, 0, 2, 0, 1, 2, 0, 4, 2, 7, 0, 2, 0, 1, 2, 0, 5, 0, 8, 6, 3, 2, 0, 4, 2, 0, 5, 0, 6000]), (20, [1, 0], [50, 2, 0, 1004, 1005, 0, 6, 4, 2, 1, 0, 0, 1, 6, 2, 0, 4, 6, 3, 2, 1, 4, 2, 1, 5]), (20, [0], [50, 3, 3, 14, 4, 5, 11, 12, 13, 2, 18, 5, 2, 0, 4, 0, 9, 4, 5, 3, 0, 11, 7, 0, 0, 1, 2, 0, 14, 5, 3, 2, 0, 14, 2, 23, 0, 9, 4, 5, 3, 0, 12, 7, 0, 0, 1, 6, 2, 0, 4, 6, 3, 2, 0, 4, 2, 0, 5, 0, 9, 4, 5, 3, 0, 13, 7, 0, 0, 1, 2, 0, 14]), (20, [0, 3], [30, 0, 1, 1, 14, -1, 0, 0]), (20, [0, 3], [30, 0, -1, 1, 14, 1, 0, 0])], [], [], [(20, [10, 0], [50, 2, 0, 1004, 1005, 0, 6, 4, 2, 1, 0, 0, 1, 6, 3, 2, 1, 4, 2, 1, 5]), (20, [3, 0], [30, 0, 1, 0, 0, -1, 1, 14]), (24, [0, 0], [])], [], [])
theorem oo_Ro_goBack_1 {kA : Nat → ClassId} : or_ok kA GG o_Ro_goBack_1 := by
  intro A ta ws vs hD hth hl hk hds hf
  have hl : vs.length = 16 := hl
  have hk : ∀ q ∈ ([(0, (2, 0, 0, [9])), (1, (0, 0, 23999, [])), (3, (0, 0, 48004, [])), (5, (0, 0, 3, [])), (7, (0, 0, 5999, [])), (10, (0, 0, 5999, [])), (11, (0, -1, -1, [])), (12, (0, 0, 5999, []))] : List (Nat × tv_T)), tv_ok ta q.2 (n_v vs q.1) := hk
  obtain ⟨t0, hk⟩ := List.forall_mem_cons.mp hk
  have t0 : tv_ok ta (2, 0, 0, [9]) (n_v vs 0) := t0
  have r0 : ta (v_ad (n_v vs 0)) = some 9 := tv_rg t0
  obtain ⟨t1, hk⟩ := List.forall_mem_cons.mp hk
  have t1 : tv_ok ta (0, 0, 23999, []) (n_v vs 1) := t1
  have k1 : 0 ≤ v_iv (n_v vs 1) ∧ v_iv (n_v vs 1) ≤ 23999 := tv_rng t1
  obtain ⟨t3, hk⟩ := List.forall_mem_cons.mp hk
  have t3 : tv_ok ta (0, 0, 48004, []) (n_v vs 3) := t3
  have k3 : 0 ≤ v_iv (n_v vs 3) ∧ v_iv (n_v vs 3) ≤ 48004 := tv_rng t3
  obtain ⟨t5, hk⟩ := List.forall_mem_cons.mp hk
  have t5 : tv_ok ta (0, 0, 3, []) (n_v vs 5) := t5
  have k5 : 0 ≤ v_iv (n_v vs 5) ∧ v_iv (n_v vs 5) ≤ 3 := tv_rng t5
  obtain ⟨t7, hk⟩ := List.forall_mem_cons.mp hk
  have t7 : tv_ok ta (0, 0, 5999, []) (n_v vs 7) := t7
  have k7 : 0 ≤ v_iv (n_v vs 7) ∧ v_iv (n_v vs 7) ≤ 5999 := tv_rng t7
  obtain ⟨t10, hk⟩ := List.forall_mem_cons.mp hk
  have t10 : tv_ok ta (0, 0, 5999, []) (n_v vs 10) := t10
  have k10 : 0 ≤ v_iv (n_v vs 10) ∧ v_iv (n_v vs 10) ≤ 5999 := tv_rng t10
  obtain ⟨t11, hk⟩ := List.forall_mem_cons.mp hk
  have t11 : tv_ok ta (0, -1, -1, []) (n_v vs 11) := t11
  have k11 : (-1) ≤ v_iv (n_v vs 11) ∧ v_iv (n_v vs 11) ≤ (-1) := tv_rng t11
  obtain ⟨t12, hk⟩ := List.forall_mem_cons.mp hk
  have t12 : tv_ok ta (0, 0, 5999, []) (n_v vs 12) := t12
  have k12 : 0 ≤ v_iv (n_v vs 12) ∧ v_iv (n_v vs 12) ≤ 5999 := tv_rng t12
  have hf : fc_ok [(7, [10, 12], [1]), (9, [12, 0], [6]), (7, [10, 11], [1]), (20, [10, 0], [50, 2, 0, 1004, 1005, 3, 6, 1, 2, 1, 0, 0, -1, 2, 6, 0, 2, 0, 0, 1, 0, 0, 6, 4, 2, 1, 0, 0, 1, 6, 3, 2, 1, 4, 2, 1, 5]), (20, [7, 0], [50, 2, 0, 1004, 1005, 0, 6, 4, 2, 1, 0, 0, 1, 6, 3, 2, 1, 4, 2, 1, 5]), (11, [7, 1], [4]), (12, [5, 1], [4]), (20, [0], [50, 2, 0, 4, 5, 2, 7, 0, 2, 0, 1, 2, 0, 4, 2, 7, 0, 2, 0, 1, 2, 0, 5, 0, 8, 6, 3, 2, 0, 4, 2, 0, 5, 0, 6000]), (20, [1, 0], [50, 2, 0, 1004, 1005, 0, 6, 4, 2, 1, 0, 0, 1, 6, 2, 0, 4, 6, 3, 2, 1, 4, 2, 1, 5]), (20, [0], [50, 3, 3, 14, 4, 5, 11, 12, 13, 2, 18, 5, 2, 0, 4, 0, 9, 4, 5, 3, 0, 11, 7, 0, 0, 1, 2, 0, 14, 5, 3, 2, 0, 14, 2, 23, 0, 9, 4, 5, 3, 0, 12, 7, 0, 0, 1, 6, 2, 0, 4, 6, 3, 2, 0, 4, 2, 0, 5, 0, 9, 4, 5, 3, 0, 13, 7, 0, 0, 1, 2, 0, 14]), (20, [0, 3], [30, 0, 1, 1, 14, -1, 0, 0]), (20, [0, 3], [30, 0, -1, 1, 14, 1, 0, 0])] ta ws vs := hf
  obtain ⟨f0, hf⟩ := fc_un (show (7 : Nat) < 100 from by decide) hf
  have f0 : v_iv (n_v vs 10) ≠ v_iv (n_v vs 12) := f0
  obtain ⟨f1, hf⟩ := fc_un (show (9 : Nat) < 100 from by decide) hf
  have f1 : n_v vs 12 = w_fd ws (v_ad (n_v vs 0)) 6 := f1
  obtain ⟨f2, hf⟩ := fc_un (show (7 : Nat) < 100 from by decide) hf
  have f2 : v_iv (n_v vs 10) ≠ v_iv (n_v vs 11) := f2
  obtain ⟨f3, hf⟩ := fc_un (show (20 : Nat) < 100 from by decide) hf
  have f3 : (v_iv (n_v vs 10) = (-1)) ∨ ((0 ≤ v_iv (n_v vs 10)) ∧ ((v_iv (n_v vs 10) + 1) ≤ (w_fi ws (n_v vs 0) 4 * w_fi ws (n_v vs 0) 5))) := f3
  obtain ⟨f4, hf⟩ := fc_un (show (20 : Nat) < 100 from by decide) hf
  have f4 : (v_iv (n_v vs 7) + 1) ≤ (w_fi ws (n_v vs 0) 4 * w_fi ws (n_v vs 0) 5) := f4
  obtain ⟨f5, hf⟩ := fc_un (show (11 : Nat) < 100 from by decide) hf
  have f5 : v_iv (n_v vs 7) = v_iv (n_v vs 1) / 4 := f5
  obtain ⟨f6, hf⟩ := fc_un (show (12 : Nat) < 100 from by decide) hf
  have f6 : v_iv (n_v vs 5) = v_iv (n_v vs 1) % 4 := f6
  obtain ⟨f7, hf⟩ := fc_un (show (20 : Nat) < 100 from by decide) hf
  have f7 : (1 ≤ w_fi ws (n_v vs 0) 4) ∧ ((1 ≤ w_fi ws (n_v vs 0) 5) ∧ ((w_fi ws (n_v vs 0) 4 * w_fi ws (n_v vs 0) 5) ≤ 6000)) := f7
  obtain ⟨f8, hf⟩ := fc_un (show (20 : Nat) < 100 from by decide) hf
  have f8 : (v_iv (n_v vs 1) + 1) ≤ (4 * (w_fi ws (n_v vs 0) 4 * w_fi ws (n_v vs 0) 5)) := f8
  obtain ⟨f9, hf⟩ := fc_un (show (20 : Nat) < 100 from by decide) hf
  have f9 : (∀ j0 : Int, 0 ≤ j0 → j0 < 4 → ((w_ei ws (w_ar ws (n_v vs 0) 11) (j0) + 1) ≤ w_fi ws (n_v vs 0) 14)) ∧ (∀ j0 : Int, 0 ≤ j0 → j0 < w_fi ws (n_v vs 0) 14 → (((w_ei ws (w_ar ws (n_v vs 0) 12) (j0) + 1) ≤ (4 * (w_fi ws (n_v vs 0) 4 * w_fi ws (n_v vs 0) 5))) ∧ ((w_ei ws (w_ar ws (n_v vs 0) 13) (j0) + 1) ≤ w_fi ws (n_v vs 0) 14))) := f9
  obtain ⟨f10, hf⟩ := fc_un (show (20 : Nat) < 100 from by decide) hf
  have f10 : 1 * w_fi ws (n_v vs 0) 14 + ((-1) * v_iv (n_v vs 3) + 0) ≤ 0 := f10
  obtain ⟨f11, hf⟩ := fc_un (show (20 : Nat) < 100 from by decide) hf
  have f11 : (-1) * w_fi ws (n_v vs 0) 14 + (1 * v_iv (n_v vs 3) + 0) ≤ 0 := f11
  have cr_0_11 : ta (w_ar ws (n_v vs 0) 11) = some 113 := tv_rg (th_fd hD hth r0 (g := GG_9) rfl (k := 11) (t := (2, 0, 0, [113])) rfl rfl)
  have cr_0_12 : ta (w_ar ws (n_v vs 0) 12) = some 114 := tv_rg (th_fd hD hth r0 (g := GG_9) rfl (k := 12) (t := (2, 0, 0, [114])) rfl rfl)
  have cr_0_13 : ta (w_ar ws (n_v vs 0) 13) = some 115 := tv_rg (th_fd hD hth r0 (g := GG_9) rfl (k := 13) (t := (2, 0, 0, [115])) rfl rfl)
  have g1 : v_iv (n_v vs 12) = w_fi ws (n_v vs 0) 6 := congrArg v_iv f1
  have hK_0_11 : ∀ j : Int, 0 ≤ j → j < 4 → (-1) ≤ w_ei ws (w_ar ws (n_v vs 0) 11) j ∧ w_ei ws (w_ar ws (n_v vs 0) 11) j ≤ 48003 := fun j h0 h1 => th_el hD hth cr_0_11 (kd := 0) (n := 4) (m := 4) (lo := (-1)) (hi := 48003) (rs := []) (L := []) rfl (by decide) (j := j.toNat) (by omega)
  have hK_0_12 : ∀ j : Int, 0 ≤ j → j < 48004 → 0 ≤ w_ei ws (w_ar ws (n_v vs 0) 12) j ∧ w_ei ws (w_ar ws (n_v vs 0) 12) j ≤ 23999 := fun j h0 h1 => th_el hD hth cr_0_12 (kd := 0) (n := 48004) (m := 48004) (lo := 0) (hi := 23999) (rs := []) (L := []) rfl (by decide) (j := j.toNat) (by omega)
  have hK_0_13 : ∀ j : Int, 0 ≤ j → j < 48004 → (-1) ≤ w_ei ws (w_ar ws (n_v vs 0) 13) j ∧ w_ei ws (w_ar ws (n_v vs 0) 13) j ≤ 48003 := fun j h0 h1 => th_el hD hth cr_0_13 (kd := 0) (n := 48004) (m := 48004) (lo := (-1)) (hi := 48003) (rs := []) (L := []) rfl (by decide) (j := j.toNat) (by omega)
  have kz_0_4 : (-2147483648) ≤ w_fi ws (n_v vs 0) 4 ∧ w_fi ws (n_v vs 0) 4 ≤ 2147483647 := tv_rng (th_fd hD hth r0 (g := GG_9) rfl (k := 4) (t := (0, -2147483648, 2147483647, [])) rfl rfl)
  have kz_0_5 : (-2147483648) ≤ w_fi ws (n_v vs 0) 5 ∧ w_fi ws (n_v vs 0) 5 ≤ 2147483647 := tv_rng (th_fd hD hth r0 (g := GG_9) rfl (k := 5) (t := (0, -2147483648, 2147483647, [])) rfl rfl)
  have kz_0_6 : 0 ≤ w_fi ws (n_v vs 0) 6 ∧ w_fi ws (n_v vs 0) 6 ≤ 5999 := tv_rng (th_fd hD hth r0 (g := GG_9) rfl (k := 6) (t := (0, 0, 5999, [])) rfl rfl)
  have kz_0_14 : 0 ≤ w_fi ws (n_v vs 0) 14 ∧ w_fi ws (n_v vs 0) 14 ≤ 48004 := tv_rng (th_fd hD hth r0 (g := GG_9) rfl (k := 14) (t := (0, 0, 48004, [])) rfl rfl)
  have nf0 : fc_1 (20, [10, 0], [50, 2, 0, 1004, 1005, 0, 6, 4, 2, 1, 0, 0, 1, 6, 3, 2, 1, 4, 2, 1, 5]) ws (vs) := by
    refine ⟨fun n hn => ?_, ?_⟩
    · have hn : n ∈ [10, 0] := hn
      rw [hl]
      simp only [List.mem_cons, List.not_mem_nil, or_false] at hn
      show n < 16; omega
    · show (v_iv (n_v vs 10) + 1) ≤ (w_fi ws (n_v vs 0) 4 * w_fi ws (n_v vs 0) 5)
      first | omega | grind
  have nf1 : fc_1 (20, [3, 0], [30, 0, 1, 0, 0, -1, 1, 14]) ws (vs) := by
    refine ⟨fun n hn => ?_, ?_⟩
    · have hn : n ∈ [3, 0] := hn
      rw [hl]
      simp only [List.mem_cons, List.not_mem_nil, or_false] at hn
      show n < 16; omega
    · show 1 * v_iv (n_v vs 3) + ((-1) * w_fi ws (n_v vs 0) 14 + 0) ≤ 0
      omega
  have nf2 : fc_1 (24, [0, 0], []) ws (vs) := by
    refine ⟨fun n hn => ?_, ?_⟩
    · have hn : n ∈ [0, 0] := hn
      rw [hl]
      simp only [List.mem_cons, List.not_mem_nil, or_false] at hn
      show n < 16; omega
    · show n_v vs 0 = n_v vs 0
      first | rfl | simp only [true_and]
  refine ⟨(fun _ h => (by cases h)), [], trivial, ?_, (fun _ h => (by cases h))⟩
  rw [List.append_nil]
  exact List.forall_mem_cons.mpr ⟨⟨show (20 : Nat) < 100 from by decide, nf0⟩, List.forall_mem_cons.mpr ⟨⟨show (20 : Nat) < 100 from by decide, nf1⟩, List.forall_mem_cons.mpr ⟨⟨show (24 : Nat) < 100 from by decide, nf2⟩, (fun _ h => (by cases h))⟩⟩⟩
def o_Ro_goBack_2 : or_T := (56, 15, [(0, (2, 0, 0, [9])), (1, (0, 0, 23999, [])), (3, (0, 0, 48004, [])), (5, (0, 0, 3, [])), (7, (0, 0, 5999, [])), (10, (0, 0, 5999, [])), (11, (0, -1, -1, [])), (12, (0, 0, 5999, []))], [(7, [10, 12], [1]), (9, [12, 0], [6]), (7, [10, 11], [1]), (20, [10, 0], [50, 2, 0, 1004, 1005, 3, 6, 1, 2, 1, 0, 0, -1, 2, 6, 0, 2, 0, 0, 1, 0, 0, 6, 4, 2, 1, 0, 0, 1, 6, 3, 2, 1, 4, 2, 1, 5]), (20, [7, 0], [50, 2, 0, 1004, 1005, 0, 6, 4, 2, 1, 0, 0, 1, 6, 3, 2, 1, 4, 2, 1, 5]), (11, [7, 1], [4]), (12, [5, 1], [4]), (20, [0], [50, 2, 0, 4, 5, 2, 7, 0, 2, 0, 1, 2, 0, 4, 2, 7, 0, 2, 0, 1, 2, 0, 5, 0, 8, 6, 3, 2, 0, 4, 2, 0, 5, 0, 6000]), (20, [1, 0], [50, 2, 0, 1004, 1005, 0, 6, 4, 2, 1, 0, 0, 1, 6, 2, 0, 4, 6, 3, 2, 1, 4, 2, 1, 5]), (20, [0], [50, 3, 3, 14, 4, 5, 11, 12, 13, 2, 18, 5, 2, 0, 4, 0, 9, 4, 5, 3, 0, 11, 7, 0, 0, 1, 2, 0, 14, 5, 3, 2, 0, 14, 2, 23, 0, 9, 4, 5, 3, 0, 12, 7, 0, 0, 1, 6, 2, 0, 4, 6, 3, 2, 0, 4, 2, 0, 5, 0, 9, 4, 5, 3, 0, 13, 7, 0, 0, 1, 2, 0, 14]), (20, [0, 3], [30, 0, 1, 1, 14, -1, 0, 0]), (20, [0, 3], [30, 0, -1, 1, 14, 1, 0, 0])], [], [], [(20, [3, 0], [30, 0, 1, 0, 0, -1, 1, 14])], [], [])
theorem oo_Ro_goBack_2 {kA : Nat → ClassId} : or_ok kA GG o_Ro_goBack_2 := by
  intro A ta ws vs hD hth hl hk hds hf
  have hl : vs.length = 15 := hl
  have hk : ∀ q ∈ ([(0, (2, 0, 0, [9])), (1, (0, 0, 23999, [])), (3, (0, 0, 48004, [])), (5, (0, 0, 3, [])), (7, (0, 0, 5999, [])), (10, (0, 0, 5999, [])), (11, (0, -1, -1, [])), (12, (0, 0, 5999, []))] : List (Nat × tv_T)), tv_ok ta q.2 (n_v vs q.1) := hk
  obtain ⟨t0, hk⟩ := List.forall_mem_cons.mp hk
  have t0 : tv_ok ta (2, 0, 0, [9]) (n_v vs 0) := t0
  have r0 : ta (v_ad (n_v vs 0)) = some 9 := tv_rg t0
  obtain ⟨t1, hk⟩ := List.forall_mem_cons.mp hk
  have t1 : tv_ok ta (0, 0, 23999, []) (n_v vs 1) := t1
  have k1 : 0 ≤ v_iv (n_v vs 1) ∧ v_iv (n_v vs 1) ≤ 23999 := tv_rng t1
  obtain ⟨t3, hk⟩ := List.forall_mem_cons.mp hk
  have t3 : tv_ok ta (0, 0, 48004, []) (n_v vs 3) := t3
  have k3 : 0 ≤ v_iv (n_v vs 3) ∧ v_iv (n_v vs 3) ≤ 48004 := tv_rng t3
  obtain ⟨t5, hk⟩ := List.forall_mem_cons.mp hk
  have t5 : tv_ok ta (0, 0, 3, []) (n_v vs 5) := t5
  have k5 : 0 ≤ v_iv (n_v vs 5) ∧ v_iv (n_v vs 5) ≤ 3 := tv_rng t5
  obtain ⟨t7, hk⟩ := List.forall_mem_cons.mp hk
  have t7 : tv_ok ta (0, 0, 5999, []) (n_v vs 7) := t7
  have k7 : 0 ≤ v_iv (n_v vs 7) ∧ v_iv (n_v vs 7) ≤ 5999 := tv_rng t7
  obtain ⟨t10, hk⟩ := List.forall_mem_cons.mp hk
  have t10 : tv_ok ta (0, 0, 5999, []) (n_v vs 10) := t10
  have k10 : 0 ≤ v_iv (n_v vs 10) ∧ v_iv (n_v vs 10) ≤ 5999 := tv_rng t10
  obtain ⟨t11, hk⟩ := List.forall_mem_cons.mp hk
  have t11 : tv_ok ta (0, -1, -1, []) (n_v vs 11) := t11
  have k11 : (-1) ≤ v_iv (n_v vs 11) ∧ v_iv (n_v vs 11) ≤ (-1) := tv_rng t11
  obtain ⟨t12, hk⟩ := List.forall_mem_cons.mp hk
  have t12 : tv_ok ta (0, 0, 5999, []) (n_v vs 12) := t12
  have k12 : 0 ≤ v_iv (n_v vs 12) ∧ v_iv (n_v vs 12) ≤ 5999 := tv_rng t12
  have hf : fc_ok [(7, [10, 12], [1]), (9, [12, 0], [6]), (7, [10, 11], [1]), (20, [10, 0], [50, 2, 0, 1004, 1005, 3, 6, 1, 2, 1, 0, 0, -1, 2, 6, 0, 2, 0, 0, 1, 0, 0, 6, 4, 2, 1, 0, 0, 1, 6, 3, 2, 1, 4, 2, 1, 5]), (20, [7, 0], [50, 2, 0, 1004, 1005, 0, 6, 4, 2, 1, 0, 0, 1, 6, 3, 2, 1, 4, 2, 1, 5]), (11, [7, 1], [4]), (12, [5, 1], [4]), (20, [0], [50, 2, 0, 4, 5, 2, 7, 0, 2, 0, 1, 2, 0, 4, 2, 7, 0, 2, 0, 1, 2, 0, 5, 0, 8, 6, 3, 2, 0, 4, 2, 0, 5, 0, 6000]), (20, [1, 0], [50, 2, 0, 1004, 1005, 0, 6, 4, 2, 1, 0, 0, 1, 6, 2, 0, 4, 6, 3, 2, 1, 4, 2, 1, 5]), (20, [0], [50, 3, 3, 14, 4, 5, 11, 12, 13, 2, 18, 5, 2, 0, 4, 0, 9, 4, 5, 3, 0, 11, 7, 0, 0, 1, 2, 0, 14, 5, 3, 2, 0, 14, 2, 23, 0, 9, 4, 5, 3, 0, 12, 7, 0, 0, 1, 6, 2, 0, 4, 6, 3, 2, 0, 4, 2, 0, 5, 0, 9, 4, 5, 3, 0, 13, 7, 0, 0, 1, 2, 0, 14]), (20, [0, 3], [30, 0, 1, 1, 14, -1, 0, 0]), (20, [0, 3], [30, 0, -1, 1, 14, 1, 0, 0])] ta ws vs := hf
  obtain ⟨f0, hf⟩ := fc_un (show (7 : Nat) < 100 from by decide) hf
  have f0 : v_iv (n_v vs 10) ≠ v_iv (n_v vs 12) := f0
  obtain ⟨f1, hf⟩ := fc_un (show (9 : Nat) < 100 from by decide) hf
  have f1 : n_v vs 12 = w_fd ws (v_ad (n_v vs 0)) 6 := f1
  obtain ⟨f2, hf⟩ := fc_un (show (7 : Nat) < 100 from by decide) hf
  have f2 : v_iv (n_v vs 10) ≠ v_iv (n_v vs 11) := f2
  obtain ⟨f3, hf⟩ := fc_un (show (20 : Nat) < 100 from by decide) hf
  have f3 : (v_iv (n_v vs 10) = (-1)) ∨ ((0 ≤ v_iv (n_v vs 10)) ∧ ((v_iv (n_v vs 10) + 1) ≤ (w_fi ws (n_v vs 0) 4 * w_fi ws (n_v vs 0) 5))) := f3
  obtain ⟨f4, hf⟩ := fc_un (show (20 : Nat) < 100 from by decide) hf
  have f4 : (v_iv (n_v vs 7) + 1) ≤ (w_fi ws (n_v vs 0) 4 * w_fi ws (n_v vs 0) 5) := f4
  obtain ⟨f5, hf⟩ := fc_un (show (11 : Nat) < 100 from by decide) hf
  have f5 : v_iv (n_v vs 7) = v_iv (n_v vs 1) / 4 := f5
  obtain ⟨f6, hf⟩ := fc_un (show (12 : Nat) < 100 from by decide) hf
  have f6 : v_iv (n_v vs 5) = v_iv (n_v vs 1) % 4 := f6
  obtain ⟨f7, hf⟩ := fc_un (show (20 : Nat) < 100 from by decide) hf
  have f7 : (1 ≤ w_fi ws (n_v vs 0) 4) ∧ ((1 ≤ w_fi ws (n_v vs 0) 5) ∧ ((w_fi ws (n_v vs 0) 4 * w_fi ws (n_v vs 0) 5) ≤ 6000)) := f7
  obtain ⟨f8, hf⟩ := fc_un (show (20 : Nat) < 100 from by decide) hf
  have f8 : (v_iv (n_v vs 1) + 1) ≤ (4 * (w_fi ws (n_v vs 0) 4 * w_fi ws (n_v vs 0) 5)) := f8
  obtain ⟨f9, hf⟩ := fc_un (show (20 : Nat) < 100 from by decide) hf
  have f9 : (∀ j0 : Int, 0 ≤ j0 → j0 < 4 → ((w_ei ws (w_ar ws (n_v vs 0) 11) (j0) + 1) ≤ w_fi ws (n_v vs 0) 14)) ∧ (∀ j0 : Int, 0 ≤ j0 → j0 < w_fi ws (n_v vs 0) 14 → (((w_ei ws (w_ar ws (n_v vs 0) 12) (j0) + 1) ≤ (4 * (w_fi ws (n_v vs 0) 4 * w_fi ws (n_v vs 0) 5))) ∧ ((w_ei ws (w_ar ws (n_v vs 0) 13) (j0) + 1) ≤ w_fi ws (n_v vs 0) 14))) := f9
  obtain ⟨f10, hf⟩ := fc_un (show (20 : Nat) < 100 from by decide) hf
  have f10 : 1 * w_fi ws (n_v vs 0) 14 + ((-1) * v_iv (n_v vs 3) + 0) ≤ 0 := f10
  obtain ⟨f11, hf⟩ := fc_un (show (20 : Nat) < 100 from by decide) hf
  have f11 : (-1) * w_fi ws (n_v vs 0) 14 + (1 * v_iv (n_v vs 3) + 0) ≤ 0 := f11
  have cr_0_11 : ta (w_ar ws (n_v vs 0) 11) = some 113 := tv_rg (th_fd hD hth r0 (g := GG_9) rfl (k := 11) (t := (2, 0, 0, [113])) rfl rfl)
  have cr_0_12 : ta (w_ar ws (n_v vs 0) 12) = some 114 := tv_rg (th_fd hD hth r0 (g := GG_9) rfl (k := 12) (t := (2, 0, 0, [114])) rfl rfl)
  have cr_0_13 : ta (w_ar ws (n_v vs 0) 13) = some 115 := tv_rg (th_fd hD hth r0 (g := GG_9) rfl (k := 13) (t := (2, 0, 0, [115])) rfl rfl)
  have g1 : v_iv (n_v vs 12) = w_fi ws (n_v vs 0) 6 := congrArg v_iv f1
  have hK_0_11 : ∀ j : Int, 0 ≤ j → j < 4 → (-1) ≤ w_ei ws (w_ar ws (n_v vs 0) 11) j ∧ w_ei ws (w_ar ws (n_v vs 0) 11) j ≤ 48003 := fun j h0 h1 => th_el hD hth cr_0_11 (kd := 0) (n := 4) (m := 4) (lo := (-1)) (hi := 48003) (rs := []) (L := []) rfl (by decide) (j := j.toNat) (by omega)
  have hK_0_12 : ∀ j : Int, 0 ≤ j → j < 48004 → 0 ≤ w_ei ws (w_ar ws (n_v vs 0) 12) j ∧ w_ei ws (w_ar ws (n_v vs 0) 12) j ≤ 23999 := fun j h0 h1 => th_el hD hth cr_0_12 (kd := 0) (n := 48004) (m := 48004) (lo := 0) (hi := 23999) (rs := []) (L := []) rfl (by decide) (j := j.toNat) (by omega)
  have hK_0_13 : ∀ j : Int, 0 ≤ j → j < 48004 → (-1) ≤ w_ei ws (w_ar ws (n_v vs 0) 13) j ∧ w_ei ws (w_ar ws (n_v vs 0) 13) j ≤ 48003 := fun j h0 h1 => th_el hD hth cr_0_13 (kd := 0) (n := 48004) (m := 48004) (lo := (-1)) (hi := 48003) (rs := []) (L := []) rfl (by decide) (j := j.toNat) (by omega)
  have kz_0_4 : (-2147483648) ≤ w_fi ws (n_v vs 0) 4 ∧ w_fi ws (n_v vs 0) 4 ≤ 2147483647 := tv_rng (th_fd hD hth r0 (g := GG_9) rfl (k := 4) (t := (0, -2147483648, 2147483647, [])) rfl rfl)
  have kz_0_5 : (-2147483648) ≤ w_fi ws (n_v vs 0) 5 ∧ w_fi ws (n_v vs 0) 5 ≤ 2147483647 := tv_rng (th_fd hD hth r0 (g := GG_9) rfl (k := 5) (t := (0, -2147483648, 2147483647, [])) rfl rfl)
  have kz_0_6 : 0 ≤ w_fi ws (n_v vs 0) 6 ∧ w_fi ws (n_v vs 0) 6 ≤ 5999 := tv_rng (th_fd hD hth r0 (g := GG_9) rfl (k := 6) (t := (0, 0, 5999, [])) rfl rfl)
  have kz_0_14 : 0 ≤ w_fi ws (n_v vs 0) 14 ∧ w_fi ws (n_v vs 0) 14 ≤ 48004 := tv_rng (th_fd hD hth r0 (g := GG_9) rfl (k := 14) (t := (0, 0, 48004, [])) rfl rfl)
  have nf0 : fc_1 (20, [3, 0], [30, 0, 1, 0, 0, -1, 1, 14]) ws (vs) := by
    refine ⟨fun n hn => ?_, ?_⟩
    · have hn : n ∈ [3, 0] := hn
      rw [hl]
      simp only [List.mem_cons, List.not_mem_nil, or_false] at hn
      show n < 15; omega
    · show 1 * v_iv (n_v vs 3) + ((-1) * w_fi ws (n_v vs 0) 14 + 0) ≤ 0
      omega
  refine ⟨(fun _ h => (by cases h)), [], trivial, ?_, (fun _ h => (by cases h))⟩
  rw [List.append_nil]
  exact List.forall_mem_cons.mpr ⟨⟨show (20 : Nat) < 100 from by decide, nf0⟩, (fun _ h => (by cases h))⟩
def o_Ro_goBack_3 : or_T := (60, 20, [(0, (2, 0, 0, [9])), (1, (0, 0, 23999, [])), (3, (0, 0, 48004, [])), (5, (0, 0, 3, [])), (7, (0, 0, 5999, [])), (10, (0, 0, 5999, [])), (11, (0, -1, -1, [])), (12, (0, 0, 5999, []))], [(20, [10, 0], [50, 2, 0, 1004, 1005, 3, 6, 1, 2, 1, 0, 0, -1, 2, 6, 0, 2, 0, 0, 1, 0, 0, 6, 4, 2, 1, 0, 0, 1, 6, 3, 2, 1, 4, 2, 1, 5]), (20, [7, 0], [50, 2, 0, 1004, 1005, 0, 6, 4, 2, 1, 0, 0, 1, 6, 3, 2, 1, 4, 2, 1, 5]), (20, [0], [50, 2, 0, 4, 5, 2, 7, 0, 2, 0, 1, 2, 0, 4, 2, 7, 0, 2, 0, 1, 2, 0, 5, 0, 8, 6, 3, 2, 0, 4, 2, 0, 5, 0, 6000]), (20, [1, 0], [50, 2, 0, 1004, 1005, 0, 6, 4, 2, 1, 0, 0, 1, 6, 2, 0, 4, 6, 3, 2, 1, 4, 2, 1, 5]), (20, [0], [50, 3, 3, 14, 4, 5, 11, 12, 13, 2, 18, 5, 2, 0, 4, 0, 9, 4, 5, 3, 0, 11, 7, 0, 0, 1, 2, 0, 14, 5, 3, 2, 0, 14, 2, 23, 0, 9, 4, 5, 3, 0, 12, 7, 0, 0, 1, 6, 2, 0, 4, 6, 3, 2, 0, 4, 2, 0, 5, 0, 9, 4, 5, 3, 0, 13, 7, 0, 0, 1, 2, 0, 14]), (20, [0, 3], [30, 0, 1, 1, 14, -1, 0, 0]), (20, [0, 3], [30, 0, -1, 1, 14, 1, 0, 0]), (101, [0, 16], [8]), (7, [10, 12], [0]), (9, [12, 0], [6]), (7, [10, 11], [1]), (20, [10, 0], [50, 2, 0, 1004, 1005, 3, 6, 1, 2, 1, 0, 0, -1, 2, 6, 0, 2, 0, 0, 1, 0, 0, 6, 4, 2, 1, 0, 0, 1, 6, 3, 2, 1, 4, 2, 1, 5]), (20, [7, 0], [50, 2, 0, 1004, 1005, 0, 6, 4, 2, 1, 0, 0, 1, 6, 3, 2, 1, 4, 2, 1, 5]), (11, [7, 1], [4]), (12, [5, 1], [4]), (20, [0], [50, 2, 0, 4, 5, 2, 7, 0, 2, 0, 1, 2, 0, 4, 2, 7, 0, 2, 0, 1, 2, 0, 5, 0, 8, 6, 3, 2, 0, 4, 2, 0, 5, 0, 6000]), (20, [1, 0], [50, 2, 0, 1004, 1005, 0, 6, 4, 2, 1, 0, 0, 1, 6, 2, 0, 4, 6, 3, 2, 1, 4, 2, 1, 5]), (20, [0], [50, 3, 3, 14, 4, 5, 11, 12, 13, 2, 18, 5, 2, 0, 4, 0, 9, 4, 5, 3, 0, 11, 7, 0, 0, 1, 2, 0, 14, 5, 3, 2, 0, 14, 2, 23, 0, 9, 4, 5, 3, 0, 12, 7, 0, 0, 1, 6, 2, 0, 4, 6, 3, 2, 0, 4, 2, 0, 5, 0, 9, 4, 5, 3, 0, 13, 7, 0, 0, 1, 2, 0, 14]), (20, [0, 3], [30, 0, 1, 1, 14, -1, 0, 0]), (20, [0, 3], [30, 0, -1, 1, 14, 1, 0, 0])], [], [], [(20, [10, 0], [50, 2, 0, 1004, 1005, 0, 6, 4, 2, 1, 0, 0, 1, 6, 3, 2, 1, 4, 2, 1, 5]), (20, [3, 0], [30, 0, 1, 0, 0, -1, 1, 14]), (24, [0, 0], [])], [], [(10, 12, 0, 0)])
theorem oo_Ro_goBack_3 {kA : Nat → ClassId} : or_ok kA GG o_Ro_goBack_3 := by
  intro A ta ws vs hD hth hl hk hds hf
  have hl : vs.length = 20 := hl
  have hk : ∀ q ∈ ([(0, (2, 0, 0, [9])), (1, (0, 0, 23999, [])), (3, (0, 0, 48004, [])), (5, (0, 0, 3, [])), (7, (0, 0, 5999, [])), (10, (0, 0, 5999, [])), (11, (0, -1, -1, [])), (12, (0, 0, 5999, []))] : List (Nat × tv_T)), tv_ok ta q.2 (n_v vs q.1) := hk
  obtain ⟨t0, hk⟩ := List.forall_mem_cons.mp hk
  have t0 : tv_ok ta (2, 0, 0, [9]) (n_v vs 0) := t0
  have r0 : ta (v_ad (n_v vs 0)) = some 9 := tv_rg t0
  obtain ⟨t1, hk⟩ := List.forall_mem_cons.mp hk
  have t1 : tv_ok ta (0, 0, 23999, []) (n_v vs 1) := t1
  have k1 : 0 ≤ v_iv (n_v vs 1) ∧ v_iv (n_v vs 1) ≤ 23999 := tv_rng t1
  obtain ⟨t3, hk⟩ := List.forall_mem_cons.mp hk
  have t3 : tv_ok ta (0, 0, 48004, []) (n_v vs 3) := t3
  have k3 : 0 ≤ v_iv (n_v vs 3) ∧ v_iv (n_v vs 3) ≤ 48004 := tv_rng t3
  obtain ⟨t5, hk⟩ := List.forall_mem_cons.mp hk
  have t5 : tv_ok ta (0, 0, 3, []) (n_v vs 5) := t5
  have k5 : 0 ≤ v_iv (n_v vs 5) ∧ v_iv (n_v vs 5) ≤ 3 := tv_rng t5
  obtain ⟨t7, hk⟩ := List.forall_mem_cons.mp hk
  have t7 : tv_ok ta (0, 0, 5999, []) (n_v vs 7) := t7
  have k7 : 0 ≤ v_iv (n_v vs 7) ∧ v_iv (n_v vs 7) ≤ 5999 := tv_rng t7
  obtain ⟨t10, hk⟩ := List.forall_mem_cons.mp hk
  have t10 : tv_ok ta (0, 0, 5999, []) (n_v vs 10) := t10
  have k10 : 0 ≤ v_iv (n_v vs 10) ∧ v_iv (n_v vs 10) ≤ 5999 := tv_rng t10
  obtain ⟨t11, hk⟩ := List.forall_mem_cons.mp hk
  have t11 : tv_ok ta (0, -1, -1, []) (n_v vs 11) := t11
  have k11 : (-1) ≤ v_iv (n_v vs 11) ∧ v_iv (n_v vs 11) ≤ (-1) := tv_rng t11
  obtain ⟨t12, hk⟩ := List.forall_mem_cons.mp hk
  have t12 : tv_ok ta (0, 0, 5999, []) (n_v vs 12) := t12
  have k12 : 0 ≤ v_iv (n_v vs 12) ∧ v_iv (n_v vs 12) ≤ 5999 := tv_rng t12
  have hds : ∀ q ∈ ([(10, 12, 0, 0)] : List of_T), n_iv vs q.2.1 + q.2.2.1 ≤ n_iv vs q.1 ∧ n_iv vs q.1 ≤ n_iv vs q.2.1 + q.2.2.2 := hds
  obtain ⟨d0, hds⟩ := List.forall_mem_cons.mp hds
  have d0 : v_iv (n_v vs 12) + 0 ≤ v_iv (n_v vs 10) ∧ v_iv (n_v vs 10) ≤ v_iv (n_v vs 12) + 0 := d0
  have hf : fc_ok [(20, [10, 0], [50, 2, 0, 1004, 1005, 3, 6, 1, 2, 1, 0, 0, -1, 2, 6, 0, 2, 0, 0, 1, 0, 0, 6, 4, 2, 1, 0, 0, 1, 6, 3, 2, 1, 4, 2, 1, 5]), (20, [7, 0], [50, 2, 0, 1004, 1005, 0, 6, 4, 2, 1, 0, 0, 1, 6, 3, 2, 1, 4, 2, 1, 5]), (20, [0], [50, 2, 0, 4, 5, 2, 7, 0, 2, 0, 1, 2, 0, 4, 2, 7, 0, 2, 0, 1, 2, 0, 5, 0, 8, 6, 3, 2, 0, 4, 2, 0, 5, 0, 6000]), (20, [1, 0], [50, 2, 0, 1004, 1005, 0, 6, 4, 2, 1, 0, 0, 1, 6, 2, 0, 4, 6, 3, 2, 1, 4, 2, 1, 5]), (20, [0], [50, 3, 3, 14, 4, 5, 11, 12, 13, 2, 18, 5, 2, 0, 4, 0, 9, 4, 5, 3, 0, 11, 7, 0, 0, 1, 2, 0, 14, 5, 3, 2, 0, 14, 2, 23, 0, 9, 4, 5, 3, 0, 12, 7, 0, 0, 1, 6, 2, 0, 4, 6, 3, 2, 0, 4, 2, 0, 5, 0, 9, 4, 5, 3, 0, 13, 7, 0, 0, 1, 2, 0, 14]), (20, [0, 3], [30, 0, 1, 1, 14, -1, 0, 0]), (20, [0, 3], [30, 0, -1, 1, 14, 1, 0, 0]), (101, [0, 16], [8]), (7, [10, 12], [0]), (9, [12, 0], [6]), (7, [10, 11], [1]), (20, [10, 0], [50, 2, 0, 1004, 1005, 3, 6, 1, 2, 1, 0, 0, -1, 2, 6, 0, 2, 0, 0, 1, 0, 0, 6, 4, 2, 1, 0, 0, 1, 6, 3, 2, 1, 4, 2, 1, 5]), (20, [7, 0], [50, 2, 0, 1004, 1005, 0, 6, 4, 2, 1, 0, 0, 1, 6, 3, 2, 1, 4, 2, 1, 5]), (11, [7, 1], [4]), (12, [5, 1], [4]), (20, [0], [50, 2, 0, 4, 5, 2, 7, 0, 2, 0, 1, 2, 0, 4, 2, 7, 0, 2, 0, 1, 2, 0, 5, 0, 8, 6, 3, 2, 0, 4, 2, 0, 5, 0, 6000]), (20, [1, 0], [50, 2, 0, 1004, 1005, 0, 6, 4, 2, 1, 0, 0, 1, 6, 2, 0, 4, 6, 3, 2, 1, 4, 2, 1, 5]), (20, [0], [50, 3, 3, 14, 4, 5, 11, 12, 13, 2, 18, 5, 2, 0, 4, 0, 9, 4, 5, 3, 0, 11, 7, 0, 0, 1, 2, 0, 14, 5, 3, 2, 0, 14, 2, 23, 0, 9, 4, 5, 3, 0, 12, 7, 0, 0, 1, 6, 2, 0, 4, 6, 3, 2, 0, 4, 2, 0, 5, 0, 9, 4, 5, 3, 0, 13, 7, 0, 0, 1, 2, 0, 14]), (20, [0, 3], [30, 0, 1, 1, 14, -1, 0, 0]), (20, [0, 3], [30, 0, -1, 1, 14, 1, 0, 0])] ta ws vs := hf
  obtain ⟨f0, hf⟩ := fc_un (show (20 : Nat) < 100 from by decide) hf
  have f0 : (v_iv (n_v vs 10) = (-1)) ∨ ((0 ≤ v_iv (n_v vs 10)) ∧ ((v_iv (n_v vs 10) + 1) ≤ (w_fi ws (n_v vs 0) 4 * w_fi ws (n_v vs 0) 5))) := f0
  obtain ⟨f1, hf⟩ := fc_un (show (20 : Nat) < 100 from by decide) hf
  have f1 : (v_iv (n_v vs 7) + 1) ≤ (w_fi ws (n_v vs 0) 4 * w_fi ws (n_v vs 0) 5) := f1
  obtain ⟨f2, hf⟩ := fc_un (show (20 : Nat) < 100 from by decide) hf
  have f2 : (1 ≤ w_fi ws (n_v vs 0) 4) ∧ ((1 ≤ w_fi ws (n_v vs 0) 5) ∧ ((w_fi ws (n_v vs 0) 4 * w_fi ws (n_v vs 0) 5) ≤ 6000)) := f2
  obtain ⟨f3, hf⟩ := fc_un (show (20 : Nat) < 100 from by decide) hf
  have f3 : (v_iv (n_v vs 1) + 1) ≤ (4 * (w_fi ws (n_v vs 0) 4 * w_fi ws (n_v vs 0) 5)) := f3
  obtain ⟨f4, hf⟩ := fc_un (show (20 : Nat) < 100 from by decide) hf
  have f4 : (∀ j0 : Int, 0 ≤ j0 → j0 < 4 → ((w_ei ws (w_ar ws (n_v vs 0) 11) (j0) + 1) ≤ w_fi ws (n_v vs 0) 14)) ∧ (∀ j0 : Int, 0 ≤ j0 → j0 < w_fi ws (n_v vs 0) 14 → (((w_ei ws (w_ar ws (n_v vs 0) 12) (j0) + 1) ≤ (4 * (w_fi ws (n_v vs 0) 4 * w_fi ws (n_v vs 0) 5))) ∧ ((w_ei ws (w_ar ws (n_v vs 0) 13) (j0) + 1) ≤ w_fi ws (n_v vs 0) 14))) := f4
  obtain ⟨f5, hf⟩ := fc_un (show (20 : Nat) < 100 from by decide) hf
  have f5 : 1 * w_fi ws (n_v vs 0) 14 + ((-1) * v_iv (n_v vs 3) + 0) ≤ 0 := f5
  obtain ⟨f6, hf⟩ := fc_un (show (20 : Nat) < 100 from by decide) hf
  have f6 : (-1) * w_fi ws (n_v vs 0) 14 + (1 * v_iv (n_v vs 3) + 0) ≤ 0 := f6
  obtain ⟨ta1, w1, le1, ⟨_, s1⟩, hf⟩ := fc_us (show ¬ (101 : Nat) < 100 from by decide) hf
  have s1 : (∀ b j, w_el ws b j = w_el w1 b j) ∧ ∀ b j, w_fd ws b j = if b = v_ad (n_v vs 0) ∧ j = 8 then n_v vs 16 else w_fd w1 b j := s1
  obtain ⟨f8, hf⟩ := fc_un (show (7 : Nat) < 100 from by decide) hf
  have f8 : v_iv (n_v vs 10) = v_iv (n_v vs 12) := f8
  obtain ⟨f9, hf⟩ := fc_un (show (9 : Nat) < 100 from by decide) hf
  have f9 : n_v vs 12 = w_fd w1 (v_ad (n_v vs 0)) 6 := f9
  obtain ⟨f10, hf⟩ := fc_un (show (7 : Nat) < 100 from by decide) hf
  have f10 : v_iv (n_v vs 10) ≠ v_iv (n_v vs 11) := f10
  obtain ⟨f11, hf⟩ := fc_un (show (20 : Nat) < 100 from by decide) hf
  have f11 : (v_iv (n_v vs 10) = (-1)) ∨ ((0 ≤ v_iv (n_v vs 10)) ∧ ((v_iv (n_v vs 10) + 1) ≤ (w_fi w1 (n_v vs 0) 4 * w_fi w1 (n_v vs 0) 5))) := f11
  obtain ⟨f12, hf⟩ := fc_un (show (20 : Nat) < 100 from by decide) hf
  have f12 : (v_iv (n_v vs 7) + 1) ≤ (w_fi w1 (n_v vs 0) 4 * w_fi w1 (n_v vs 0) 5) := f12
  obtain ⟨f13, hf⟩ := fc_un (show (11 : Nat) < 100 from by decide) hf
  have f13 : v_iv (n_v vs 7) = v_iv (n_v vs 1) / 4 := f13
  obtain ⟨f14, hf⟩ := fc_un (show (12 : Nat) < 100 from by decide) hf
  have f14 : v_iv (n_v vs 5) = v_iv (n_v vs 1) % 4 := f14
  obtain ⟨f15, hf⟩ := fc_un (show (20 : Nat) < 100 from by decide) hf
  have f15 : (1 ≤ w_fi w1 (n_v vs 0) 4) ∧ ((1 ≤ w_fi w1 (n_v vs 0) 5) ∧ ((w_fi w1 (n_v vs 0) 4 * w_fi w1 (n_v vs 0) 5) ≤ 6000)) := f15
  obtain ⟨f16, hf⟩ := fc_un (show (20 : Nat) < 100 from by decide) hf
  have f16 : (v_iv (n_v vs 1) + 1) ≤ (4 * (w_fi w1 (n_v vs 0) 4 * w_fi w1 (n_v vs 0) 5)) := f16
  obtain ⟨f17, hf⟩ := fc_un (show (20 : Nat) < 100 from by decide) hf
  have f17 : (∀ j0 : Int, 0 ≤ j0 → j0 < 4 → ((w_ei w1 (w_ar w1 (n_v vs 0) 11) (j0) + 1) ≤ w_fi w1 (n_v vs 0) 14)) ∧ (∀ j0 : Int, 0 ≤ j0 → j0 < w_fi w1 (n_v vs 0) 14 → (((w_ei w1 (w_ar w1 (n_v vs 0) 12) (j0) + 1) ≤ (4 * (w_fi w1 (n_v vs 0) 4 * w_fi w1 (n_v vs 0) 5))) ∧ ((w_ei w1 (w_ar w1 (n_v vs 0) 13) (j0) + 1) ≤ w_fi w1 (n_v vs 0) 14))) := f17
  obtain ⟨f18, hf⟩ := fc_un (show (20 : Nat) < 100 from by decide) hf
  have f18 : 1 * w_fi w1 (n_v vs 0) 14 + ((-1) * v_iv (n_v vs 3) + 0) ≤ 0 := f18
  obtain ⟨f19, hf⟩ := fc_un (show (20 : Nat) < 100 from by decide) hf
  have f19 : (-1) * w_fi w1 (n_v vs 0) 14 + (1 * v_iv (n_v vs 3) + 0) ≤ 0 := f19
  have ar_0_11_1 : w_ar w1 (n_v vs 0) 11 = w_ar ws (n_v vs 0) 11 := by show v_ad (w_fd w1 _ _) = v_ad (w_fd ws _ _); rw [s1.2, if_neg (fun e => absurd e.2 (by decide))]
  have cr_0_11 : ta (w_ar ws (n_v vs 0) 11) = some 113 := tv_rg (th_fd hD hth r0 (g := GG_9) rfl (k := 11) (t := (2, 0, 0, [113])) rfl rfl)
  have ar_0_12_1 : w_ar w1 (n_v vs 0) 12 = w_ar ws (n_v vs 0) 12 := by show v_ad (w_fd w1 _ _) = v_ad (w_fd ws _ _); rw [s1.2, if_neg (fun e => absurd e.2 (by decide))]
  have cr_0_12 : ta (w_ar ws (n_v vs 0) 12) = some 114 := tv_rg (th_fd hD hth r0 (g := GG_9) rfl (k := 12) (t := (2, 0, 0, [114])) rfl rfl)
  have ar_0_13_1 : w_ar w1 (n_v vs 0) 13 = w_ar ws (n_v vs 0) 13 := by show v_ad (w_fd w1 _ _) = v_ad (w_fd ws _ _); rw [s1.2, if_neg (fun e => absurd e.2 (by decide))]
  have cr_0_13 : ta (w_ar ws (n_v vs 0) 13) = some 115 := tv_rg (th_fd hD hth r0 (g := GG_9) rfl (k := 13) (t := (2, 0, 0, [115])) rfl rfl)
  have g9 : v_iv (n_v vs 12) = w_fi w1 (n_v vs 0) 6 := congrArg v_iv f9
  rw [ar_0_11_1] at f17
  rw [ar_0_12_1] at f17
  rw [ar_0_13_1] at f17
  have fe_0_4_1 : w_fi ws (n_v vs 0) 4 = w_fi w1 (n_v vs 0) 4 := by show v_iv (w_fd _ _ _) = v_iv (w_fd _ _ _); rw [s1.2, if_neg (fun e => absurd e.2 (by decide))]
  have fe_0_5_1 : w_fi ws (n_v vs 0) 5 = w_fi w1 (n_v vs 0) 5 := by show v_iv (w_fd _ _ _) = v_iv (w_fd _ _ _); rw [s1.2, if_neg (fun e => absurd e.2 (by decide))]
  have fe_0_6_1 : w_fi ws (n_v vs 0) 6 = w_fi w1 (n_v vs 0) 6 := by show v_iv (w_fd _ _ _) = v_iv (w_fd _ _ _); rw [s1.2, if_neg (fun e => absurd e.2 (by decide))]
  have fe_0_14_1 : w_fi ws (n_v vs 0) 14 = w_fi w1 (n_v vs 0) 14 := by show v_iv (w_fd _ _ _) = v_iv (w_fd _ _ _); rw [s1.2, if_neg (fun e => absurd e.2 (by decide))]
  have hE_0_11_1 : ∀ j : Int, w_ei ws (w_ar ws (n_v vs 0) 11) j = w_ei w1 (w_ar ws (n_v vs 0) 11) j := fun j => s1.1 _ _
  have hK_0_11 : ∀ j : Int, 0 ≤ j → j < 4 → (-1) ≤ w_ei ws (w_ar ws (n_v vs 0) 11) j ∧ w_ei ws (w_ar ws (n_v vs 0) 11) j ≤ 48003 := fun j h0 h1 => th_el hD hth cr_0_11 (kd := 0) (n := 4) (m := 4) (lo := (-1)) (hi := 48003) (rs := []) (L := []) rfl (by decide) (j := j.toNat) (by omega)
  have hE_0_12_1 : ∀ j : Int, w_ei ws (w_ar ws (n_v vs 0) 12) j = w_ei w1 (w_ar ws (n_v vs 0) 12) j := fun j => s1.1 _ _
  have hK_0_12 : ∀ j : Int, 0 ≤ j → j < 48004 → 0 ≤ w_ei ws (w_ar ws (n_v vs 0) 12) j ∧ w_ei ws (w_ar ws (n_v vs 0) 12) j ≤ 23999 := fun j h0 h1 => th_el hD hth cr_0_12 (kd := 0) (n := 48004) (m := 48004) (lo := 0) (hi := 23999) (rs := []) (L := []) rfl (by decide) (j := j.toNat) (by omega)
  have hE_0_13_1 : ∀ j : Int, w_ei ws (w_ar ws (n_v vs 0) 13) j = w_ei w1 (w_ar ws (n_v vs 0) 13) j := fun j => s1.1 _ _
  have hK_0_13 : ∀ j : Int, 0 ≤ j → j < 48004 → (-1) ≤ w_ei ws (w_ar ws (n_v vs 0) 13) j ∧ w_ei ws (w_ar ws (n_v vs 0) 13) j ≤ 48003 := fun j h0 h1 => th_el hD hth cr_0_13 (kd := 0) (n := 48004) (m := 48004) (lo := (-1)) (hi := 48003) (rs := []) (L := []) rfl (by decide) (j := j.toNat) (by omega)
  have pe_0_4_5_1 : w_fi ws (n_v vs 0) 4 * w_fi ws (n_v vs 0) 5 = w_fi w1 (n_v vs 0) 4 * w_fi w1 (n_v vs 0) 5 := by rw [fe_0_4_1, fe_0_5_1]
  have kz_0_4 : (-2147483648) ≤ w_fi ws (n_v vs 0) 4 ∧ w_fi ws (n_v vs 0) 4 ≤ 2147483647 := tv_rng (th_fd hD hth r0 (g := GG_9) rfl (k := 4) (t := (0, -2147483648, 2147483647, [])) rfl rfl)
  have kz_0_5 : (-2147483648) ≤ w_fi ws (n_v vs 0) 5 ∧ w_fi ws (n_v vs 0) 5 ≤ 2147483647 := tv_rng (th_fd hD hth r0 (g := GG_9) rfl (k := 5) (t := (0, -2147483648, 2147483647, [])) rfl rfl)
  have kz_0_6 : 0 ≤ w_fi ws (n_v vs 0) 6 ∧ w_fi ws (n_v vs 0) 6 ≤ 5999 := tv_rng (th_fd hD hth r0 (g := GG_9) rfl (k := 6) (t := (0, 0, 5999, [])) rfl rfl)
  have kz_0_14 : 0 ≤ w_fi ws (n_v vs 0) 14 ∧ w_fi ws (n_v vs 0) 14 ≤ 48004 := tv_rng (th_fd hD hth r0 (g := GG_9) rfl (k := 14) (t := (0, 0, 48004, [])) rfl rfl)
  have nf0 : fc_1 (20, [10, 0], [50, 2, 0, 1004, 1005, 0, 6, 4, 2, 1, 0, 0, 1, 6, 3, 2, 1, 4, 2, 1, 5]) ws (vs) := by
    refine ⟨fun n hn => ?_, ?_⟩
    · have hn : n ∈ [10, 0] := hn
      rw [hl]
      simp only [List.mem_cons, List.not_mem_nil, or_false] at hn
      show n < 20; omega
    · show (v_iv (n_v vs 10) + 1) ≤ (w_fi ws (n_v vs 0) 4 * w_fi ws (n_v vs 0) 5)
      first | omega | grind
  have nf1 : fc_1 (20, [3, 0], [30, 0, 1, 0, 0, -1, 1, 14]) ws (vs) := by
    refine ⟨fun n hn => ?_, ?_⟩
    · have hn : n ∈ [3, 0] := hn
      rw [hl]
      simp only [List.mem_cons, List.not_mem_nil, or_false] at hn
      show n < 20; omega
    · show 1 * v_iv (n_v vs 3) + ((-1) * w_fi ws (n_v vs 0) 14 + 0) ≤ 0
      omega
  have nf2 : fc_1 (24, [0, 0], []) ws (vs) := by
    refine ⟨fun n hn => ?_, ?_⟩
    · have hn : n ∈ [0, 0] := hn
      rw [hl]
      simp only [List.mem_cons, List.not_mem_nil, or_false] at hn
      show n < 20; omega
    · show n_v vs 0 = n_v vs 0
      first | rfl | simp only [true_and]
  refine ⟨(fun _ h => (by cases h)), [], trivial, ?_, (fun _ h => (by cases h))⟩
  rw [List.append_nil]
  exact List.forall_mem_cons.mpr ⟨⟨show (20 : Nat) < 100 from by decide, nf0⟩, List.forall_mem_cons.mpr ⟨⟨show (20 : Nat) < 100 from by decide, nf1⟩, List.forall_mem_cons.mpr ⟨⟨show (24 : Nat) < 100 from by decide, nf2⟩, (fun _ h => (by cases h))⟩⟩⟩
def o_Ro_goBack_4 : or_T := (56, 19, [(0, (2, 0, 0, [9])), (1, (0, 0, 23999, [])), (3, (0, 0, 48004, [])), (5, (0, 0, 3, [])), (7, (0, 0, 5999, [])), (10, (0, 0, 5999, [])), (11, (0, -1, -1, [])), (12, (0, 0, 5999, []))], [(20, [10, 0], [50, 2, 0, 1004, 1005, 3, 6, 1, 2, 1, 0, 0, -1, 2, 6, 0, 2, 0, 0, 1, 0, 0, 6, 4, 2, 1, 0, 0, 1, 6, 3, 2, 1, 4, 2, 1, 5]), (20, [7, 0], [50, 2, 0, 1004, 1005, 0, 6, 4, 2, 1, 0, 0, 1, 6, 3, 2, 1, 4, 2, 1, 5]), (20, [0], [50, 2, 0, 4, 5, 2, 7, 0, 2, 0, 1, 2, 0, 4, 2, 7, 0, 2, 0, 1, 2, 0, 5, 0, 8, 6, 3, 2, 0, 4, 2, 0, 5, 0, 6000]), (20, [1, 0], [50, 2, 0, 1004, 1005, 0, 6, 4, 2, 1, 0, 0, 1, 6, 2, 0, 4, 6, 3, 2, 1, 4, 2, 1, 5]), (20, [0], [50, 3, 3, 14, 4, 5, 11, 12, 13, 2, 18, 5, 2, 0, 4, 0, 9, 4, 5, 3, 0, 11, 7, 0, 0, 1, 2, 0, 14, 5, 3, 2, 0, 14, 2, 23, 0, 9, 4, 5, 3, 0, 12, 7, 0, 0, 1, 6, 2, 0, 4, 6, 3, 2, 0, 4, 2, 0, 5, 0, 9, 4, 5, 3, 0, 13, 7, 0, 0, 1, 2, 0, 14]), (20, [0, 3], [30, 0, 1, 1, 14, -1, 0, 0]), (20, [0, 3], [30, 0, -1, 1, 14, 1, 0, 0]), (101, [0, 16], [8]), (7, [10, 12], [0]), (9, [12, 0], [6]), (7, [10, 11], [1]), (20, [10, 0], [50, 2, 0, 1004, 1005, 3, 6, 1, 2, 1, 0, 0, -1, 2, 6, 0, 2, 0, 0, 1, 0, 0, 6, 4, 2, 1, 0, 0, 1, 6, 3, 2, 1, 4, 2, 1, 5]), (20, [7, 0], [50, 2, 0, 1004, 1005, 0, 6, 4, 2, 1, 0, 0, 1, 6, 3, 2, 1, 4, 2, 1, 5]), (11, [7, 1], [4]), (12, [5, 1], [4]), (20, [0], [50, 2, 0, 4, 5, 2, 7, 0, 2, 0, 1, 2, 0, 4, 2, 7, 0, 2, 0, 1, 2, 0, 5, 0, 8, 6, 3, 2, 0, 4, 2, 0, 5, 0, 6000]), (20, [1, 0], [50, 2, 0, 1004, 1005, 0, 6, 4, 2, 1, 0, 0, 1, 6, 2, 0, 4, 6, 3, 2, 1, 4, 2, 1, 5]), (20, [0], [50, 3, 3, 14, 4, 5, 11, 12, 13, 2, 18, 5, 2, 0, 4, 0, 9, 4, 5, 3, 0, 11, 7, 0, 0, 1, 2, 0, 14, 5, 3, 2, 0, 14, 2, 23, 0, 9, 4, 5, 3, 0, 12, 7, 0, 0, 1, 6, 2, 0, 4, 6, 3, 2, 0, 4, 2, 0, 5, 0, 9, 4, 5, 3, 0, 13, 7, 0, 0, 1, 2, 0, 14]), (20, [0, 3], [30, 0, 1, 1, 14, -1, 0, 0]), (20, [0, 3], [30, 0, -1, 1, 14, 1, 0, 0])], [], [], [(20, [3, 0], [30, 0, 1, 0, 0, -1, 1, 14])], [], [(10, 12, 0, 0)])
theorem oo_Ro_goBack_4 {kA : Nat → ClassId} : or_ok kA GG o_Ro_goBack_4 := by
  intro A ta ws vs hD hth hl hk hds hf
  have hl : vs.length = 19 := hl
  have hk : ∀ q ∈ ([(0, (2, 0, 0, [9])), (1, (0, 0, 23999, [])), (3, (0, 0, 48004, [])), (5, (0, 0, 3, [])), (7, (0, 0, 5999, [])), (10, (0, 0, 5999, [])), (11, (0, -1, -1, [])), (12, (0, 0, 5999, []))] : List (Nat × tv_T)), tv_ok ta q.2 (n_v vs q.1) := hk
  obtain ⟨t0, hk⟩ := List.forall_mem_cons.mp hk
  have t0 : tv_ok ta (2, 0, 0, [9]) (n_v vs 0) := t0
  have r0 : ta (v_ad (n_v vs 0)) = some 9 := tv_rg t0
  obtain ⟨t1, hk⟩ := List.forall_mem_cons.mp hk
  have t1 : tv_ok ta (0, 0, 23999, []) (n_v vs 1) := t1
  have k1 : 0 ≤ v_iv (n_v vs 1) ∧ v_iv (n_v vs 1) ≤ 23999 := tv_rng t1
  obtain ⟨t3, hk⟩ := List.forall_mem_cons.mp hk
  have t3 : tv_ok ta (0, 0, 48004, []) (n_v vs 3) := t3
  have k3 : 0 ≤ v_iv (n_v vs 3) ∧ v_iv (n_v vs 3) ≤ 48004 := tv_rng t3
  obtain ⟨t5, hk⟩ := List.forall_mem_cons.mp hk
  have t5 : tv_ok ta (0, 0, 3, []) (n_v vs 5) := t5
  have k5 : 0 ≤ v_iv (n_v vs 5) ∧ v_iv (n_v vs 5) ≤ 3 := tv_rng t5
  obtain ⟨t7, hk⟩ := List.forall_mem_cons.mp hk
  have t7 : tv_ok ta (0, 0, 5999, []) (n_v vs 7) := t7
  have k7 : 0 ≤ v_iv (n_v vs 7) ∧ v_iv (n_v vs 7) ≤ 5999 := tv_rng t7
  obtain ⟨t10, hk⟩ := List.forall_mem_cons.mp hk
  have t10 : tv_ok ta (0, 0, 5999, []) (n_v vs 10) := t10
  have k10 : 0 ≤ v_iv (n_v vs 10) ∧ v_iv (n_v vs 10) ≤ 5999 := tv_rng t10
  obtain ⟨t11, hk⟩ := List.forall_mem_cons.mp hk
  have t11 : tv_ok ta (0, -1, -1, []) (n_v vs 11) := t11
  have k11 : (-1) ≤ v_iv (n_v vs 11) ∧ v_iv (n_v vs 11) ≤ (-1) := tv_rng t11
  obtain ⟨t12, hk⟩ := List.forall_mem_cons.mp hk
  have t12 : tv_ok ta (0, 0, 5999, []) (n_v vs 12) := t12
  have k12 : 0 ≤ v_iv (n_v vs 12) ∧ v_iv (n_v vs 12) ≤ 5999 := tv_rng t12
  have hds : ∀ q ∈ ([(10, 12, 0, 0)] : List of_T), n_iv vs q.2.1 + q.2.2.1 ≤ n_iv vs q.1 ∧ n_iv vs q.1 ≤ n_iv vs q.2.1 + q.2.2.2 := hds
  obtain ⟨d0, hds⟩ := List.forall_mem_cons.mp hds
  have d0 : v_iv (n_v vs 12) + 0 ≤ v_iv (n_v vs 10) ∧ v_iv (n_v vs 10) ≤ v_iv (n_v vs 12) + 0 := d0
  have hf : fc_ok [(20, [10, 0], [50, 2, 0, 1004, 1005, 3, 6, 1, 2, 1, 0, 0, -1, 2, 6, 0, 2, 0, 0, 1, 0, 0, 6, 4, 2, 1, 0, 0, 1, 6, 3, 2, 1, 4, 2, 1, 5]), (20, [7, 0], [50, 2, 0, 1004, 1005, 0, 6, 4, 2, 1, 0, 0, 1, 6, 3, 2, 1, 4, 2, 1, 5]), (20, [0], [50, 2, 0, 4, 5, 2, 7, 0, 2, 0, 1, 2, 0, 4, 2, 7, 0, 2, 0, 1, 2, 0, 5, 0, 8, 6, 3, 2, 0, 4, 2, 0, 5, 0, 6000]), (20, [1, 0], [50, 2, 0, 1004, 1005, 0, 6, 4, 2, 1, 0, 0, 1, 6, 2, 0, 4, 6, 3, 2, 1, 4, 2, 1, 5]), (20, [0], [50, 3, 3, 14, 4, 5, 11, 12, 13, 2, 18, 5, 2, 0, 4, 0, 9, 4, 5, 3, 0, 11, 7, 0, 0, 1, 2, 0, 14, 5, 3, 2, 0, 14, 2, 23, 0, 9, 4, 5, 3, 0, 12, 7, 0, 0, 1, 6, 2, 0, 4, 6, 3, 2, 0, 4, 2, 0, 5, 0, 9, 4, 5, 3, 0, 13, 7, 0, 0, 1, 2, 0, 14]), (20, [0, 3], [30, 0, 1, 1, 14, -1, 0, 0]), (20, [0, 3], [30, 0, -1, 1, 14, 1, 0, 0]), (101, [0, 16], [8]), (7, [10, 12], [0]), (9, [12, 0], [6]), (7, [10, 11], [1]), (20, [10, 0], [50, 2, 0, 1004, 1005, 3, 6, 1, 2, 1, 0, 0, -1, 2, 6, 0, 2, 0, 0, 1, 0, 0, 6, 4, 2, 1, 0, 0, 1, 6, 3, 2, 1, 4, 2, 1, 5]), (20, [7, 0], [50, 2, 0, 1004, 1005, 0, 6, 4, 2, 1, 0, 0, 1, 6, 3, 2, 1, 4, 2, 1, 5]), (11, [7, 1], [4]), (12, [5, 1], [4]), (20, [0], [50, 2, 0, 4, 5, 2, 7, 0, 2, 0, 1, 2, 0, 4, 2, 7, 0, 2, 0, 1, 2, 0, 5, 0, 8, 6, 3, 2, 0, 4, 2, 0, 5, 0, 6000]), (20, [1, 0], [50, 2, 0, 1004, 1005, 0, 6, 4, 2, 1, 0, 0, 1, 6, 2, 0, 4, 6, 3, 2, 1, 4, 2, 1, 5]), (20, [0], [50, 3, 3, 14, 4, 5, 11, 12, 13, 2, 18, 5, 2, 0, 4, 0, 9, 4, 5, 3, 0, 11, 7, 0, 0, 1, 2, 0, 14, 5, 3, 2, 0, 14, 2, 23, 0, 9, 4, 5, 3, 0, 12, 7, 0, 0, 1, 6, 2, 0, 4, 6, 3, 2, 0, 4, 2, 0, 5, 0, 9, 4, 5, 3, 0, 13, 7, 0, 0, 1, 2, 0, 14]), (20, [0, 3], [30, 0, 1, 1, 14, -1, 0, 0]), (20, [0, 3], [30, 0, -1, 1, 14, 1, 0, 0])] ta ws vs := hf
  obtain ⟨f0, hf⟩ := fc_un (show (20 : Nat) < 100 from by decide) hf
  have f0 : (v_iv (n_v vs 10) = (-1)) ∨ ((0 ≤ v_iv (n_v vs 10)) ∧ ((v_iv (n_v vs 10) + 1) ≤ (w_fi ws (n_v vs 0) 4 * w_fi ws (n_v vs 0) 5))) := f0
  obtain ⟨f1, hf⟩ := fc_un (show (20 : Nat) < 100 from by decide) hf
  have f1 : (v_iv (n_v vs 7) + 1) ≤ (w_fi ws (n_v vs 0) 4 * w_fi ws (n_v vs 0) 5) := f1
  obtain ⟨f2, hf⟩ := fc_un (show (20 : Nat) < 100 from by decide) hf
  have f2 : (1 ≤ w_fi ws (n_v vs 0) 4) ∧ ((1 ≤ w_fi ws (n_v vs 0) 5) ∧ ((w_fi ws (n_v vs 0) 4 * w_fi ws (n_v vs 0) 5) ≤ 6000)) := f2
  obtain ⟨f3, hf⟩ := fc_un (show (20 : Nat) < 100 from by decide) hf
  have f3 : (v_iv (n_v vs 1) + 1) ≤ (4 * (w_fi ws (n_v vs 0) 4 * w_fi ws (n_v vs 0) 5)) := f3
  obtain ⟨f4, hf⟩ := fc_un (show (20 : Nat) < 100 from by decide) hf
  have f4 : (∀ j0 : Int, 0 ≤ j0 → j0 < 4 → ((w_ei ws (w_ar ws (n_v vs 0) 11) (j0) + 1) ≤ w_fi ws (n_v vs 0) 14)) ∧ (∀ j0 : Int, 0 ≤ j0 → j0 < w_fi ws (n_v vs 0) 14 → (((w_ei ws (w_ar ws (n_v vs 0) 12) (j0) + 1) ≤ (4 * (w_fi ws (n_v vs 0) 4 * w_fi ws (n_v vs 0) 5))) ∧ ((w_ei ws (w_ar ws (n_v vs 0) 13) (j0) + 1) ≤ w_fi ws (n_v vs 0) 14))) := f4
  obtain ⟨f5, hf⟩ := fc_un (show (20 : Nat) < 100 from by decide) hf
  have f5 : 1 * w_fi ws (n_v vs 0) 14 + ((-1) * v_iv (n_v vs 3) + 0) ≤ 0 := f5
  obtain ⟨f6, hf⟩ := fc_un (show (20 : Nat) < 100 from by decide) hf
  have f6 : (-1) * w_fi ws (n_v vs 0) 14 + (1 * v_iv (n_v vs 3) + 0) ≤ 0 := f6
  obtain ⟨ta1, w1, le1, ⟨_, s1⟩, hf⟩ := fc_us (show ¬ (101 : Nat) < 100 from by decide) hf
  have s1 : (∀ b j, w_el ws b j = w_el w1 b j) ∧ ∀ b j, w_fd ws b j = if b = v_ad (n_v vs 0) ∧ j = 8 then n_v vs 16 else w_fd w1 b j := s1
  obtain ⟨f8, hf⟩ := fc_un (show (7 : Nat) < 100 from by decide) hf
  have f8 : v_iv (n_v vs 10) = v_iv (n_v vs 12) := f8
  obtain ⟨f9, hf⟩ := fc_un (show (9 : Nat) < 100 from by decide) hf
  have f9 : n_v vs 12 = w_fd w1 (v_ad (n_v vs 0)) 6 := f9
  obtain ⟨f10, hf⟩ := fc_un (show (7 : Nat) < 100 from by decide) hf
  have f10 : v_iv (n_v vs 10) ≠ v_iv (n_v vs 11) := f10
  obtain ⟨f11, hf⟩ := fc_un (show (20 : Nat) < 100 from by decide) hf
  have f11 : (v_iv (n_v vs 10) = (-1)) ∨ ((0 ≤ v_iv (n_v vs 10)) ∧ ((v_iv (n_v vs 10) + 1) ≤ (w_fi w1 (n_v vs 0) 4 * w_fi w1 (n_v vs 0) 5))) := f11
  obtain ⟨f12, hf⟩ := fc_un (show (20 : Nat) < 100 from by decide) hf
  have f12 : (v_iv (n_v vs 7) + 1) ≤ (w_fi w1 (n_v vs 0) 4 * w_fi w1 (n_v vs 0) 5) := f12
  obtain ⟨f13, hf⟩ := fc_un (show (11 : Nat) < 100 from by decide) hf
  have f13 : v_iv (n_v vs 7) = v_iv (n_v vs 1) / 4 := f13
  obtain ⟨f14, hf⟩ := fc_un (show (12 : Nat) < 100 from by decide) hf
  have f14 : v_iv (n_v vs 5) = v_iv (n_v vs 1) % 4 := f14
  obtain ⟨f15, hf⟩ := fc_un (show (20 : Nat) < 100 from by decide) hf
  have f15 : (1 ≤ w_fi w1 (n_v vs 0) 4) ∧ ((1 ≤ w_fi w1 (n_v vs 0) 5) ∧ ((w_fi w1 (n_v vs 0) 4 * w_fi w1 (n_v vs 0) 5) ≤ 6000)) := f15
  obtain ⟨f16, hf⟩ := fc_un (show (20 : Nat) < 100 from by decide) hf
  have f16 : (v_iv (n_v vs 1) + 1) ≤ (4 * (w_fi w1 (n_v vs 0) 4 * w_fi w1 (n_v vs 0) 5)) := f16
  obtain ⟨f17, hf⟩ := fc_un (show (20 : Nat) < 100 from by decide) hf
  have f17 : (∀ j0 : Int, 0 ≤ j0 → j0 < 4 → ((w_ei w1 (w_ar w1 (n_v vs 0) 11) (j0) + 1) ≤ w_fi w1 (n_v vs 0) 14)) ∧ (∀ j0 : Int, 0 ≤ j0 → j0 < w_fi w1 (n_v vs 0) 14 → (((w_ei w1 (w_ar w1 (n_v vs 0) 12) (j0) + 1) ≤ (4 * (w_fi w1 (n_v vs 0) 4 * w_fi w1 (n_v vs 0) 5))) ∧ ((w_ei w1 (w_ar w1 (n_v vs 0) 13) (j0) + 1) ≤ w_fi w1 (n_v vs 0) 14))) := f17
  obtain ⟨f18, hf⟩ := fc_un (show (20 : Nat) < 100 from by decide) hf
  have f18 : 1 * w_fi w1 (n_v vs 0) 14 + ((-1) * v_iv (n_v vs 3) + 0) ≤ 0 := f18
  obtain ⟨f19, hf⟩ := fc_un (show (20 : Nat) < 100 from by decide) hf
  have f19 : (-1) * w_fi w1 (n_v vs 0) 14 + (1 * v_iv (n_v vs 3) + 0) ≤ 0 := f19
  have ar_0_11_1 : w_ar w1 (n_v vs 0) 11 = w_ar ws (n_v vs 0) 11 := by show v_ad (w_fd w1 _ _) = v_ad (w_fd ws _ _); rw [s1.2, if_neg (fun e => absurd e.2 (by decide))]
  have cr_0_11 : ta (w_ar ws (n_v vs 0) 11) = some 113 := tv_rg (th_fd hD hth r0 (g := GG_9) rfl (k := 11) (t := (2, 0, 0, [113])) rfl rfl)
  have ar_0_12_1 : w_ar w1 (n_v vs 0) 12 = w_ar ws (n_v vs 0) 12 := by show v_ad (w_fd w1 _ _) = v_ad (w_fd ws _ _); rw [s1.2, if_neg (fun e => absurd e.2 (by decide))]
  have cr_0_12 : ta (w_ar ws (n_v vs 0) 12) = some 114 := tv_rg (th_fd hD hth r0 (g := GG_9) rfl (k := 12) (t := (2, 0, 0, [114])) rfl rfl)
  have ar_0_13_1 : w_ar w1 (n_v vs 0) 13 = w_ar ws (n_v vs 0) 13 := by show v_ad (w_fd w1 _ _) = v_ad (w_fd ws _ _); rw [s1.2, if_neg (fun e => absurd e.2 (by decide))]
  have cr_0_13 : ta (w_ar ws (n_v vs 0) 13) = some 115 := tv_rg (th_fd hD hth r0 (g := GG_9) rfl (k := 13) (t := (2, 0, 0, [115])) rfl rfl)
  have g9 : v_iv (n_v vs 12) = w_fi w1 (n_v vs 0) 6 := congrArg v_iv f9
  rw [ar_0_11_1] at f17
  rw [ar_0_12_1] at f17
  rw [ar_0_13_1] at f17
  have fe_0_4_1 : w_fi ws (n_v vs 0) 4 = w_fi w1 (n_v vs 0) 4 := by show v_iv (w_fd _ _ _) = v_iv (w_fd _ _ _); rw [s1.2, if_neg (fun e => absurd e.2 (by decide))]
  have fe_0_5_1 : w_fi ws (n_v vs 0) 5 = w_fi w1 (n_v vs 0) 5 := by show v_iv (w_fd _ _ _) = v_iv (w_fd _ _ _); rw [s1.2, if_neg (fun e => absurd e.2 (by decide))]
  have fe_0_6_1 : w_fi ws (n_v vs 0) 6 = w_fi w1 (n_v vs 0) 6 := by show v_iv (w_fd _ _ _) = v_iv (w_fd _ _ _); rw [s1.2, if_neg (fun e => absurd e.2 (by decide))]
  have fe_0_14_1 : w_fi ws (n_v vs 0) 14 = w_fi w1 (n_v vs 0) 14 := by show v_iv (w_fd _ _ _) = v_iv (w_fd _ _ _); rw [s1.2, if_neg (fun e => absurd e.2 (by decide))]
  have hE_0_11_1 : ∀ j : Int, w_ei ws (w_ar ws (n_v vs 0) 11) j = w_ei w1 (w_ar ws (n_v vs 0) 11) j := fun j => s1.1 _ _
  have hK_0_11 : ∀ j : Int, 0 ≤ j → j < 4 → (-1) ≤ w_ei ws (w_ar ws (n_v vs 0) 11) j ∧ w_ei ws (w_ar ws (n_v vs 0) 11) j ≤ 48003 := fun j h0 h1 => th_el hD hth cr_0_11 (kd := 0) (n := 4) (m := 4) (lo := (-1)) (hi := 48003) (rs := []) (L := []) rfl (by decide) (j := j.toNat) (by omega)
  have hE_0_12_1 : ∀ j : Int, w_ei ws (w_ar ws (n_v vs 0) 12) j = w_ei w1 (w_ar ws (n_v vs 0) 12) j := fun j => s1.1 _ _
  have hK_0_12 : ∀ j : Int, 0 ≤ j → j < 48004 → 0 ≤ w_ei ws (w_ar ws (n_v vs 0) 12) j ∧ w_ei ws (w_ar ws (n_v vs 0) 12) j ≤ 23999 := fun j h0 h1 => th_el hD hth cr_0_12 (kd := 0) (n := 48004) (m := 48004) (lo := 0) (hi := 23999) (rs := []) (L := []) rfl (by decide) (j := j.toNat) (by omega)
  have hE_0_13_1 : ∀ j : Int, w_ei ws (w_ar ws (n_v vs 0) 13) j = w_ei w1 (w_ar ws (n_v vs 0) 13) j := fun j => s1.1 _ _
  have hK_0_13 : ∀ j : Int, 0 ≤ j → j < 48004 → (-1) ≤ w_ei ws (w_ar ws (n_v vs 0) 13) j ∧ w_ei ws (w_ar ws (n_v vs 0) 13) j ≤ 48003 := fun j h0 h1 => th_el hD hth cr_0_13 (kd := 0) (n := 48004) (m := 48004) (lo := (-1)) (hi := 48003) (rs := []) (L := []) rfl (by decide) (j := j.toNat) (by omega)
  have pe_0_4_5_1 : w_fi ws (n_v vs 0) 4 * w_fi ws (n_v vs 0) 5 = w_fi w1 (n_v vs 0) 4 * w_fi w1 (n_v vs 0) 5 := by rw [fe_0_4_1, fe_0_5_1]
  have kz_0_4 : (-2147483648) ≤ w_fi ws (n_v vs 0) 4 ∧ w_fi ws (n_v vs 0) 4 ≤ 2147483647 := tv_rng (th_fd hD hth r0 (g := GG_9) rfl (k := 4) (t := (0, -2147483648, 2147483647, [])) rfl rfl)
  have kz_0_5 : (-2147483648) ≤ w_fi ws (n_v vs 0) 5 ∧ w_fi ws (n_v vs 0) 5 ≤ 2147483647 := tv_rng (th_fd hD hth r0 (g := GG_9) rfl (k := 5) (t := (0, -2147483648, 2147483647, [])) rfl rfl)
  have kz_0_6 : 0 ≤ w_fi ws (n_v vs 0) 6 ∧ w_fi ws (n_v vs 0) 6 ≤ 5999 := tv_rng (th_fd hD hth r0 (g := GG_9) rfl (k := 6) (t := (0, 0, 5999, [])) rfl rfl)
  have kz_0_14 : 0 ≤ w_fi ws (n_v vs 0) 14 ∧ w_fi ws (n_v vs 0) 14 ≤ 48004 := tv_rng (th_fd hD hth r0 (g := GG_9) rfl (k := 14) (t := (0, 0, 48004, [])) rfl rfl)
  have nf0 : fc_1 (20, [3, 0], [30, 0, 1, 0, 0, -1, 1, 14]) ws (vs) := by
    refine ⟨fun n hn => ?_, ?_⟩
    · have hn : n ∈ [3, 0] := hn
      rw [hl]
      simp only [List.mem_cons, List.not_mem_nil, or_false] at hn
      show n < 19; omega
    · show 1 * v_iv (n_v vs 3) + ((-1) * w_fi ws (n_v vs 0) 14 + 0) ≤ 0
      omega
  refine ⟨(fun _ h => (by cases h)), [], trivial, ?_, (fun _ h => (by cases h))⟩
  rw [List.append_nil]
  exact List.forall_mem_cons.mpr ⟨⟨show (20 : Nat) < 100 from by decide, nf0⟩, (fun _ h => (by cases h))⟩
def o_Ro_goBack_5 : or_T := (22, 12, [(0, (2, 0, 0, [9])), (1, (0, 0, 23999, [])), (3, (0, 0, 48004, [])), (5, (0, 0, 3, [])), (7, (0, 0, 5999, [])), (10, (0, -1, -1, [])), (11, (0, -1, -1, []))], [(7, [10, 11], [0]), (20, [10, 0], [50, 2, 0, 1004, 1005, 3, 6, 1, 2, 1, 0, 0, -1, 2, 6, 0, 2, 0, 0, 1, 0, 0, 6, 4, 2, 1, 0, 0, 1, 6, 3, 2, 1, 4, 2, 1, 5]), (20, [7, 0], [50, 2, 0, 1004, 1005, 0, 6, 4, 2, 1, 0, 0, 1, 6, 3, 2, 1, 4, 2, 1, 5]), (11, [7, 1], [4]), (12, [5, 1], [4]), (20, [0], [50, 2, 0, 4, 5, 2, 7, 0, 2, 0, 1, 2, 0, 4, 2, 7, 0, 2, 0, 1, 2, 0, 5, 0, 8, 6, 3, 2, 0, 4, 2, 0, 5, 0, 6000]), (20, [1, 0], [50, 2, 0, 1004, 1005, 0, 6, 4, 2, 1, 0, 0, 1, 6, 2, 0, 4, 6, 3, 2, 1, 4, 2, 1, 5]), (20, [0], [50, 3, 3, 14, 4, 5, 11, 12, 13, 2, 18, 5, 2, 0, 4, 0, 9, 4, 5, 3, 0, 11, 7, 0, 0, 1, 2, 0, 14, 5, 3, 2, 0, 14, 2, 23, 0, 9, 4, 5, 3, 0, 12, 7, 0, 0, 1, 6, 2, 0, 4, 6, 3, 2, 0, 4, 2, 0, 5, 0, 9, 4, 5, 3, 0, 13, 7, 0, 0, 1, 2, 0, 14]), (20, [0, 3], [30, 0, 1, 1, 14, -1, 0, 0]), (20, [0, 3], [30, 0, -1, 1, 14, 1, 0, 0])], [], [], [(20, [3, 0], [30, 0, 1, 0, 0, -1, 1, 14])], [], [])
theorem oo_Ro_goBack_5 {kA : Nat → ClassId} : or_ok kA GG o_Ro_goBack_5 := by
  intro A ta ws vs hD hth hl hk hds hf
  have hl : vs.length = 12 := hl
  have hk : ∀ q ∈ ([(0, (2, 0, 0, [9])), (1, (0, 0, 23999, [])), (3, (0, 0, 48004, [])), (5, (0, 0, 3, [])), (7, (0, 0, 5999, [])), (10, (0, -1, -1, [])), (11, (0, -1, -1, []))] : List (Nat × tv_T)), tv_ok ta q.2 (n_v vs q.1) := hk
  obtain ⟨t0, hk⟩ := List.forall_mem_cons.mp hk
  have t0 : tv_ok ta (2, 0, 0, [9]) (n_v vs 0) := t0
  have r0 : ta (v_ad (n_v vs 0)) = some 9 := tv_rg t0
  obtain ⟨t1, hk⟩ := List.forall_mem_cons.mp hk
  have t1 : tv_ok ta (0, 0, 23999, []) (n_v vs 1) := t1
  have k1 : 0 ≤ v_iv (n_v vs 1) ∧ v_iv (n_v vs 1) ≤ 23999 := tv_rng t1
  obtain ⟨t3, hk⟩ := List.forall_mem_cons.mp hk
  have t3 : tv_ok ta (0, 0, 48004, []) (n_v vs 3) := t3
  have k3 : 0 ≤ v_iv (n_v vs 3) ∧ v_iv (n_v vs 3) ≤ 48004 := tv_rng t3
  obtain ⟨t5, hk⟩ := List.forall_mem_cons.mp hk
  have t5 : tv_ok ta (0, 0, 3, []) (n_v vs 5) := t5
  have k5 : 0 ≤ v_iv (n_v vs 5) ∧ v_iv (n_v vs 5) ≤ 3 := tv_rng t5
  obtain ⟨t7, hk⟩ := List.forall_mem_cons.mp hk
  have t7 : tv_ok ta (0, 0, 5999, []) (n_v vs 7) := t7
  have k7 : 0 ≤ v_iv (n_v vs 7) ∧ v_iv (n_v vs 7) ≤ 5999 := tv_rng t7
  obtain ⟨t10, hk⟩ := List.forall_mem_cons.mp hk
  have t10 : tv_ok ta (0, -1, -1, []) (n_v vs 10) := t10
  have k10 : (-1) ≤ v_iv (n_v vs 10) ∧ v_iv (n_v vs 10) ≤ (-1) := tv_rng t10
  obtain ⟨t11, hk⟩ := List.forall_mem_cons.mp hk
  have t11 : tv_ok ta (0, -1, -1, []) (n_v vs 11) := t11
  have k11 : (-1) ≤ v_iv (n_v vs 11) ∧ v_iv (n_v vs 11) ≤ (-1) := tv_rng t11
  have hf : fc_ok [(7, [10, 11], [0]), (20, [10, 0], [50, 2, 0, 1004, 1005, 3, 6, 1, 2, 1, 0, 0, -1, 2, 6, 0, 2, 0, 0, 1, 0, 0, 6, 4, 2, 1, 0, 0, 1, 6, 3, 2, 1, 4, 2, 1, 5]), (20, [7, 0], [50, 2, 0, 1004, 1005, 0, 6, 4, 2, 1, 0, 0, 1, 6, 3, 2, 1, 4, 2, 1, 5]), (11, [7, 1], [4]), (12, [5, 1], [4]), (20, [0], [50, 2, 0, 4, 5, 2, 7, 0, 2, 0, 1, 2, 0, 4, 2, 7, 0, 2, 0, 1, 2, 0, 5, 0, 8, 6, 3, 2, 0, 4, 2, 0, 5, 0, 6000]), (20, [1, 0], [50, 2, 0, 1004, 1005, 0, 6, 4, 2, 1, 0, 0, 1, 6, 2, 0, 4, 6, 3, 2, 1, 4, 2, 1, 5]), (20, [0], [50, 3, 3, 14, 4, 5, 11, 12, 13, 2, 18, 5, 2, 0, 4, 0, 9, 4, 5, 3, 0, 11, 7, 0, 0, 1, 2, 0, 14, 5, 3, 2, 0, 14, 2, 23, 0, 9, 4, 5, 3, 0, 12, 7, 0, 0, 1, 6, 2, 0, 4, 6, 3, 2, 0, 4, 2, 0, 5, 0, 9, 4, 5, 3, 0, 13, 7, 0, 0, 1, 2, 0, 14]), (20, [0, 3], [30, 0, 1, 1, 14, -1, 0, 0]), (20, [0, 3], [30, 0, -1, 1, 14, 1, 0, 0])] ta ws vs := hf
  obtain ⟨f0, hf⟩ := fc_un (show (7 : Nat) < 100 from by decide) hf
  have f0 : v_iv (n_v vs 10) = v_iv (n_v vs 11) := f0
  obtain ⟨f1, hf⟩ := fc_un (show (20 : Nat) < 100 from by decide) hf
  have f1 : (v_iv (n_v vs 10) = (-1)) ∨ ((0 ≤ v_iv (n_v vs 10)) ∧ ((v_iv (n_v vs 10) + 1) ≤ (w_fi ws (n_v vs 0) 4 * w_fi ws (n_v vs 0) 5))) := f1
  obtain ⟨f2, hf⟩ := fc_un (show (20 : Nat) < 100 from by decide) hf
  have f2 : (v_iv (n_v vs 7) + 1) ≤ (w_fi ws (n_v vs 0) 4 * w_fi ws (n_v vs 0) 5) := f2
  obtain ⟨f3, hf⟩ := fc_un (show (11 : Nat) < 100 from by decide) hf
  have f3 : v_iv (n_v vs 7) = v_iv (n_v vs 1) / 4 := f3
  obtain ⟨f4, hf⟩ := fc_un (show (12 : Nat) < 100 from by decide) hf
  have f4 : v_iv (n_v vs 5) = v_iv (n_v vs 1) % 4 := f4
  obtain ⟨f5, hf⟩ := fc_un (show (20 : Nat) < 100 from by decide) hf
  have f5 : (1 ≤ w_fi ws (n_v vs 0) 4) ∧ ((1 ≤ w_fi ws (n_v vs 0) 5) ∧ ((w_fi ws (n_v vs 0) 4 * w_fi ws (n_v vs 0) 5) ≤ 6000)) := f5
  obtain ⟨f6, hf⟩ := fc_un (show (20 : Nat) < 100 from by decide) hf
  have f6 : (v_iv (n_v vs 1) + 1) ≤ (4 * (w_fi ws (n_v vs 0) 4 * w_fi ws (n_v vs 0) 5)) := f6
  obtain ⟨f7, hf⟩ := fc_un (show (20 : Nat) < 100 from by decide) hf
  have f7 : (∀ j0 : Int, 0 ≤ j0 → j0 < 4 → ((w_ei ws (w_ar ws (n_v vs 0) 11) (j0) + 1) ≤ w_fi ws (n_v vs 0) 14)) ∧ (∀ j0 : Int, 0 ≤ j0 → j0 < w_fi ws (n_v vs 0) 14 → (((w_ei ws (w_ar ws (n_v vs 0) 12) (j0) + 1) ≤ (4 * (w_fi ws (n_v vs 0) 4 * w_fi ws (n_v vs 0) 5))) ∧ ((w_ei ws (w_ar ws (n_v vs 0) 13) (j0) + 1) ≤ w_fi ws (n_v vs 0) 14))) := f7
  obtain ⟨f8, hf⟩ := fc_un (show (20 : Nat) < 100 from by decide) hf
  have f8 : 1 * w_fi ws (n_v vs 0) 14 + ((-1) * v_iv (n_v vs 3) + 0) ≤ 0 := f8
  obtain ⟨f9, hf⟩ := fc_un (show (20 : Nat) < 100 from by decide) hf
  have f9 : (-1) * w_fi ws (n_v vs 0) 14 + (1 * v_iv (n_v vs 3) + 0) ≤ 0 := f9
  have cr_0_11 : ta (w_ar ws (n_v vs 0) 11) = some 113 := tv_rg (th_fd hD hth r0 (g := GG_9) rfl (k := 11) (t := (2, 0, 0, [113])) rfl rfl)
  have cr_0_12 : ta (w_ar ws (n_v vs 0) 12) = some 114 := tv_rg (th_fd hD hth r0 (g := GG_9) rfl (k := 12) (t := (2, 0, 0, [114])) rfl rfl)
  have cr_0_13 : ta (w_ar ws (n_v vs 0) 13) = some 115 := tv_rg (th_fd hD hth r0 (g := GG_9) rfl (k := 13) (t := (2, 0, 0, [115])) rfl rfl)
  have hK_0_11 : ∀ j : Int, 0 ≤ j → j < 4 → (-1) ≤ w_ei ws (w_ar ws (n_v vs 0) 11) j ∧ w_ei ws (w_ar ws (n_v vs 0) 11) j ≤ 48003 := fun j h0 h1 => th_el hD hth cr_0_11 (kd := 0) (n := 4) (m := 4) (lo := (-1)) (hi := 48003) (rs := []) (L := []) rfl (by decide) (j := j.toNat) (by omega)
  have hK_0_12 : ∀ j : Int, 0 ≤ j → j < 48004 → 0 ≤ w_ei ws (w_ar ws (n_v vs 0) 12) j ∧ w_ei ws (w_ar ws (n_v vs 0) 12) j ≤ 23999 := fun j h0 h1 => th_el hD hth cr_0_12 (kd := 0) (n := 48004) (m := 48004) (lo := 0) (hi := 23999) (rs := []) (L := []) rfl (by decide) (j := j.toNat) (by omega)
  have hK_0_13 : ∀ j : Int, 0 ≤ j → j < 48004 → (-1) ≤ w_ei ws (w_ar ws (n_v vs 0) 13) j ∧ w_ei ws (w_ar ws (n_v vs 0) 13) j ≤ 48003 := fun j h0 h1 => th_el hD hth cr_0_13 (kd := 0) (n := 48004) (m := 48004) (lo := (-1)) (hi := 48003) (rs := []) (L := []) rfl (by decide) (j := j.toNat) (by omega)
  have kz_0_4 : (-2147483648) ≤ w_fi ws (n_v vs 0) 4 ∧ w_fi ws (n_v vs 0) 4 ≤ 2147483647 := tv_rng (th_fd hD hth r0 (g := GG_9) rfl (k := 4) (t := (0, -2147483648, 2147483647, [])) rfl rfl)
  have kz_0_5 : (-2147483648) ≤ w_fi ws (n_v vs 0) 5 ∧ w_fi ws (n_v vs 0) 5 ≤ 2147483647 := tv_rng (th_fd hD hth r0 (g := GG_9) rfl (k := 5) (t := (0, -2147483648, 2147483647, [])) rfl rfl)
  have kz_0_14 : 0 ≤ w_fi ws (n_v vs 0) 14 ∧ w_fi ws (n_v vs 0) 14 ≤ 48004 := tv_rng (th_fd hD hth r0 (g := GG_9) rfl (k := 14) (t := (0, 0, 48004, [])) rfl rfl)
  have nf0 : fc_1 (20, [3, 0], [30, 0, 1, 0, 0, -1, 1, 14]) ws (vs) := by
    refine ⟨fun n hn => ?_, ?_⟩
    · have hn : n ∈ [3, 0] := hn
      rw [hl]
      simp only [List.mem_cons, List.not_mem_nil, or_false] at hn
      show n < 12; omega
    · show 1 * v_iv (n_v vs 3) + ((-1) * w_fi ws (n_v vs 0) 14 + 0) ≤ 0
      omega
  refine ⟨(fun _ h => (by cases h)), [], trivial, ?_, (fun _ h => (by cases h))⟩
  rw [List.append_nil]
  exact List.forall_mem_cons.mpr ⟨⟨show (20 : Nat) < 100 from by decide, nf0⟩, (fun _ h => (by cases h))⟩
def o_Ro_goBack_6 : or_T := (104, 11, [(0, (2, 0, 0, [9])), (3, (0, 0, 48004, [])), (4, (2, 0, 0, [9])), (8, (0, 0, 5999, []))], [(20, [4], [50, 3, 3, 14, 4, 5, 11, 12, 13, 2, 18, 5, 2, 0, 4, 0, 9, 4, 5, 3, 0, 11, 7, 0, 0, 1, 2, 0, 14, 5, 3, 2, 0, 14, 2, 23, 0, 9, 4, 5, 3, 0, 12, 7, 0, 0, 1, 6, 2, 0, 4, 6, 3, 2, 0, 4, 2, 0, 5, 0, 9, 4, 5, 3, 0, 13, 7, 0, 0, 1, 2, 0, 14]), (20, [8, 4], [50, 2, 0, 1004, 1005, 0, 6, 4, 2, 1, 0, 0, 1, 6, 3, 2, 1, 4, 2, 1, 5]), (20, [3, 4], [30, 0, 1, 0, 0, -1, 1, 14]), (24, [0, 4], [])], [], [], [(20, [0], [50, 3, 3, 14, 4, 5, 11, 12, 13, 2, 18, 5, 2, 0, 4, 0, 9, 4, 5, 3, 0, 11, 7, 0, 0, 1, 2, 0, 14, 5, 3, 2, 0, 14, 2, 23, 0, 9, 4, 5, 3, 0, 12, 7, 0, 0, 1, 6, 2, 0, 4, 6, 3, 2, 0, 4, 2, 0, 5, 0, 9, 4, 5, 3, 0, 13, 7, 0, 0, 1, 2, 0, 14]), (20, [3, 0], [30, 0, 1, 0, 0, -1, 1, 14])], [], [(3, 8, -4294967296, 48004), (8, 3, -4294967296, 5999)])
theorem oo_Ro_goBack_6 {kA : Nat → ClassId} : or_ok kA GG o_Ro_goBack_6 := by
  intro A ta ws vs hD hth hl hk hds hf
  have hl : vs.length = 11 := hl
  have hk : ∀ q ∈ ([(0, (2, 0, 0, [9])), (3, (0, 0, 48004, [])), (4, (2, 0, 0, [9])), (8, (0, 0, 5999, []))] : List (Nat × tv_T)), tv_ok ta q.2 (n_v vs q.1) := hk
  obtain ⟨t0, hk⟩ := List.forall_mem_cons.mp hk
  have t0 : tv_ok ta (2, 0, 0, [9]) (n_v vs 0) := t0
  have r0 : ta (v_ad (n_v vs 0)) = some 9 := tv_rg t0
  obtain ⟨t3, hk⟩ := List.forall_mem_cons.mp hk
  have t3 : tv_ok ta (0, 0, 48004, []) (n_v vs 3) := t3
  have k3 : 0 ≤ v_iv (n_v vs 3) ∧ v_iv (n_v vs 3) ≤ 48004 := tv_rng t3
  obtain ⟨t4, hk⟩ := List.forall_mem_cons.mp hk
  have t4 : tv_ok ta (2, 0, 0, [9]) (n_v vs 4) := t4
  have r4 : ta (v_ad (n_v vs 4)) = some 9 := tv_rg t4
  obtain ⟨t8, hk⟩ := List.forall_mem_cons.mp hk
  have t8 : tv_ok ta (0, 0, 5999, []) (n_v vs 8) := t8
  have k8 : 0 ≤ v_iv (n_v vs 8) ∧ v_iv (n_v vs 8) ≤ 5999 := tv_rng t8
  have hds : ∀ q ∈ ([(3, 8, -4294967296, 48004), (8, 3, -4294967296, 5999)] : List of_T), n_iv vs q.2.1 + q.2.2.1 ≤ n_iv vs q.1 ∧ n_iv vs q.1 ≤ n_iv vs q.2.1 + q.2.2.2 := hds
  obtain ⟨d0, hds⟩ := List.forall_mem_cons.mp hds
  have d0 : v_iv (n_v vs 8) + (-4294967296) ≤ v_iv (n_v vs 3) ∧ v_iv (n_v vs 3) ≤ v_iv (n_v vs 8) + 48004 := d0
  obtain ⟨d1, hds⟩ := List.forall_mem_cons.mp hds
  have d1 : v_iv (n_v vs 3) + (-4294967296) ≤ v_iv (n_v vs 8) ∧ v_iv (n_v vs 8) ≤ v_iv (n_v vs 3) + 5999 := d1
  have hf : fc_ok [(20, [4], [50, 3, 3, 14, 4, 5, 11, 12, 13, 2, 18, 5, 2, 0, 4, 0, 9, 4, 5, 3, 0, 11, 7, 0, 0, 1, 2, 0, 14, 5, 3, 2, 0, 14, 2, 23, 0, 9, 4, 5, 3, 0, 12, 7, 0, 0, 1, 6, 2, 0, 4, 6, 3, 2, 0, 4, 2, 0, 5, 0, 9, 4, 5, 3, 0, 13, 7, 0, 0, 1, 2, 0, 14]), (20, [8, 4], [50, 2, 0, 1004, 1005, 0, 6, 4, 2, 1, 0, 0, 1, 6, 3, 2, 1, 4, 2, 1, 5]), (20, [3, 4], [30, 0, 1, 0, 0, -1, 1, 14]), (24, [0, 4], [])] ta ws vs := hf
  obtain ⟨f0, hf⟩ := fc_un (show (20 : Nat) < 100 from by decide) hf
  have f0 : (∀ j0 : Int, 0 ≤ j0 → j0 < 4 → ((w_ei ws (w_ar ws (n_v vs 4) 11) (j0) + 1) ≤ w_fi ws (n_v vs 4) 14)) ∧ (∀ j0 : Int, 0 ≤ j0 → j0 < w_fi ws (n_v vs 4) 14 → (((w_ei ws (w_ar ws (n_v vs 4) 12) (j0) + 1) ≤ (4 * (w_fi ws (n_v vs 4) 4 * w_fi ws (n_v vs 4) 5))) ∧ ((w_ei ws (w_ar ws (n_v vs 4) 13) (j0) + 1) ≤ w_fi ws (n_v vs 4) 14))) := f0
  obtain ⟨f1, hf⟩ := fc_un (show (20 : Nat) < 100 from by decide) hf
  have f1 : (v_iv (n_v vs 8) + 1) ≤ (w_fi ws (n_v vs 4) 4 * w_fi ws (n_v vs 4) 5) := f1
  obtain ⟨f2, hf⟩ := fc_un (show (20 : Nat) < 100 from by decide) hf
  have f2 : 1 * v_iv (n_v vs 3) + ((-1) * w_fi ws (n_v vs 4) 14 + 0) ≤ 0 := f2
  obtain ⟨f3, hf⟩ := fc_un (show (24 : Nat) < 100 from by decide) hf
  have f3 : n_v vs 0 = n_v vs 4 := f3
  have q4 : n_v vs 4 = n_v vs 0 := f3.symm
  rw [q4] at f0
  rw [q4] at f1
  rw [q4] at f2
  have cr_0_11 : ta (w_ar ws (n_v vs 0) 11) = some 113 := tv_rg (th_fd hD hth r0 (g := GG_9) rfl (k := 11) (t := (2, 0, 0, [113])) rfl rfl)
  have cr_0_12 : ta (w_ar ws (n_v vs 0) 12) = some 114 := tv_rg (th_fd hD hth r0 (g := GG_9) rfl (k := 12) (t := (2, 0, 0, [114])) rfl rfl)
  have cr_0_13 : ta (w_ar ws (n_v vs 0) 13) = some 115 := tv_rg (th_fd hD hth r0 (g := GG_9) rfl (k := 13) (t := (2, 0, 0, [115])) rfl rfl)
  have hK_0_11 : ∀ j : Int, 0 ≤ j → j < 4 → (-1) ≤ w_ei ws (w_ar ws (n_v vs 0) 11) j ∧ w_ei ws (w_ar ws (n_v vs 0) 11) j ≤ 48003 := fun j h0 h1 => th_el hD hth cr_0_11 (kd := 0) (n := 4) (m := 4) (lo := (-1)) (hi := 48003) (rs := []) (L := []) rfl (by decide) (j := j.toNat) (by omega)
  have hK_0_12 : ∀ j : Int, 0 ≤ j → j < 48004 → 0 ≤ w_ei ws (w_ar ws (n_v vs 0) 12) j ∧ w_ei ws (w_ar ws (n_v vs 0) 12) j ≤ 23999 := fun j h0 h1 => th_el hD hth cr_0_12 (kd := 0) (n := 48004) (m := 48004) (lo := 0) (hi := 23999) (rs := []) (L := []) rfl (by decide) (j := j.toNat) (by omega)
  have hK_0_13 : ∀ j : Int, 0 ≤ j → j < 48004 → (-1) ≤ w_ei ws (w_ar ws (n_v vs 0) 13) j ∧ w_ei ws (w_ar ws (n_v vs 0) 13) j ≤ 48003 := fun j h0 h1 => th_el hD hth cr_0_13 (kd := 0) (n := 48004) (m := 48004) (lo := (-1)) (hi := 48003) (rs := []) (L := []) rfl (by decide) (j := j.toNat) (by omega)
  have kz_0_4 : (-2147483648) ≤ w_fi ws (n_v vs 0) 4 ∧ w_fi ws (n_v vs 0) 4 ≤ 2147483647 := tv_rng (th_fd hD hth r0 (g := GG_9) rfl (k := 4) (t := (0, -2147483648, 2147483647, [])) rfl rfl)
  have kz_0_5 : (-2147483648) ≤ w_fi ws (n_v vs 0) 5 ∧ w_fi ws (n_v vs 0) 5 ≤ 2147483647 := tv_rng (th_fd hD hth r0 (g := GG_9) rfl (k := 5) (t := (0, -2147483648, 2147483647, [])) rfl rfl)
  have kz_0_14 : 0 ≤ w_fi ws (n_v vs 0) 14 ∧ w_fi ws (n_v vs 0) 14 ≤ 48004 := tv_rng (th_fd hD hth r0 (g := GG_9) rfl (k := 14) (t := (0, 0, 48004, [])) rfl rfl)
  have nf0 : fc_1 (20, [0], [50, 3, 3, 14, 4, 5, 11, 12, 13, 2, 18, 5, 2, 0, 4, 0, 9, 4, 5, 3, 0, 11, 7, 0, 0, 1, 2, 0, 14, 5, 3, 2, 0, 14, 2, 23, 0, 9, 4, 5, 3, 0, 12, 7, 0, 0, 1, 6, 2, 0, 4, 6, 3, 2, 0, 4, 2, 0, 5, 0, 9, 4, 5, 3, 0, 13, 7, 0, 0, 1, 2, 0, 14]) ws (vs) := by
    refine ⟨fun n hn => ?_, ?_⟩
    · have hn : n ∈ [0] := hn
      rw [hl]
      simp only [List.mem_cons, List.not_mem_nil, or_false] at hn
      show n < 11; omega
    · show (∀ j0 : Int, 0 ≤ j0 → j0 < 4 → ((w_ei ws (w_ar ws (n_v vs 0) 11) (j0) + 1) ≤ w_fi ws (n_v vs 0) 14)) ∧ (∀ j0 : Int, 0 ≤ j0 → j0 < w_fi ws (n_v vs 0) 14 → (((w_ei ws (w_ar ws (n_v vs 0) 12) (j0) + 1) ≤ (4 * (w_fi ws (n_v vs 0) 4 * w_fi ws (n_v vs 0) 5))) ∧ ((w_ei ws (w_ar ws (n_v vs 0) 13) (j0) + 1) ≤ w_fi ws (n_v vs 0) 14)))
      first | omega | grind
  have nf1 : fc_1 (20, [3, 0], [30, 0, 1, 0, 0, -1, 1, 14]) ws (vs) := by
    refine ⟨fun n hn => ?_, ?_⟩
    · have hn : n ∈ [3, 0] := hn
      rw [hl]
      simp only [List.mem_cons, List.not_mem_nil, or_false] at hn
      show n < 11; omega
    · show 1 * v_iv (n_v vs 3) + ((-1) * w_fi ws (n_v vs 0) 14 + 0) ≤ 0
      omega
  refine ⟨(fun _ h => (by cases h)), [], trivial, ?_, (fun _ h => (by cases h))⟩
  rw [List.append_nil]
  exact List.forall_mem_cons.mpr ⟨⟨show (20 : Nat) < 100 from by decide, nf0⟩, List.forall_mem_cons.mpr ⟨⟨show (20 : Nat) < 100 from by decide, nf1⟩, (fun _ h => (by cases h))⟩⟩
def o_Ro_goBack_7 : or_T := (95, 18, [(0, (2, 0, 0, [9])), (3, (0, 0, 48004, [])), (4, (2, 0, 0, [9])), (7, (0, 0, 3, [])), (8, (0, 0, 5999, [])), (9, (0, 0, 3, [])), (10, (0, 4, 4, [])), (12, (0, 0, 3, [])), (13, (0, 4, 4, [])), (14, (0, 0, 23996, [])), (15, (0, 0, 23999, []))], [(7, [9, 7], [1]), (1, [15, 14, 9], []), (3, [14, 13, 8], []), (7, [9, 12], [1]), (7, [9, 10], [2]), (20, [4], [50, 3, 3, 14, 4, 5, 11, 12, 13, 2, 18, 5, 2, 0, 4, 0, 9, 4, 5, 3, 0, 11, 7, 0, 0, 1, 2, 0, 14, 5, 3, 2, 0, 14, 2, 23, 0, 9, 4, 5, 3, 0, 12, 7, 0, 0, 1, 6, 2, 0, 4, 6, 3, 2, 0, 4, 2, 0, 5, 0, 9, 4, 5, 3, 0, 13, 7, 0, 0, 1, 2, 0, 14]), (20, [8, 4], [50, 2, 0, 1004, 1005, 0, 6, 4, 2, 1, 0, 0, 1, 6, 3, 2, 1, 4, 2, 1, 5]), (20, [3, 4], [30, 0, 1, 0, 0, -1, 1, 14]), (24, [0, 4], [])], [], [(0, 0, 48004, [])], [(20, [4], [50, 3, 3, 14, 4, 5, 11, 12, 13, 2, 18, 5, 2, 0, 4, 0, 9, 4, 5, 3, 0, 11, 7, 0, 0, 1, 2, 0, 14, 5, 3, 2, 0, 14, 2, 23, 0, 9, 4, 5, 3, 0, 12, 7, 0, 0, 1, 6, 2, 0, 4, 6, 3, 2, 0, 4, 2, 0, 5, 0, 9, 4, 5, 3, 0, 13, 7, 0, 0, 1, 2, 0, 14]), (20, [15, 4], [50, 2, 0, 1004, 1005, 0, 6, 4, 2, 1, 0, 0, 1, 6, 2, 0, 4, 6, 3, 2, 1, 4, 2, 1, 5]), (20, [4, 18], [30, 0, 1, 1, 14, -1, 0, 0]), (20, [4, 18], [30, 0, -1, 1, 14, 1, 0, 0]), (23, [3, 18], [0, 1, -1])], [], [(15, 9, 0, 23996), (15, 14, 0, 3), (3, 7, -4294967296, 48004), (3, 8, -4294967296, 48004), (3, 9, -4294967296, 48004), (7, 3, -4294967296, 3), (7, 8, -4294967296, 3), (7, 9, -4294967296, 3), (8, 3, -4294967296, 5999), (8, 7, -4294967296, 5999), (8, 9, -4294967296, 5999)])
theorem oo_Ro_goBack_7 {kA : Nat → ClassId} : or_ok kA GG o_Ro_goBack_7 := by
  intro A ta ws vs hD hth hl hk hds hf
  have hl : vs.length = 18 := hl
  have hk : ∀ q ∈ ([(0, (2, 0, 0, [9])), (3, (0, 0, 48004, [])), (4, (2, 0, 0, [9])), (7, (0, 0, 3, [])), (8, (0, 0, 5999, [])), (9, (0, 0, 3, [])), (10, (0, 4, 4, [])), (12, (0, 0, 3, [])), (13, (0, 4, 4, [])), (14, (0, 0, 23996, [])), (15, (0, 0, 23999, []))] : List (Nat × tv_T)), tv_ok ta q.2 (n_v vs q.1) := hk
  obtain ⟨t0, hk⟩ := List.forall_mem_cons.mp hk
  have t0 : tv_ok ta (2, 0, 0, [9]) (n_v vs 0) := t0
  have r0 : ta (v_ad (n_v vs 0)) = some 9 := tv_rg t0
  obtain ⟨t3, hk⟩ := List.forall_mem_cons.mp hk
  have t3 : tv_ok ta (0, 0, 48004, []) (n_v vs 3) := t3
  have k3 : 0 ≤ v_iv (n_v vs 3) ∧ v_iv (n_v vs 3) ≤ 48004 := tv_rng t3
  obtain ⟨t4, hk⟩ := List.forall_mem_cons.mp hk
  have t4 : tv_ok ta (2, 0, 0, [9]) (n_v vs 4) := t4
  have r4 : ta (v_ad (n_v vs 4)) = some 9 := tv_rg t4
  obtain ⟨t7, hk⟩ := List.forall_mem_cons.mp hk
  have t7 : tv_ok ta (0, 0, 3, []) (n_v vs 7) := t7
  have k7 : 0 ≤ v_iv (n_v vs 7) ∧ v_iv (n_v vs 7) ≤ 3 := tv_rng t7
  obtain ⟨t8, hk⟩ := List.forall_mem_cons.mp hk
  have t8 : tv_ok ta (0, 0, 5999, []) (n_v vs 8) := t8
  have k8 : 0 ≤ v_iv (n_v vs 8) ∧ v_iv (n_v vs 8) ≤ 5999 := tv_rng t8
  obtain ⟨t9, hk⟩ := List.forall_mem_cons.mp hk
  have t9 : tv_ok ta (0, 0, 3, []) (n_v vs 9) := t9
  have k9 : 0 ≤ v_iv (n_v vs 9) ∧ v_iv (n_v vs 9) ≤ 3 := tv_rng t9
  obtain ⟨t10, hk⟩ := List.forall_mem_cons.mp hk
  have t10 : tv_ok ta (0, 4, 4, []) (n_v vs 10) := t10
  have k10 : 4 ≤ v_iv (n_v vs 10) ∧ v_iv (n_v vs 10) ≤ 4 := tv_rng t10
  obtain ⟨t12, hk⟩ := List.forall_mem_cons.mp hk
  have t12 : tv_ok ta (0, 0, 3, []) (n_v vs 12) := t12
  have k12 : 0 ≤ v_iv (n_v vs 12) ∧ v_iv (n_v vs 12) ≤ 3 := tv_rng t12
  obtain ⟨t13, hk⟩ := List.forall_mem_cons.mp hk
  have t13 : tv_ok ta (0, 4, 4, []) (n_v vs 13) := t13
  have k13 : 4 ≤ v_iv (n_v vs 13) ∧ v_iv (n_v vs 13) ≤ 4 := tv_rng t13
  obtain ⟨t14, hk⟩ := List.forall_mem_cons.mp hk
  have t14 : tv_ok ta (0, 0, 23996, []) (n_v vs 14) := t14
  have k14 : 0 ≤ v_iv (n_v vs 14) ∧ v_iv (n_v vs 14) ≤ 23996 := tv_rng t14
  obtain ⟨t15, hk⟩ := List.forall_mem_cons.mp hk
  have t15 : tv_ok ta (0, 0, 23999, []) (n_v vs 15) := t15
  have k15 : 0 ≤ v_iv (n_v vs 15) ∧ v_iv (n_v vs 15) ≤ 23999 := tv_rng t15
  have hds : ∀ q ∈ ([(15, 9, 0, 23996), (15, 14, 0, 3), (3, 7, -4294967296, 48004), (3, 8, -4294967296, 48004), (3, 9, -4294967296, 48004), (7, 3, -4294967296, 3), (7, 8, -4294967296, 3), (7, 9, -4294967296, 3), (8, 3, -4294967296, 5999), (8, 7, -4294967296, 5999), (8, 9, -4294967296, 5999)] : List of_T), n_iv vs q.2.1 + q.2.2.1 ≤ n_iv vs q.1 ∧ n_iv vs q.1 ≤ n_iv vs q.2.1 + q.2.2.2 := hds
  obtain ⟨d0, hds⟩ := List.forall_mem_cons.mp hds
  have d0 : v_iv (n_v vs 9) + 0 ≤ v_iv (n_v vs 15) ∧ v_iv (n_v vs 15) ≤ v_iv (n_v vs 9) + 23996 := d0
  obtain ⟨d1, hds⟩ := List.forall_mem_cons.mp hds
  have d1 : v_iv (n_v vs 14) + 0 ≤ v_iv (n_v vs 15) ∧ v_iv (n_v vs 15) ≤ v_iv (n_v vs 14) + 3 := d1
  obtain ⟨d2, hds⟩ := List.forall_mem_cons.mp hds
  have d2 : v_iv (n_v vs 7) + (-4294967296) ≤ v_iv (n_v vs 3) ∧ v_iv (n_v vs 3) ≤ v_iv (n_v vs 7) + 48004 := d2
  obtain ⟨d3, hds⟩ := List.forall_mem_cons.mp hds
  have d3 : v_iv (n_v vs 8) + (-4294967296) ≤ v_iv (n_v vs 3) ∧ v_iv (n_v vs 3) ≤ v_iv (n_v vs 8) + 48004 := d3
  obtain ⟨d4, hds⟩ := List.forall_mem_cons.mp hds
  have d4 : v_iv (n_v vs 9) + (-4294967296) ≤ v_iv (n_v vs 3) ∧ v_iv (n_v vs 3) ≤ v_iv (n_v vs 9) + 48004 := d4
  obtain ⟨d5, hds⟩ := List.forall_mem_cons.mp hds
  have d5 : v_iv (n_v vs 3) + (-4294967296) ≤ v_iv (n_v vs 7) ∧ v_iv (n_v vs 7) ≤ v_iv (n_v vs 3) + 3 := d5
  obtain ⟨d6, hds⟩ := List.forall_mem_cons.mp hds
  have d6 : v_iv (n_v vs 8) + (-4294967296) ≤ v_iv (n_v vs 7) ∧ v_iv (n_v vs 7) ≤ v_iv (n_v vs 8) + 3 := d6
  obtain ⟨d7, hds⟩ := List.forall_mem_cons.mp hds
  have d7 : v_iv (n_v vs 9) + (-4294967296) ≤ v_iv (n_v vs 7) ∧ v_iv (n_v vs 7) ≤ v_iv (n_v vs 9) + 3 := d7
  obtain ⟨d8, hds⟩ := List.forall_mem_cons.mp hds
  have d8 : v_iv (n_v vs 3) + (-4294967296) ≤ v_iv (n_v vs 8) ∧ v_iv (n_v vs 8) ≤ v_iv (n_v vs 3) + 5999 := d8
  obtain ⟨d9, hds⟩ := List.forall_mem_cons.mp hds
  have d9 : v_iv (n_v vs 7) + (-4294967296) ≤ v_iv (n_v vs 8) ∧ v_iv (n_v vs 8) ≤ v_iv (n_v vs 7) + 5999 := d9
  obtain ⟨d10, hds⟩ := List.forall_mem_cons.mp hds
  have d10 : v_iv (n_v vs 9) + (-4294967296) ≤ v_iv (n_v vs 8) ∧ v_iv (n_v vs 8) ≤ v_iv (n_v vs 9) + 5999 := d10
  have hf : fc_ok [(7, [9, 7], [1]), (1, [15, 14, 9], []), (3, [14, 13, 8], []), (7, [9, 12], [1]), (7, [9, 10], [2]), (20, [4], [50, 3, 3, 14, 4, 5, 11, 12, 13, 2, 18, 5, 2, 0, 4, 0, 9, 4, 5, 3, 0, 11, 7, 0, 0, 1, 2, 0, 14, 5, 3, 2, 0, 14, 2, 23, 0, 9, 4, 5, 3, 0, 12, 7, 0, 0, 1, 6, 2, 0, 4, 6, 3, 2, 0, 4, 2, 0, 5, 0, 9, 4, 5, 3, 0, 13, 7, 0, 0, 1, 2, 0, 14]), (20, [8, 4], [50, 2, 0, 1004, 1005, 0, 6, 4, 2, 1, 0, 0, 1, 6, 3, 2, 1, 4, 2, 1, 5]), (20, [3, 4], [30, 0, 1, 0, 0, -1, 1, 14]), (24, [0, 4], [])] ta ws vs := hf
  obtain ⟨f0, hf⟩ := fc_un (show (7 : Nat) < 100 from by decide) hf
  have f0 : v_iv (n_v vs 9) ≠ v_iv (n_v vs 7) := f0
  obtain ⟨f1, hf⟩ := fc_un (show (1 : Nat) < 100 from by decide) hf
  have f1 : v_iv (n_v vs 15) = v_iv (n_v vs 14) + v_iv (n_v vs 9) := f1
  obtain ⟨f2, hf⟩ := fc_un (show (3 : Nat) < 100 from by decide) hf
  have f2 : v_iv (n_v vs 14) = v_iv (n_v vs 13) * v_iv (n_v vs 8) := f2
  rw [show v_iv (n_v vs 13) = 4 from by omega] at f2
  obtain ⟨f3, hf⟩ := fc_un (show (7 : Nat) < 100 from by decide) hf
  have f3 : v_iv (n_v vs 9) ≠ v_iv (n_v vs 12) := f3
  obtain ⟨f4, hf⟩ := fc_un (show (7 : Nat) < 100 from by decide) hf
  have f4 : v_iv (n_v vs 9) < v_iv (n_v vs 10) := f4
  obtain ⟨f5, hf⟩ := fc_un (show (20 : Nat) < 100 from by decide) hf
  have f5 : (∀ j0 : Int, 0 ≤ j0 → j0 < 4 → ((w_ei ws (w_ar ws (n_v vs 4) 11) (j0) + 1) ≤ w_fi ws (n_v vs 4) 14)) ∧ (∀ j0 : Int, 0 ≤ j0 → j0 < w_fi ws (n_v vs 4) 14 → (((w_ei ws (w_ar ws (n_v vs 4) 12) (j0) + 1) ≤ (4 * (w_fi ws (n_v vs 4) 4 * w_fi ws (n_v vs 4) 5))) ∧ ((w_ei ws (w_ar ws (n_v vs 4) 13) (j0) + 1) ≤ w_fi ws (n_v vs 4) 14))) := f5
  obtain ⟨f6, hf⟩ := fc_un (show (20 : Nat) < 100 from by decide) hf
  have f6 : (v_iv (n_v vs 8) + 1) ≤ (w_fi ws (n_v vs 4) 4 * w_fi ws (n_v vs 4) 5) := f6
  obtain ⟨f7, hf⟩ := fc_un (show (20 : Nat) < 100 from by decide) hf
  have f7 : 1 * v_iv (n_v vs 3) + ((-1) * w_fi ws (n_v vs 4) 14 + 0) ≤ 0 := f7
  obtain ⟨f8, hf⟩ := fc_un (show (24 : Nat) < 100 from by decide) hf
  have f8 : n_v vs 0 = n_v vs 4 := f8
  have q4 : n_v vs 4 = n_v vs 0 := f8.symm
  rw [q4] at f5
  rw [q4] at f6
  rw [q4] at f7
  have cr_0_11 : ta (w_ar ws (n_v vs 0) 11) = some 113 := tv_rg (th_fd hD hth r0 (g := GG_9) rfl (k := 11) (t := (2, 0, 0, [113])) rfl rfl)
  have cr_0_12 : ta (w_ar ws (n_v vs 0) 12) = some 114 := tv_rg (th_fd hD hth r0 (g := GG_9) rfl (k := 12) (t := (2, 0, 0, [114])) rfl rfl)
  have cr_0_13 : ta (w_ar ws (n_v vs 0) 13) = some 115 := tv_rg (th_fd hD hth r0 (g := GG_9) rfl (k := 13) (t := (2, 0, 0, [115])) rfl rfl)
  have hK_0_11 : ∀ j : Int, 0 ≤ j → j < 4 → (-1) ≤ w_ei ws (w_ar ws (n_v vs 0) 11) j ∧ w_ei ws (w_ar ws (n_v vs 0) 11) j ≤ 48003 := fun j h0 h1 => th_el hD hth cr_0_11 (kd := 0) (n := 4) (m := 4) (lo := (-1)) (hi := 48003) (rs := []) (L := []) rfl (by decide) (j := j.toNat) (by omega)
  have hK_0_12 : ∀ j : Int, 0 ≤ j → j < 48004 → 0 ≤ w_ei ws (w_ar ws (n_v vs 0) 12) j ∧ w_ei ws (w_ar ws (n_v vs 0) 12) j ≤ 23999 := fun j h0 h1 => th_el hD hth cr_0_12 (kd := 0) (n := 48004) (m := 48004) (lo := 0) (hi := 23999) (rs := []) (L := []) rfl (by decide) (j := j.toNat) (by omega)
  have hK_0_13 : ∀ j : Int, 0 ≤ j → j < 48004 → (-1) ≤ w_ei ws (w_ar ws (n_v vs 0) 13) j ∧ w_ei ws (w_ar ws (n_v vs 0) 13) j ≤ 48003 := fun j h0 h1 => th_el hD hth cr_0_13 (kd := 0) (n := 48004) (m := 48004) (lo := (-1)) (hi := 48003) (rs := []) (L := []) rfl (by decide) (j := j.toNat) (by omega)
  have kz_0_4 : (-2147483648) ≤ w_fi ws (n_v vs 0) 4 ∧ w_fi ws (n_v vs 0) 4 ≤ 2147483647 := tv_rng (th_fd hD hth r0 (g := GG_9) rfl (k := 4) (t := (0, -2147483648, 2147483647, [])) rfl rfl)
  have kz_0_5 : (-2147483648) ≤ w_fi ws (n_v vs 0) 5 ∧ w_fi ws (n_v vs 0) 5 ≤ 2147483647 := tv_rng (th_fd hD hth r0 (g := GG_9) rfl (k := 5) (t := (0, -2147483648, 2147483647, [])) rfl rfl)
  have kz_0_14 : 0 ≤ w_fi ws (n_v vs 0) 14 ∧ w_fi ws (n_v vs 0) 14 ≤ 48004 := tv_rng (th_fd hD hth r0 (g := GG_9) rfl (k := 14) (t := (0, 0, 48004, [])) rfl rfl)
  have kv0 : 0 ≤ w_fi ws (n_v vs 0) 14 ∧ w_fi ws (n_v vs 0) 14 ≤ 48004 := tv_rng (th_fd hD hth r0 (g := GG_9) rfl (k := 14) (t := (0, 0, 48004, [])) rfl rfl)
  obtain ⟨x, ex, hx⟩ := iv_ex (ta := ta) (lo := 0) (hi := 48004) (z := w_fi ws (n_v vs 0) 14) (by omega) (by omega) (by omega) (by omega)
  have ex2 : v_iv (Value.int x) = w_fi ws (n_v vs 0) 14 := ex
  have ex3 : 0 ≤ v_iv (Value.int x) ∧ v_iv (Value.int x) ≤ 48004 := tv_rng hx
  have e_3 : n_v (vs ++ [Value.int x]) 3 = n_v vs 3 := n_v_old (by rw [hl]; decide)
  have e_4 : n_v (vs ++ [Value.int x]) 4 = n_v vs 4 := n_v_old (by rw [hl]; decide)
  have e_15 : n_v (vs ++ [Value.int x]) 15 = n_v vs 15 := n_v_old (by rw [hl]; decide)
  have e_18 : n_v (vs ++ [Value.int x]) 18 = Value.int x := n_v_new hl
  have nf0 : fc_1 (20, [4], [50, 3, 3, 14, 4, 5, 11, 12, 13, 2, 18, 5, 2, 0, 4, 0, 9, 4, 5, 3, 0, 11, 7, 0, 0, 1, 2, 0, 14, 5, 3, 2, 0, 14, 2, 23, 0, 9, 4, 5, 3, 0, 12, 7, 0, 0, 1, 6, 2, 0, 4, 6, 3, 2, 0, 4, 2, 0, 5, 0, 9, 4, 5, 3, 0, 13, 7, 0, 0, 1, 2, 0, 14]) ws (vs ++ [Value.int x]) := by
    refine ⟨fun n hn => ?_, ?_⟩
    · have hn : n ∈ [4] := hn
      rw [List.length_append, hl]
      simp only [List.mem_cons, List.not_mem_nil, or_false] at hn
      show n < 18 + 1; omega
    · show (∀ j0 : Int, 0 ≤ j0 → j0 < 4 → ((w_ei ws (w_ar ws (n_v (vs ++ [Value.int x]) 4) 11) (j0) + 1) ≤ w_fi ws (n_v (vs ++ [Value.int x]) 4) 14)) ∧ (∀ j0 : Int, 0 ≤ j0 → j0 < w_fi ws (n_v (vs ++ [Value.int x]) 4) 14 → (((w_ei ws (w_ar ws (n_v (vs ++ [Value.int x]) 4) 12) (j0) + 1) ≤ (4 * (w_fi ws (n_v (vs ++ [Value.int x]) 4) 4 * w_fi ws (n_v (vs ++ [Value.int x]) 4) 5))) ∧ ((w_ei ws (w_ar ws (n_v (vs ++ [Value.int x]) 4) 13) (j0) + 1) ≤ w_fi ws (n_v (vs ++ [Value.int x]) 4) 14)))
      rw [e_4]
      rw [q4]
      first | omega | grind
  have nf1 : fc_1 (20, [15, 4], [50, 2, 0, 1004, 1005, 0, 6, 4, 2, 1, 0, 0, 1, 6, 2, 0, 4, 6, 3, 2, 1, 4, 2, 1, 5]) ws (vs ++ [Value.int x]) := by
    refine ⟨fun n hn => ?_, ?_⟩
    · have hn : n ∈ [15, 4] := hn
      rw [List.length_append, hl]
      simp only [List.mem_cons, List.not_mem_nil, or_false] at hn
      show n < 18 + 1; omega
    · show (v_iv (n_v (vs ++ [Value.int x]) 15) + 1) ≤ (4 * (w_fi ws (n_v (vs ++ [Value.int x]) 4) 4 * w_fi ws (n_v (vs ++ [Value.int x]) 4) 5))
      rw [e_4]
      rw [e_15]
      rw [q4]
      first | omega | grind
  have nf2 : fc_1 (20, [4, 18], [30, 0, 1, 1, 14, -1, 0, 0]) ws (vs ++ [Value.int x]) := by
    refine ⟨fun n hn => ?_, ?_⟩
    · have hn : n ∈ [4, 18] := hn
      rw [List.length_append, hl]
      simp only [List.mem_cons, List.not_mem_nil, or_false] at hn
      show n < 18 + 1; omega
    · show 1 * w_fi ws (n_v (vs ++ [Value.int x]) 4) 14 + ((-1) * v_iv (n_v (vs ++ [Value.int x]) 18) + 0) ≤ 0
      rw [e_4]
      rw [e_18]
      rw [q4]
      omega
  have nf3 : fc_1 (20, [4, 18], [30, 0, -1, 1, 14, 1, 0, 0]) ws (vs ++ [Value.int x]) := by
    refine ⟨fun n hn => ?_, ?_⟩
    · have hn : n ∈ [4, 18] := hn
      rw [List.length_append, hl]
      simp only [List.mem_cons, List.not_mem_nil, or_false] at hn
      show n < 18 + 1; omega
    · show (-1) * w_fi ws (n_v (vs ++ [Value.int x]) 4) 14 + (1 * v_iv (n_v (vs ++ [Value.int x]) 18) + 0) ≤ 0
      rw [e_4]
      rw [e_18]
      rw [q4]
      omega
  have nf4 : fc_1 (23, [3, 18], [0, 1, -1]) ws (vs ++ [Value.int x]) := by
    refine ⟨fun n hn => ?_, ?_⟩
    · have hn : n ∈ [3, 18] := hn
      rw [List.length_append, hl]
      simp only [List.mem_cons, List.not_mem_nil, or_false] at hn
      show n < 18 + 1; omega
    · show 1 * v_iv (n_v (vs ++ [Value.int x]) 3) + ((-1) * v_iv (n_v (vs ++ [Value.int x]) 18) + 0) ≤ 0
      rw [e_3]
      rw [e_18]
      omega
  exact ⟨(fun _ h => (by cases h)), [Value.int x], ag_one hx, List.forall_mem_cons.mpr ⟨⟨show (20 : Nat) < 100 from by decide, nf0⟩, List.forall_mem_cons.mpr ⟨⟨show (20 : Nat) < 100 from by decide, nf1⟩, List.forall_mem_cons.mpr ⟨⟨show (20 : Nat) < 100 from by decide, nf2⟩, List.forall_mem_cons.mpr ⟨⟨show (20 : Nat) < 100 from by decide, nf3⟩, List.forall_mem_cons.mpr ⟨⟨show (23 : Nat) < 100 from by decide, nf4⟩, (fun _ h => (by cases h))⟩⟩⟩⟩⟩, (fun _ h => (by cases h))⟩
def o_Ro_goBack_8 : or_T := (60, 20, [(0, (2, 0, 0, [9])), (3, (0, 0, 48004, [])), (4, (2, 0, 0, [9])), (7, (0, 0, 3, [])), (8, (0, 0, 5999, [])), (9, (0, 0, 3, [])), (10, (0, 4, 4, [])), (12, (0, 0, 3, [])), (13, (0, 4, 4, [])), (14, (0, 0, 23996, [])), (15, (0, 0, 23999, [])), (18, (0, 0, 48004, [])), (19, (0, 1, 4, []))], [(6, [19, 9], [1]), (20, [15, 4], [50, 2, 0, 1004, 1005, 0, 6, 4, 2, 1, 0, 0, 1, 6, 2, 0, 4, 6, 3, 2, 1, 4, 2, 1, 5]), (23, [3, 18], [0, 1, -1]), (20, [8, 4], [50, 2, 0, 1004, 1005, 0, 6, 4, 2, 1, 0, 0, 1, 6, 3, 2, 1, 4, 2, 1, 5]), (24, [0, 4], []), (20, [4], [50, 3, 3, 14, 4, 5, 11, 12, 13, 2, 18, 5, 2, 0, 4, 0, 9, 4, 5, 3, 0, 11, 7, 0, 0, 1, 2, 0, 14, 5, 3, 2, 0, 14, 2, 23, 0, 9, 4, 5, 3, 0, 12, 7, 0, 0, 1, 6, 2, 0, 4, 6, 3, 2, 0, 4, 2, 0, 5, 0, 9, 4, 5, 3, 0, 13, 7, 0, 0, 1, 2, 0, 14]), (20, [18, 4], [30, 0, 1, 0, 0, -1, 1, 14]), (102, [18], [77884452878022414427957444938301440, 9014]), (23, [3, 18], [0, 1, -1]), (7, [9, 7], [1]), (1, [15, 14, 9], []), (3, [14, 13, 8], []), (7, [9, 12], [1]), (7, [9, 10], [2])], [], [], [(20, [3, 4], [30, 0, 1, 0, 0, -1, 1, 14])], [], [(19, 9, 1, 1), (15, 9, 0, 23996), (15, 14, 0, 3), (3, 7, -4294967296, 48004), (3, 8, -4294967296, 48004), (3, 9, -4294967296, 48004), (7, 3, -4294967296, 3), (7, 8, -4294967296, 3), (7, 9, -4294967296, 3), (8, 3, -4294967296, 5999), (8, 7, -4294967296, 5999), (8, 9, -4294967296, 5999)])
theorem oo_Ro_goBack_8 {kA : Nat → ClassId} : or_ok kA GG o_Ro_goBack_8 := by
  intro A ta ws vs hD hth hl hk hds hf
  have hl : vs.length = 20 := hl
  have hk : ∀ q ∈ ([(0, (2, 0, 0, [9])), (3, (0, 0, 48004, [])), (4, (2, 0, 0, [9])), (7, (0, 0, 3, [])), (8, (0, 0, 5999, [])), (9, (0, 0, 3, [])), (10, (0, 4, 4, [])), (12, (0, 0, 3, [])), (13, (0, 4, 4, [])), (14, (0, 0, 23996, [])), (15, (0, 0, 23999, [])), (18, (0, 0, 48004, [])), (19, (0, 1, 4, []))] : List (Nat × tv_T)), tv_ok ta q.2 (n_v vs q.1) := hk
  obtain ⟨t0, hk⟩ := List.forall_mem_cons.mp hk
  have t0 : tv_ok ta (2, 0, 0, [9]) (n_v vs 0) := t0
  have r0 : ta (v_ad (n_v vs 0)) = some 9 := tv_rg t0
  obtain ⟨t3, hk⟩ := List.forall_mem_cons.mp hk
  have t3 : tv_ok ta (0, 0, 48004, []) (n_v vs 3) := t3
  have k3 : 0 ≤ v_iv (n_v vs 3) ∧ v_iv (n_v vs 3) ≤ 48004 := tv_rng t3
  obtain ⟨t4, hk⟩ := List.forall_mem_cons.mp hk
  have t4 : tv_ok ta (2, 0, 0, [9]) (n_v vs 4) := t4
  have r4 : ta (v_ad (n_v vs 4)) = some 9 := tv_rg t4
  obtain ⟨t7, hk⟩ := List.forall_mem_cons.mp hk
  have t7 : tv_ok ta (0, 0, 3, []) (n_v vs 7) := t7
  have k7 : 0 ≤ v_iv (n_v vs 7) ∧ v_iv (n_v vs 7) ≤ 3 := tv_rng t7
  obtain ⟨t8, hk⟩ := List.forall_mem_cons.mp hk
  have t8 : tv_ok ta (0, 0, 5999, []) (n_v vs 8) := t8
  have k8 : 0 ≤ v_iv (n_v vs 8) ∧ v_iv (n_v vs 8) ≤ 5999 := tv_rng t8
  obtain ⟨t9, hk⟩ := List.forall_mem_cons.mp hk
  have t9 : tv_ok ta (0, 0, 3, []) (n_v vs 9) := t9
  have k9 : 0 ≤ v_iv (n_v vs 9) ∧ v_iv (n_v vs 9) ≤ 3 := tv_rng t9
  obtain ⟨t10, hk⟩ := List.forall_mem_cons.mp hk
  have t10 : tv_ok ta (0, 4, 4, []) (n_v vs 10) := t10
  have k10 : 4 ≤ v_iv (n_v vs 10) ∧ v_iv (n_v vs 10) ≤ 4 := tv_rng t10
  obtain ⟨t12, hk⟩ := List.forall_mem_cons.mp hk
  have t12 : tv_ok ta (0, 0, 3, []) (n_v vs 12) := t12
  have k12 : 0 ≤ v_iv (n_v vs 12) ∧ v_iv (n_v vs 12) ≤ 3 := tv_rng t12
  obtain ⟨t13, hk⟩ := List.forall_mem_cons.mp hk
  have t13 : tv_ok ta (0, 4, 4, []) (n_v vs 13) := t13
  have k13 : 4 ≤ v_iv (n_v vs 13) ∧ v_iv (n_v vs 13) ≤ 4 := tv_rng t13
  obtain ⟨t14, hk⟩ := List.forall_mem_cons.mp hk
  have t14 : tv_ok ta (0, 0, 23996, []) (n_v vs 14) := t14
  have k14 : 0 ≤ v_iv (n_v vs 14) ∧ v_iv (n_v vs 14) ≤ 23996 := tv_rng t14
  obtain ⟨t15, hk⟩ := List.forall_mem_cons.mp hk
  have t15 : tv_ok ta (0, 0, 23999, []) (n_v vs 15) := t15
  have k15 : 0 ≤ v_iv (n_v vs 15) ∧ v_iv (n_v vs 15) ≤ 23999 := tv_rng t15
  obtain ⟨t18, hk⟩ := List.forall_mem_cons.mp hk
  have t18 : tv_ok ta (0, 0, 48004, []) (n_v vs 18) := t18
  have k18 : 0 ≤ v_iv (n_v vs 18) ∧ v_iv (n_v vs 18) ≤ 48004 := tv_rng t18
  obtain ⟨t19, hk⟩ := List.forall_mem_cons.mp hk
  have t19 : tv_ok ta (0, 1, 4, []) (n_v vs 19) := t19
  have k19 : 1 ≤ v_iv (n_v vs 19) ∧ v_iv (n_v vs 19) ≤ 4 := tv_rng t19
  have hds : ∀ q ∈ ([(19, 9, 1, 1), (15, 9, 0, 23996), (15, 14, 0, 3), (3, 7, -4294967296, 48004), (3, 8, -4294967296, 48004), (3, 9, -4294967296, 48004), (7, 3, -4294967296, 3), (7, 8, -4294967296, 3), (7, 9, -4294967296, 3), (8, 3, -4294967296, 5999), (8, 7, -4294967296, 5999), (8, 9, -4294967296, 5999)] : List of_T), n_iv vs q.2.1 + q.2.2.1 ≤ n_iv vs q.1 ∧ n_iv vs q.1 ≤ n_iv vs q.2.1 + q.2.2.2 := hds
  obtain ⟨d0, hds⟩ := List.forall_mem_cons.mp hds
  have d0 : v_iv (n_v vs 9) + 1 ≤ v_iv (n_v vs 19) ∧ v_iv (n_v vs 19) ≤ v_iv (n_v vs 9) + 1 := d0
  obtain ⟨d1, hds⟩ := List.forall_mem_cons.mp hds
  have d1 : v_iv (n_v vs 9) + 0 ≤ v_iv (n_v vs 15) ∧ v_iv (n_v vs 15) ≤ v_iv (n_v vs 9) + 23996 := d1
  obtain ⟨d2, hds⟩ := List.forall_mem_cons.mp hds
  have d2 : v_iv (n_v vs 14) + 0 ≤ v_iv (n_v vs 15) ∧ v_iv (n_v vs 15) ≤ v_iv (n_v vs 14) + 3 := d2
  obtain ⟨d3, hds⟩ := List.forall_mem_cons.mp hds
  have d3 : v_iv (n_v vs 7) + (-4294967296) ≤ v_iv (n_v vs 3) ∧ v_iv (n_v vs 3) ≤ v_iv (n_v vs 7) + 48004 := d3
  obtain ⟨d4, hds⟩ := List.forall_mem_cons.mp hds
  have d4 : v_iv (n_v vs 8) + (-4294967296) ≤ v_iv (n_v vs 3) ∧ v_iv (n_v vs 3) ≤ v_iv (n_v vs 8) + 48004 := d4
  obtain ⟨d5, hds⟩ := List.forall_mem_cons.mp hds
  have d5 : v_iv (n_v vs 9) + (-4294967296) ≤ v_iv (n_v vs 3) ∧ v_iv (n_v vs 3) ≤ v_iv (n_v vs 9) + 48004 := d5
  obtain ⟨d6, hds⟩ := List.forall_mem_cons.mp hds
  have d6 : v_iv (n_v vs 3) + (-4294967296) ≤ v_iv (n_v vs 7) ∧ v_iv (n_v vs 7) ≤ v_iv (n_v vs 3) + 3 := d6
  obtain ⟨d7, hds⟩ := List.forall_mem_cons.mp hds
  have d7 : v_iv (n_v vs 8) + (-4294967296) ≤ v_iv (n_v vs 7) ∧ v_iv (n_v vs 7) ≤ v_iv (n_v vs 8) + 3 := d7
  obtain ⟨d8, hds⟩ := List.forall_mem_cons.mp hds
  have d8 : v_iv (n_v vs 9) + (-4294967296) ≤ v_iv (n_v vs 7) ∧ v_iv (n_v vs 7) ≤ v_iv (n_v vs 9) + 3 := d8
  obtain ⟨d9, hds⟩ := List.forall_mem_cons.mp hds
  have d9 : v_iv (n_v vs 3) + (-4294967296) ≤ v_iv (n_v vs 8) ∧ v_iv (n_v vs 8) ≤ v_iv (n_v vs 3) + 5999 := d9
  obtain ⟨d10, hds⟩ := List.forall_mem_cons.mp hds
  have d10 : v_iv (n_v vs 7) + (-4294967296) ≤ v_iv (n_v vs 8) ∧ v_iv (n_v vs 8) ≤ v_iv (n_v vs 7) + 5999 := d10
  obtain ⟨d11, hds⟩ := List.forall_mem_cons.mp hds
  have d11 : v_iv (n_v vs 9) + (-4294967296) ≤ v_iv (n_v vs 8) ∧ v_iv (n_v vs 8) ≤ v_iv (n_v vs 9) + 5999 := d11
  have hf : fc_ok [(6, [19, 9], [1]), (20, [15, 4], [50, 2, 0, 1004, 1005, 0, 6, 4, 2, 1, 0, 0, 1, 6, 2, 0, 4, 6, 3, 2, 1, 4, 2, 1, 5]), (23, [3, 18], [0, 1, -1]), (20, [8, 4], [50, 2, 0, 1004, 1005, 0, 6, 4, 2, 1, 0, 0, 1, 6, 3, 2, 1, 4, 2, 1, 5]), (24, [0, 4], []), (20, [4], [50, 3, 3, 14, 4, 5, 11, 12, 13, 2, 18, 5, 2, 0, 4, 0, 9, 4, 5, 3, 0, 11, 7, 0, 0, 1, 2, 0, 14, 5, 3, 2, 0, 14, 2, 23, 0, 9, 4, 5, 3, 0, 12, 7, 0, 0, 1, 6, 2, 0, 4, 6, 3, 2, 0, 4, 2, 0, 5, 0, 9, 4, 5, 3, 0, 13, 7, 0, 0, 1, 2, 0, 14]), (20, [18, 4], [30, 0, 1, 0, 0, -1, 1, 14]), (102, [18], [77884452878022414427957444938301440, 9014]), (23, [3, 18], [0, 1, -1]), (7, [9, 7], [1]), (1, [15, 14, 9], []), (3, [14, 13, 8], []), (7, [9, 12], [1]), (7, [9, 10], [2])] ta ws vs := hf
  obtain ⟨f0, hf⟩ := fc_un (show (6 : Nat) < 100 from by decide) hf
  have f0 : v_iv (n_v vs 19) = v_iv (n_v vs 9) + 1 := f0
  obtain ⟨f1, hf⟩ := fc_un (show (20 : Nat) < 100 from by decide) hf
  have f1 : (v_iv (n_v vs 15) + 1) ≤ (4 * (w_fi ws (n_v vs 4) 4 * w_fi ws (n_v vs 4) 5)) := f1
  obtain ⟨f2, hf⟩ := fc_un (show (23 : Nat) < 100 from by decide) hf
  have f2 : 1 * v_iv (n_v vs 3) + ((-1) * v_iv (n_v vs 18) + 0) ≤ 0 := f2
  obtain ⟨f3, hf⟩ := fc_un (show (20 : Nat) < 100 from by decide) hf
  have f3 : (v_iv (n_v vs 8) + 1) ≤ (w_fi ws (n_v vs 4) 4 * w_fi ws (n_v vs 4) 5) := f3
  obtain ⟨f4, hf⟩ := fc_un (show (24 : Nat) < 100 from by decide) hf
  have f4 : n_v vs 0 = n_v vs 4 := f4
  obtain ⟨f5, hf⟩ := fc_un (show (20 : Nat) < 100 from by decide) hf
  have f5 : (∀ j0 : Int, 0 ≤ j0 → j0 < 4 → ((w_ei ws (w_ar ws (n_v vs 4) 11) (j0) + 1) ≤ w_fi ws (n_v vs 4) 14)) ∧ (∀ j0 : Int, 0 ≤ j0 → j0 < w_fi ws (n_v vs 4) 14 → (((w_ei ws (w_ar ws (n_v vs 4) 12) (j0) + 1) ≤ (4 * (w_fi ws (n_v vs 4) 4 * w_fi ws (n_v vs 4) 5))) ∧ ((w_ei ws (w_ar ws (n_v vs 4) 13) (j0) + 1) ≤ w_fi ws (n_v vs 4) 14))) := f5
  obtain ⟨f6, hf⟩ := fc_un (show (20 : Nat) < 100 from by decide) hf
  have f6 : 1 * v_iv (n_v vs 18) + ((-1) * w_fi ws (n_v vs 4) 14 + 0) ≤ 0 := f6
  obtain ⟨ta1, w1, le1, ⟨_, s1⟩, hf⟩ := fc_us (show ¬ (102 : Nat) < 100 from by decide) hf
  obtain ⟨f8, hf⟩ := fc_un (show (23 : Nat) < 100 from by decide) hf
  have f8 : 1 * v_iv (n_v vs 3) + ((-1) * v_iv (n_v vs 18) + 0) ≤ 0 := f8
  obtain ⟨f9, hf⟩ := fc_un (show (7 : Nat) < 100 from by decide) hf
  have f9 : v_iv (n_v vs 9) ≠ v_iv (n_v vs 7) := f9
  obtain ⟨f10, hf⟩ := fc_un (show (1 : Nat) < 100 from by decide) hf
  have f10 : v_iv (n_v vs 15) = v_iv (n_v vs 14) + v_iv (n_v vs 9) := f10
  obtain ⟨f11, hf⟩ := fc_un (show (3 : Nat) < 100 from by decide) hf
  have f11 : v_iv (n_v vs 14) = v_iv (n_v vs 13) * v_iv (n_v vs 8) := f11
  rw [show v_iv (n_v vs 13) = 4 from by omega] at f11
  obtain ⟨f12, hf⟩ := fc_un (show (7 : Nat) < 100 from by decide) hf
  have f12 : v_iv (n_v vs 9) ≠ v_iv (n_v vs 12) := f12
  obtain ⟨f13, hf⟩ := fc_un (show (7 : Nat) < 100 from by decide) hf
  have f13 : v_iv (n_v vs 9) < v_iv (n_v vs 10) := f13
  have q4 : n_v vs 4 = n_v vs 0 := f4.symm
  rw [q4] at f1
  rw [q4] at f3
  rw [q4] at f5
  rw [q4] at f6
  have cr_0_11 : ta (w_ar ws (n_v vs 0) 11) = some 113 := tv_rg (th_fd hD hth r0 (g := GG_9) rfl (k := 11) (t := (2, 0, 0, [113])) rfl rfl)
  have cr_0_12 : ta (w_ar ws (n_v vs 0) 12) = some 114 := tv_rg (th_fd hD hth r0 (g := GG_9) rfl (k := 12) (t := (2, 0, 0, [114])) rfl rfl)
  have cr_0_13 : ta (w_ar ws (n_v vs 0) 13) = some 115 := tv_rg (th_fd hD hth r0 (g := GG_9) rfl (k := 13) (t := (2, 0, 0, [115])) rfl rfl)
  have hK_0_11 : ∀ j : Int, 0 ≤ j → j < 4 → (-1) ≤ w_ei ws (w_ar ws (n_v vs 0) 11) j ∧ w_ei ws (w_ar ws (n_v vs 0) 11) j ≤ 48003 := fun j h0 h1 => th_el hD hth cr_0_11 (kd := 0) (n := 4) (m := 4) (lo := (-1)) (hi := 48003) (rs := []) (L := []) rfl (by decide) (j := j.toNat) (by omega)
  have hK_0_12 : ∀ j : Int, 0 ≤ j → j < 48004 → 0 ≤ w_ei ws (w_ar ws (n_v vs 0) 12) j ∧ w_ei ws (w_ar ws (n_v vs 0) 12) j ≤ 23999 := fun j h0 h1 => th_el hD hth cr_0_12 (kd := 0) (n := 48004) (m := 48004) (lo := 0) (hi := 23999) (rs := []) (L := []) rfl (by decide) (j := j.toNat) (by omega)
  have hK_0_13 : ∀ j : Int, 0 ≤ j → j < 48004 → (-1) ≤ w_ei ws (w_ar ws (n_v vs 0) 13) j ∧ w_ei ws (w_ar ws (n_v vs 0) 13) j ≤ 48003 := fun j h0 h1 => th_el hD hth cr_0_13 (kd := 0) (n := 48004) (m := 48004) (lo := (-1)) (hi := 48003) (rs := []) (L := []) rfl (by decide) (j := j.toNat) (by omega)
  have kz_0_4 : (-2147483648) ≤ w_fi ws (n_v vs 0) 4 ∧ w_fi ws (n_v vs 0) 4 ≤ 2147483647 := tv_rng (th_fd hD hth r0 (g := GG_9) rfl (k := 4) (t := (0, -2147483648, 2147483647, [])) rfl rfl)
  have kz_0_5 : (-2147483648) ≤ w_fi ws (n_v vs 0) 5 ∧ w_fi ws (n_v vs 0) 5 ≤ 2147483647 := tv_rng (th_fd hD hth r0 (g := GG_9) rfl (k := 5) (t := (0, -2147483648, 2147483647, [])) rfl rfl)
  have kz_0_14 : 0 ≤ w_fi ws (n_v vs 0) 14 ∧ w_fi ws (n_v vs 0) 14 ≤ 48004 := tv_rng (th_fd hD hth r0 (g := GG_9) rfl (k := 14) (t := (0, 0, 48004, [])) rfl rfl)
  have nf0 : fc_1 (20, [3, 4], [30, 0, 1, 0, 0, -1, 1, 14]) ws (vs) := by
    refine ⟨fun n hn => ?_, ?_⟩
    · have hn : n ∈ [3, 4] := hn
      rw [hl]
      simp only [List.mem_cons, List.not_mem_nil, or_false] at hn
      show n < 20; omega
    · show 1 * v_iv (n_v vs 3) + ((-1) * w_fi ws (n_v vs 4) 14 + 0) ≤ 0
      rw [q4]
      omega
  refine ⟨(fun _ h => (by cases h)), [], trivial, ?_, (fun _ h => (by cases h))⟩
  rw [List.append_nil]
  exact List.forall_mem_cons.mpr ⟨⟨show (20 : Nat) < 100 from by decide, nf0⟩, (fun _ h => (by cases h))⟩
def o_Ro_goBack_9 : or_T := (95, 18, [(0, (2, 0, 0, [9])), (3, (0, 0, 48004, [])), (4, (2, 0, 0, [9])), (7, (0, 0, 3, [])), (8, (0, 0, 5999, [])), (9, (0, 0, 3, [])), (10, (0, 4, 4, [])), (12, (0, 0, 3, [])), (13, (0, 4, 4, [])), (14, (0, 0, 23996, [])), (15, (0, 0, 23999, []))], [(7, [9, 7], [0]), (1, [15, 14, 9], []), (3, [14, 13, 8], []), (7, [9, 12], [1]), (7, [9, 10], [2]), (20, [4], [50, 3, 3, 14, 4, 5, 11, 12, 13, 2, 18, 5, 2, 0, 4, 0, 9, 4, 5, 3, 0, 11, 7, 0, 0, 1, 2, 0, 14, 5, 3, 2, 0, 14, 2, 23, 0, 9, 4, 5, 3, 0, 12, 7, 0, 0, 1, 6, 2, 0, 4, 6, 3, 2, 0, 4, 2, 0, 5, 0, 9, 4, 5, 3, 0, 13, 7, 0, 0, 1, 2, 0, 14]), (20, [8, 4], [50, 2, 0, 1004, 1005, 0, 6, 4, 2, 1, 0, 0, 1, 6, 3, 2, 1, 4, 2, 1, 5]), (20, [3, 4], [30, 0, 1, 0, 0, -1, 1, 14]), (24, [0, 4], [])], [], [(0, 0, 48004, [])], [(20, [4], [50, 3, 3, 14, 4, 5, 11, 12, 13, 2, 18, 5, 2, 0, 4, 0, 9, 4, 5, 3, 0, 11, 7, 0, 0, 1, 2, 0, 14, 5, 3, 2, 0, 14, 2, 23, 0, 9, 4, 5, 3, 0, 12, 7, 0, 0, 1, 6, 2, 0, 4, 6, 3, 2, 0, 4, 2, 0, 5, 0, 9, 4, 5, 3, 0, 13, 7, 0, 0, 1, 2, 0, 14]), (20, [15, 4], [50, 2, 0, 1004, 1005, 0, 6, 4, 2, 1, 0, 0, 1, 6, 2, 0, 4, 6, 3, 2, 1, 4, 2, 1, 5]), (20, [4, 18], [30, 0, 1, 1, 14, -1, 0, 0]), (20, [4, 18], [30, 0, -1, 1, 14, 1, 0, 0]), (23, [3, 18], [0, 1, -1])], [], [(9, 7, 0, 0), (15, 9, 0, 23996), (15, 14, 0, 3), (3, 7, -4294967296, 48004), (3, 8, -4294967296, 48004), (3, 9, -4294967296, 48004), (7, 3, -4294967296, 3), (7, 8, -4294967296, 3), (7, 9, -4294967296, 3), (8, 3, -4294967296, 5999), (8, 7, -4294967296, 5999), (8, 9, -4294967296, 5999)])
theorem oo_Ro_goBack_9 {kA : Nat → ClassId} : or_ok kA GG o_Ro_goBack_9 := by
  intro A ta ws vs hD hth hl hk hds hf
  have hl : vs.length = 18 := hl
  have hk : ∀ q ∈ ([(0, (2, 0, 0, [9])), (3, (0, 0, 48004, [])), (4, (2, 0, 0, [9])), (7, (0, 0, 3, [])), (8, (0, 0, 5999, [])), (9, (0, 0, 3, [])), (10, (0, 4, 4, [])), (12, (0, 0, 3, [])), (13, (0, 4, 4, [])), (14, (0, 0, 23996, [])), (15, (0, 0, 23999, []))] : List (Nat × tv_T)), tv_ok ta q.2 (n_v vs q.1) := hk
  obtain ⟨t0, hk⟩ := List.forall_mem_cons.mp hk
  have t0 : tv_ok ta (2, 0, 0, [9]) (n_v vs 0) := t0
  have r0 : ta (v_ad (n_v vs 0)) = some 9 := tv_rg t0
  obtain ⟨t3, hk⟩ := List.forall_mem_cons.mp hk
  have t3 : tv_ok ta (0, 0, 48004, []) (n_v vs 3) := t3
  have k3 : 0 ≤ v_iv (n_v vs 3) ∧ v_iv (n_v vs 3) ≤ 48004 := tv_rng t3
  obtain ⟨t4, hk⟩ := List.forall_mem_cons.mp hk
  have t4 : tv_ok ta (2, 0, 0, [9]) (n_v vs 4) := t4
  have r4 : ta (v_ad (n_v vs 4)) = some 9 := tv_rg t4
  obtain ⟨t7, hk⟩ := List.forall_mem_cons.mp hk
  have t7 : tv_ok ta (0, 0, 3, []) (n_v vs 7) := t7
  have k7 : 0 ≤ v_iv (n_v vs 7) ∧ v_iv (n_v vs 7) ≤ 3 := tv_rng t7
  obtain ⟨t8, hk⟩ := List.forall_mem_cons.mp hk
  have t8 : tv_ok ta (0, 0, 5999, []) (n_v vs 8) := t8
  have k8 : 0 ≤ v_iv (n_v vs 8) ∧ v_iv (n_v vs 8) ≤ 5999 := tv_rng t8
  obtain ⟨t9, hk⟩ := List.forall_mem_cons.mp hk
  have t9 : tv_ok ta (0, 0, 3, []) (n_v vs 9) := t9
  have k9 : 0 ≤ v_iv (n_v vs 9) ∧ v_iv (n_v vs 9) ≤ 3 := tv_rng t9
  obtain ⟨t10, hk⟩ := List.forall_mem_cons.mp hk
  have t10 : tv_ok ta (0, 4, 4, []) (n_v vs 10) := t10
  have k10 : 4 ≤ v_iv (n_v vs 10) ∧ v_iv (n_v vs 10) ≤ 4 := tv_rng t10
  obtain ⟨t12, hk⟩ := List.forall_mem_cons.mp hk
  have t12 : tv_ok ta (0, 0, 3, []) (n_v vs 12) := t12
  have k12 : 0 ≤ v_iv (n_v vs 12) ∧ v_iv (n_v vs 12) ≤ 3 := tv_rng t12
  obtain ⟨t13, hk⟩ := List.forall_mem_cons.mp hk
  have t13 : tv_ok ta (0, 4, 4, []) (n_v vs 13) := t13
  have k13 : 4 ≤ v_iv (n_v vs 13) ∧ v_iv (n_v vs 13) ≤ 4 := tv_rng t13
  obtain ⟨t14, hk⟩ := List.forall_mem_cons.mp hk
  have t14 : tv_ok ta (0, 0, 23996, []) (n_v vs 14) := t14
  have k14 : 0 ≤ v_iv (n_v vs 14) ∧ v_iv (n_v vs 14) ≤ 23996 := tv_rng t14
  obtain ⟨t15, hk⟩ := List.forall_mem_cons.mp hk
  have t15 : tv_ok ta (0, 0, 23999, []) (n_v vs 15) := t15
  have k15 : 0 ≤ v_iv (n_v vs 15) ∧ v_iv (n_v vs 15) ≤ 23999 := tv_rng t15
  have hds : ∀ q ∈ ([(9, 7, 0, 0), (15, 9, 0, 23996), (15, 14, 0, 3), (3, 7, -4294967296, 48004), (3, 8, -4294967296, 48004), (3, 9, -4294967296, 48004), (7, 3, -4294967296, 3), (7, 8, -4294967296, 3), (7, 9, -4294967296, 3), (8, 3, -4294967296, 5999), (8, 7, -4294967296, 5999), (8, 9, -4294967296, 5999)] : List of_T), n_iv vs q.2.1 + q.2.2.1 ≤ n_iv vs q.1 ∧ n_iv vs q.1 ≤ n_iv vs q.2.1 + q.2.2.2 := hds
  obtain ⟨d0, hds⟩ := List.forall_mem_cons.mp hds
  have d0 : v_iv (n_v vs 7) + 0 ≤ v_iv (n_v vs 9) ∧ v_iv (n_v vs 9) ≤ v_iv (n_v vs 7) + 0 := d0
  obtain ⟨d1, hds⟩ := List.forall_mem_cons.mp hds
  have d1 : v_iv (n_v vs 9) + 0 ≤ v_iv (n_v vs 15) ∧ v_iv (n_v vs 15) ≤ v_iv (n_v vs 9) + 23996 := d1
  obtain ⟨d2, hds⟩ := List.forall_mem_cons.mp hds
  have d2 : v_iv (n_v vs 14) + 0 ≤ v_iv (n_v vs 15) ∧ v_iv (n_v vs 15) ≤ v_iv (n_v vs 14) + 3 := d2
  obtain ⟨d3, hds⟩ := List.forall_mem_cons.mp hds
  have d3 : v_iv (n_v vs 7) + (-4294967296) ≤ v_iv (n_v vs 3) ∧ v_iv (n_v vs 3) ≤ v_iv (n_v vs 7) + 48004 := d3
  obtain ⟨d4, hds⟩ := List.forall_mem_cons.mp hds
  have d4 : v_iv (n_v vs 8) + (-4294967296) ≤ v_iv (n_v vs 3) ∧ v_iv (n_v vs 3) ≤ v_iv (n_v vs 8) + 48004 := d4
  obtain ⟨d5, hds⟩ := List.forall_mem_cons.mp hds
  have d5 : v_iv (n_v vs 9) + (-4294967296) ≤ v_iv (n_v vs 3) ∧ v_iv (n_v vs 3) ≤ v_iv (n_v vs 9) + 48004 := d5
  obtain ⟨d6, hds⟩ := List.forall_mem_cons.mp hds
  have d6 : v_iv (n_v vs 3) + (-4294967296) ≤ v_iv (n_v vs 7) ∧ v_iv (n_v vs 7) ≤ v_iv (n_v vs 3) + 3 := d6
  obtain ⟨d7, hds⟩ := List.forall_mem_cons.mp hds
  have d7 : v_iv (n_v vs 8) + (-4294967296) ≤ v_iv (n_v vs 7) ∧ v_iv (n_v vs 7) ≤ v_iv (n_v vs 8) + 3 := d7
  obtain ⟨d8, hds⟩ := List.forall_mem_cons.mp hds
  have d8 : v_iv (n_v vs 9) + (-4294967296) ≤ v_iv (n_v vs 7) ∧ v_iv (n_v vs 7) ≤ v_iv (n_v vs 9) + 3 := d8
  obtain ⟨d9, hds⟩ := List.forall_mem_cons.mp hds
  have d9 : v_iv (n_v vs 3) + (-4294967296) ≤ v_iv (n_v vs 8) ∧ v_iv (n_v vs 8) ≤ v_iv (n_v vs 3) + 5999 := d9
  obtain ⟨d10, hds⟩ := List.forall_mem_cons.mp hds
  have d10 : v_iv (n_v vs 7) + (-4294967296) ≤ v_iv (n_v vs 8) ∧ v_iv (n_v vs 8) ≤ v_iv (n_v vs 7) + 5999 := d10
  obtain ⟨d11, hds⟩ := List.forall_mem_cons.mp hds
  have d11 : v_iv (n_v vs 9) + (-4294967296) ≤ v_iv (n_v vs 8) ∧ v_iv (n_v vs 8) ≤ v_iv (n_v vs 9) + 5999 := d11
  have hf : fc_ok [(7, [9, 7], [0]), (1, [15, 14, 9], []), (3, [14, 13, 8], []), (7, [9, 12], [1]), (7, [9, 10], [2]), (20, [4], [50, 3, 3, 14, 4, 5, 11, 12, 13, 2, 18, 5, 2, 0, 4, 0, 9, 4, 5, 3, 0, 11, 7, 0, 0, 1, 2, 0, 14, 5, 3, 2, 0, 14, 2, 23, 0, 9, 4, 5, 3, 0, 12, 7, 0, 0, 1, 6, 2, 0, 4, 6, 3, 2, 0, 4, 2, 0, 5, 0, 9, 4, 5, 3, 0, 13, 7, 0, 0, 1, 2, 0, 14]), (20, [8, 4], [50, 2, 0, 1004, 1005, 0, 6, 4, 2, 1, 0, 0, 1, 6, 3, 2, 1, 4, 2, 1, 5]), (20, [3, 4], [30, 0, 1, 0, 0, -1, 1, 14]), (24, [0, 4], [])] ta ws vs := hf
  obtain ⟨f0, hf⟩ := fc_un (show (7 : Nat) < 100 from by decide) hf
  have f0 : v_iv (n_v vs 9) = v_iv (n_v vs 7) := f0
  obtain ⟨f1, hf⟩ := fc_un (show (1 : Nat) < 100 from by decide) hf
  have f1 : v_iv (n_v vs 15) = v_iv (n_v vs 14) + v_iv (n_v vs 9) := f1
  obtain ⟨f2, hf⟩ := fc_un (show (3 : Nat) < 100 from by decide) hf
  have f2 : v_iv (n_v vs 14) = v_iv (n_v vs 13) * v_iv (n_v vs 8) := f2
  rw [show v_iv (n_v vs 13) = 4 from by omega] at f2
  obtain ⟨f3, hf⟩ := fc_un (show (7 : Nat) < 100 from by decide) hf
  have f3 : v_iv (n_v vs 9) ≠ v_iv (n_v vs 12) := f3
  obtain ⟨f4, hf⟩ := fc_un (show (7 : Nat) < 100 from by decide) hf
  have f4 : v_iv (n_v vs 9) < v_iv (n_v vs 10) := f4
  obtain ⟨f5, hf⟩ := fc_un (show (20 : Nat) < 100 from by decide) hf
  have f5 : (∀ j0 : Int, 0 ≤ j0 → j0 < 4 → ((w_ei ws (w_ar ws (n_v vs 4) 11) (j0) + 1) ≤ w_fi ws (n_v vs 4) 14)) ∧ (∀ j0 : Int, 0 ≤ j0 → j0 < w_fi ws (n_v vs 4) 14 → (((w_ei ws (w_ar ws (n_v vs 4) 12) (j0) + 1) ≤ (4 * (w_fi ws (n_v vs 4) 4 * w_fi ws (n_v vs 4) 5))) ∧ ((w_ei ws (w_ar ws (n_v vs 4) 13) (j0) + 1) ≤ w_fi ws (n_v vs 4) 14))) := f5
  obtain ⟨f6, hf⟩ := fc_un (show (20 : Nat) < 100 from by decide) hf
  have f6 : (v_iv (n_v vs 8) + 1) ≤ (w_fi ws (n_v vs 4) 4 * w_fi ws (n_v vs 4) 5) := f6
  obtain ⟨f7, hf⟩ := fc_un (show (20 : Nat) < 100 from by decide) hf
  have f7 : 1 * v_iv (n_v vs 3) + ((-1) * w_fi ws (n_v vs 4) 14 + 0) ≤ 0 := f7
  obtain ⟨f8, hf⟩ := fc_un (show (24 : Nat) < 100 from by decide) hf
  have f8 : n_v vs 0 = n_v vs 4 := f8
  have q4 : n_v vs 4 = n_v vs 0 := f8.symm
  rw [q4] at f5
  rw [q4] at f6
  rw [q4] at f7
  have cr_0_11 : ta (w_ar ws (n_v vs 0) 11) = some 113 := tv_rg (th_fd hD hth r0 (g := GG_9) rfl (k := 11) (t := (2, 0, 0, [113])) rfl rfl)
  have cr_0_12 : ta (w_ar ws (n_v vs 0) 12) = some 114 := tv_rg (th_fd hD hth r0 (g := GG_9) rfl (k := 12) (t := (2, 0, 0, [114])) rfl rfl)
  have cr_0_13 : ta (w_ar ws (n_v vs 0) 13) = some 115 := tv_rg (th_fd hD hth r0 (g := GG_9) rfl (k := 13) (t := (2, 0, 0, [115])) rfl rfl)
  have hK_0_11 : ∀ j : Int, 0 ≤ j → j < 4 → (-1) ≤ w_ei ws (w_ar ws (n_v vs 0) 11) j ∧ w_ei ws (w_ar ws (n_v vs 0) 11) j ≤ 48003 := fun j h0 h1 => th_el hD hth cr_0_11 (kd := 0) (n := 4) (m := 4) (lo := (-1)) (hi := 48003) (rs := []) (L := []) rfl (by decide) (j := j.toNat) (by omega)
  have hK_0_12 : ∀ j : Int, 0 ≤ j → j < 48004 → 0 ≤ w_ei ws (w_ar ws (n_v vs 0) 12) j ∧ w_ei ws (w_ar ws (n_v vs 0) 12) j ≤ 23999 := fun j h0 h1 => th_el hD hth cr_0_12 (kd := 0) (n := 48004) (m := 48004) (lo := 0) (hi := 23999) (rs := []) (L := []) rfl (by decide) (j := j.toNat) (by omega)
  have hK_0_13 : ∀ j : Int, 0 ≤ j → j < 48004 → (-1) ≤ w_ei ws (w_ar ws (n_v vs 0) 13) j ∧ w_ei ws (w_ar ws (n_v vs 0) 13) j ≤ 48003 := fun j h0 h1 => th_el hD hth cr_0_13 (kd := 0) (n := 48004) (m := 48004) (lo := (-1)) (hi := 48003) (rs := []) (L := []) rfl (by decide) (j := j.toNat) (by omega)
  have kz_0_4 : (-2147483648) ≤ w_fi ws (n_v vs 0) 4 ∧ w_fi ws (n_v vs 0) 4 ≤ 2147483647 := tv_rng (th_fd hD hth r0 (g := GG_9) rfl (k := 4) (t := (0, -2147483648, 2147483647, [])) rfl rfl)
  have kz_0_5 : (-2147483648) ≤ w_fi ws (n_v vs 0) 5 ∧ w_fi ws (n_v vs 0) 5 ≤ 2147483647 := tv_rng (th_fd hD hth r0 (g := GG_9) rfl (k := 5) (t := (0, -2147483648, 2147483647, [])) rfl rfl)
  have kz_0_14 : 0 ≤ w_fi ws (n_v vs 0) 14 ∧ w_fi ws (n_v vs 0) 14 ≤ 48004 := tv_rng (th_fd hD hth r0 (g := GG_9) rfl (k := 14) (t := (0, 0, 48004, [])) rfl rfl)
  have kv0 : 0 ≤ w_fi ws (n_v vs 0) 14 ∧ w_fi ws (n_v vs 0) 14 ≤ 48004 := tv_rng (th_fd hD hth r0 (g := GG_9) rfl (k := 14) (t := (0, 0, 48004, [])) rfl rfl)
  obtain ⟨x, ex, hx⟩ := iv_ex (ta := ta) (lo := 0) (hi := 48004) (z := w_fi ws (n_v vs 0) 14) (by omega) (by omega) (by omega) (by omega)
  have ex2 : v_iv (Value.int x) = w_fi ws (n_v vs 0) 14 := ex
  have ex3 : 0 ≤ v_iv (Value.int x) ∧ v_iv (Value.int x) ≤ 48004 := tv_rng hx
  have e_3 : n_v (vs ++ [Value.int x]) 3 = n_v vs 3 := n_v_old (by rw [hl]; decide)
  have e_4 : n_v (vs ++ [Value.int x]) 4 = n_v vs 4 := n_v_old (by rw [hl]; decide)
  have e_15 : n_v (vs ++ [Value.int x]) 15 = n_v vs 15 := n_v_old (by rw [hl]; decide)
  have e_18 : n_v (vs ++ [Value.int x]) 18 = Value.int x := n_v_new hl
  have nf0 : fc_1 (20, [4], [50, 3, 3, 14, 4, 5, 11, 12, 13, 2, 18, 5, 2, 0, 4, 0, 9, 4, 5, 3, 0, 11, 7, 0, 0, 1, 2, 0, 14, 5, 3, 2, 0, 14, 2, 23, 0, 9, 4, 5, 3, 0, 12, 7, 0, 0, 1, 6, 2, 0, 4, 6, 3, 2, 0, 4, 2, 0, 5, 0, 9, 4, 5, 3, 0, 13, 7, 0, 0, 1, 2, 0, 14]) ws (vs ++ [Value.int x]) := by
    refine ⟨fun n hn => ?_, ?_⟩
    · have hn : n ∈ [4] := hn
      rw [List.length_append, hl]
      simp only [List.mem_cons, List.not_mem_nil, or_false] at hn
      show n < 18 + 1; omega
    · show (∀ j0 : Int, 0 ≤ j0 → j0 < 4 → ((w_ei ws (w_ar ws (n_v (vs ++ [Value.int x]) 4) 11) (j0) + 1) ≤ w_fi ws (n_v (vs ++ [Value.int x]) 4) 14)) ∧ (∀ j0 : Int, 0 ≤ j0 → j0 < w_fi ws (n_v (vs ++ [Value.int x]) 4) 14 → (((w_ei ws (w_ar ws (n_v (vs ++ [Value.int x]) 4) 12) (j0) + 1) ≤ (4 * (w_fi ws (n_v (vs ++ [Value.int x]) 4) 4 * w_fi ws (n_v (vs ++ [Value.int x]) 4) 5))) ∧ ((w_ei ws (w_ar ws (n_v (vs ++ [Value.int x]) 4) 13) (j0) + 1) ≤ w_fi ws (n_v (vs ++ [Value.int x]) 4) 14)))
      rw [e_4]
      rw [q4]
      first | omega | grind
  have nf1 : fc_1 (20, [15, 4], [50, 2, 0, 1004, 1005, 0, 6, 4, 2, 1, 0, 0, 1, 6, 2, 0, 4, 6, 3, 2, 1, 4, 2, 1, 5]) ws (vs ++ [Value.int x]) := by
    refine ⟨fun n hn => ?_, ?_⟩
    · have hn : n ∈ [15, 4] := hn
      rw [List.length_append, hl]
      simp only [List.mem_cons, List.not_mem_nil, or_false] at hn
      show n < 18 + 1; omega
    · show (v_iv (n_v (vs ++ [Value.int x]) 15) + 1) ≤ (4 * (w_fi ws (n_v (vs ++ [Value.int x]) 4) 4 * w_fi ws (n_v (vs ++ [Value.int x]) 4) 5))
      rw [e_4]
      rw [e_15]
      rw [q4]
      first | omega | grind
  have nf2 : fc_1 (20, [4, 18], [30, 0, 1, 1, 14, -1, 0, 0]) ws (vs ++ [Value.int x]) := by
    refine ⟨fun n hn => ?_, ?_⟩
    · have hn : n ∈ [4, 18] := hn
      rw [List.length_append, hl]
      simp only [List.mem_cons, List.not_mem_nil, or_false] at hn
      show n < 18 + 1; omega
    · show 1 * w_fi ws (n_v (vs ++ [Value.int x]) 4) 14 + ((-1) * v_iv (n_v (vs ++ [Value.int x]) 18) + 0) ≤ 0
      rw [e_4]
      rw [e_18]
      rw [q4]
      omega
  have nf3 : fc_1 (20, [4, 18], [30, 0, -1, 1, 14, 1, 0, 0]) ws (vs ++ [Value.int x]) := by
    refine ⟨fun n hn => ?_, ?_⟩
    · have hn : n ∈ [4, 18] := hn
      rw [List.length_append, hl]
      simp only [List.mem_cons, List.not_mem_nil, or_false] at hn
      show n < 18 + 1; omega
    · show (-1) * w_fi ws (n_v (vs ++ [Value.int x]) 4) 14 + (1 * v_iv (n_v (vs ++ [Value.int x]) 18) + 0) ≤ 0
      rw [e_4]
      rw [e_18]
      rw [q4]
      omega
  have nf4 : fc_1 (23, [3, 18], [0, 1, -1]) ws (vs ++ [Value.int x]) := by
    refine ⟨fun n hn => ?_, ?_⟩
    · have hn : n ∈ [3, 18] := hn
      rw [List.length_append, hl]
      simp only [List.mem_cons, List.not_mem_nil, or_false] at hn
      show n < 18 + 1; omega
    · show 1 * v_iv (n_v (vs ++ [Value.int x]) 3) + ((-1) * v_iv (n_v (vs ++ [Value.int x]) 18) + 0) ≤ 0
      rw [e_3]
      rw [e_18]
      omega
  exact ⟨(fun _ h => (by cases h)), [Value.int x], ag_one hx, List.forall_mem_cons.mpr ⟨⟨show (20 : Nat) < 100 from by decide, nf0⟩, List.forall_mem_cons.mpr ⟨⟨show (20 : Nat) < 100 from by decide, nf1⟩, List.forall_mem_cons.mpr ⟨⟨show (20 : Nat) < 100 from by decide, nf2⟩, List.forall_mem_cons.mpr ⟨⟨show (20 : Nat) < 100 from by decide, nf3⟩, List.forall_mem_cons.mpr ⟨⟨show (23 : Nat) < 100 from by decide, nf4⟩, (fun _ h => (by cases h))⟩⟩⟩⟩⟩, (fun _ h => (by cases h))⟩
def o_Ro_goBack_10 : or_T := (60, 20, [(0, (2, 0, 0, [9])), (3, (0, 0, 48004, [])), (4, (2, 0, 0, [9])), (7, (0, 0, 3, [])), (8, (0, 0, 5999, [])), (9, (0, 0, 3, [])), (10, (0, 4, 4, [])), (12, (0, 0, 3, [])), (13, (0, 4, 4, [])), (14, (0, 0, 23996, [])), (15, (0, 0, 23999, [])), (18, (0, 0, 48004, [])), (19, (0, 1, 4, []))], [(6, [19, 9], [1]), (20, [15, 4], [50, 2, 0, 1004, 1005, 0, 6, 4, 2, 1, 0, 0, 1, 6, 2, 0, 4, 6, 3, 2, 1, 4, 2, 1, 5]), (23, [3, 18], [0, 1, -1]), (20, [8, 4], [50, 2, 0, 1004, 1005, 0, 6, 4, 2, 1, 0, 0, 1, 6, 3, 2, 1, 4, 2, 1, 5]), (24, [0, 4], []), (20, [4], [50, 3, 3, 14, 4, 5, 11, 12, 13, 2, 18, 5, 2, 0, 4, 0, 9, 4, 5, 3, 0, 11, 7, 0, 0, 1, 2, 0, 14, 5, 3, 2, 0, 14, 2, 23, 0, 9, 4, 5, 3, 0, 12, 7, 0, 0, 1, 6, 2, 0, 4, 6, 3, 2, 0, 4, 2, 0, 5, 0, 9, 4, 5, 3, 0, 13, 7, 0, 0, 1, 2, 0, 14]), (20, [18, 4], [30, 0, 1, 0, 0, -1, 1, 14]), (102, [18], [77884452878022414427957444938301440, 9014]), (23, [3, 18], [0, 1, -1]), (7, [9, 7], [0]), (1, [15, 14, 9], []), (3, [14, 13, 8], []), (7, [9, 12], [1]), (7, [9, 10], [2])], [], [], [(20, [3, 4], [30, 0, 1, 0, 0, -1, 1, 14])], [], [(19, 9, 1, 1), (19, 7, 1, 1), (9, 7, 0, 0), (15, 9, 0, 23996), (15, 14, 0, 3), (3, 7, -4294967296, 48004), (3, 8, -4294967296, 48004), (3, 9, -4294967296, 48004), (7, 3, -4294967296, 3), (7, 8, -4294967296, 3), (7, 9, -4294967296, 3), (8, 3, -4294967296, 5999), (8, 7, -4294967296, 5999), (8, 9, -4294967296, 5999)])
theorem oo_Ro_goBack_10 {kA : Nat → ClassId} : or_ok kA GG o_Ro_goBack_10 := by
  intro A ta ws vs hD hth hl hk hds hf
  have hl : vs.length = 20 := hl
  have hk : ∀ q ∈ ([(0, (2, 0, 0, [9])), (3, (0, 0, 48004, [])), (4, (2, 0, 0, [9])), (7, (0, 0, 3, [])), (8, (0, 0, 5999, [])), (9, (0, 0, 3, [])), (10, (0, 4, 4, [])), (12, (0, 0, 3, [])), (13, (0, 4, 4, [])), (14, (0, 0, 23996, [])), (15, (0, 0, 23999, [])), (18, (0, 0, 48004, [])), (19, (0, 1, 4, []))] : List (Nat × tv_T)), tv_ok ta q.2 (n_v vs q.1) := hk
  obtain ⟨t0, hk⟩ := List.forall_mem_cons.mp hk
  have t0 : tv_ok ta (2, 0, 0, [9]) (n_v vs 0) := t0
  have r0 : ta (v_ad (n_v vs 0)) = some 9 := tv_rg t0
  obtain ⟨t3, hk⟩ := List.forall_mem_cons.mp hk
  have t3 : tv_ok ta (0, 0, 48004, []) (n_v vs 3) := t3
  have k3 : 0 ≤ v_iv (n_v vs 3) ∧ v_iv (n_v vs 3) ≤ 48004 := tv_rng t3
  obtain ⟨t4, hk⟩ := List.forall_mem_cons.mp hk
  have t4 : tv_ok ta (2, 0, 0, [9]) (n_v vs 4) := t4
  have r4 : ta (v_ad (n_v vs 4)) = some 9 := tv_rg t4
  obtain ⟨t7, hk⟩ := List.forall_mem_cons.mp hk
  have t7 : tv_ok ta (0, 0, 3, []) (n_v vs 7) := t7
  have k7 : 0 ≤ v_iv (n_v vs 7) ∧ v_iv (n_v vs 7) ≤ 3 := tv_rng t7
  obtain ⟨t8, hk⟩ := List.forall_mem_cons.mp hk
  have t8 : tv_ok ta (0, 0, 5999, []) (n_v vs 8) := t8
  have k8 : 0 ≤ v_iv (n_v vs 8) ∧ v_iv (n_v vs 8) ≤ 5999 := tv_rng t8
  obtain ⟨t9, hk⟩ := List.forall_mem_cons.mp hk
  have t9 : tv_ok ta (0, 0, 3, []) (n_v vs 9) := t9
  have k9 : 0 ≤ v_iv (n_v vs 9) ∧ v_iv (n_v vs 9) ≤ 3 := tv_rng t9
  obtain ⟨t10, hk⟩ := List.forall_mem_cons.mp hk
  have t10 : tv_ok ta (0, 4, 4, []) (n_v vs 10) := t10
  have k10 : 4 ≤ v_iv (n_v vs 10) ∧ v_iv (n_v vs 10) ≤ 4 := tv_rng t10
  obtain ⟨t12, hk⟩ := List.forall_mem_cons.mp hk
  have t12 : tv_ok ta (0, 0, 3, []) (n_v vs 12) := t12
  have k12 : 0 ≤ v_iv (n_v vs 12) ∧ v_iv (n_v vs 12) ≤ 3 := tv_rng t12
  obtain ⟨t13, hk⟩ := List.forall_mem_cons.mp hk
  have t13 : tv_ok ta (0, 4, 4, []) (n_v vs 13) := t13
  have k13 : 4 ≤ v_iv (n_v vs 13) ∧ v_iv (n_v vs 13) ≤ 4 := tv_rng t13
  obtain ⟨t14, hk⟩ := List.forall_mem_cons.mp hk
  have t14 : tv_ok ta (0, 0, 23996, []) (n_v vs 14) := t14
  have k14 : 0 ≤ v_iv (n_v vs 14) ∧ v_iv (n_v vs 14) ≤ 23996 := tv_rng t14
  obtain ⟨t15, hk⟩ := List.forall_mem_cons.mp hk
  have t15 : tv_ok ta (0, 0, 23999, []) (n_v vs 15) := t15
  have k15 : 0 ≤ v_iv (n_v vs 15) ∧ v_iv (n_v vs 15) ≤ 23999 := tv_rng t15
  obtain ⟨t18, hk⟩ := List.forall_mem_cons.mp hk
  have t18 : tv_ok ta (0, 0, 48004, []) (n_v vs 18) := t18
  have k18 : 0 ≤ v_iv (n_v vs 18) ∧ v_iv (n_v vs 18) ≤ 48004 := tv_rng t18
  obtain ⟨t19, hk⟩ := List.forall_mem_cons.mp hk
  have t19 : tv_ok ta (0, 1, 4, []) (n_v vs 19) := t19
  have k19 : 1 ≤ v_iv (n_v vs 19) ∧ v_iv (n_v vs 19) ≤ 4 := tv_rng t19
  have hds : ∀ q ∈ ([(19, 9, 1, 1), (19, 7, 1, 1), (9, 7, 0, 0), (15, 9, 0, 23996), (15, 14, 0, 3), (3, 7, -4294967296, 48004), (3, 8, -4294967296, 48004), (3, 9, -4294967296, 48004), (7, 3, -4294967296, 3), (7, 8, -4294967296, 3), (7, 9, -4294967296, 3), (8, 3, -4294967296, 5999), (8, 7, -4294967296, 5999), (8, 9, -4294967296, 5999)] : List of_T), n_iv vs q.2.1 + q.2.2.1 ≤ n_iv vs q.1 ∧ n_iv vs q.1 ≤ n_iv vs q.2.1 + q.2.2.2 := hds
  obtain ⟨d0, hds⟩ := List.forall_mem_cons.mp hds
  have d0 : v_iv (n_v vs 9) + 1 ≤ v_iv (n_v vs 19) ∧ v_iv (n_v vs 19) ≤ v_iv (n_v vs 9) + 1 := d0
  obtain ⟨d1, hds⟩ := List.forall_mem_cons.mp hds
  have d1 : v_iv (n_v vs 7) + 1 ≤ v_iv (n_v vs 19) ∧ v_iv (n_v vs 19) ≤ v_iv (n_v vs 7) + 1 := d1
  obtain ⟨d2, hds⟩ := List.forall_mem_cons.mp hds
  have d2 : v_iv (n_v vs 7) + 0 ≤ v_iv (n_v vs 9) ∧ v_iv (n_v vs 9) ≤ v_iv (n_v vs 7) + 0 := d2
  obtain ⟨d3, hds⟩ := List.forall_mem_cons.mp hds
  have d3 : v_iv (n_v vs 9) + 0 ≤ v_iv (n_v vs 15) ∧ v_iv (n_v vs 15) ≤ v_iv (n_v vs 9) + 23996 := d3
  obtain ⟨d4, hds⟩ := List.forall_mem_cons.mp hds
  have d4 : v_iv (n_v vs 14) + 0 ≤ v_iv (n_v vs 15) ∧ v_iv (n_v vs 15) ≤ v_iv (n_v vs 14) + 3 := d4
  obtain ⟨d5, hds⟩ := List.forall_mem_cons.mp hds
  have d5 : v_iv (n_v vs 7) + (-4294967296) ≤ v_iv (n_v vs 3) ∧ v_iv (n_v vs 3) ≤ v_iv (n_v vs 7) + 48004 := d5
  obtain ⟨d6, hds⟩ := List.forall_mem_cons.mp hds
  have d6 : v_iv (n_v vs 8) + (-4294967296) ≤ v_iv (n_v vs 3) ∧ v_iv (n_v vs 3) ≤ v_iv (n_v vs 8) + 48004 := d6
  obtain ⟨d7, hds⟩ := List.forall_mem_cons.mp hds
  have d7 : v_iv (n_v vs 9) + (-4294967296) ≤ v_iv (n_v vs 3) ∧ v_iv (n_v vs 3) ≤ v_iv (n_v vs 9) + 48004 := d7
  obtain ⟨d8, hds⟩ := List.forall_mem_cons.mp hds
  have d8 : v_iv (n_v vs 3) + (-4294967296) ≤ v_iv (n_v vs 7) ∧ v_iv (n_v vs 7) ≤ v_iv (n_v vs 3) + 3 := d8
  obtain ⟨d9, hds⟩ := List.forall_mem_cons.mp hds
  have d9 : v_iv (n_v vs 8) + (-4294967296) ≤ v_iv (n_v vs 7) ∧ v_iv (n_v vs 7) ≤ v_iv (n_v vs 8) + 3 := d9
  obtain ⟨d10, hds⟩ := List.forall_mem_cons.mp hds
  have d10 : v_iv (n_v vs 9) + (-4294967296) ≤ v_iv (n_v vs 7) ∧ v_iv (n_v vs 7) ≤ v_iv (n_v vs 9) + 3 := d10
  obtain ⟨d11, hds⟩ := List.forall_mem_cons.mp hds
  have d11 : v_iv (n_v vs 3) + (-4294967296) ≤ v_iv (n_v vs 8) ∧ v_iv (n_v vs 8) ≤ v_iv (n_v vs 3) + 5999 := d11
  obtain ⟨d12, hds⟩ := List.forall_mem_cons.mp hds
  have d12 : v_iv (n_v vs 7) + (-4294967296) ≤ v_iv (n_v vs 8) ∧ v_iv (n_v vs 8) ≤ v_iv (n_v vs 7) + 5999 := d12
  obtain ⟨d13, hds⟩ := List.forall_mem_cons.mp hds
  have d13 : v_iv (n_v vs 9) + (-4294967296) ≤ v_iv (n_v vs 8) ∧ v_iv (n_v vs 8) ≤ v_iv (n_v vs 9) + 5999 := d13
  have hf : fc_ok [(6, [19, 9], [1]), (20, [15, 4], [50, 2, 0, 1004, 1005, 0, 6, 4, 2, 1, 0, 0, 1, 6, 2, 0, 4, 6, 3, 2, 1, 4, 2, 1, 5]), (23, [3, 18], [0, 1, -1]), (20, [8, 4], [50, 2, 0, 1004, 1005, 0, 6, 4, 2, 1, 0, 0, 1, 6, 3, 2, 1, 4, 2, 1, 5]), (24, [0, 4], []), (20, [4], [50, 3, 3, 14, 4, 5, 11, 12, 13, 2, 18, 5, 2, 0, 4, 0, 9, 4, 5, 3, 0, 11, 7, 0, 0, 1, 2, 0, 14, 5, 3, 2, 0, 14, 2, 23, 0, 9, 4, 5, 3, 0, 12, 7, 0, 0, 1, 6, 2, 0, 4, 6, 3, 2, 0, 4, 2, 0, 5, 0, 9, 4, 5, 3, 0, 13, 7, 0, 0, 1, 2, 0, 14]), (20, [18, 4], [30, 0, 1, 0, 0, -1, 1, 14]), (102, [18], [77884452878022414427957444938301440, 9014]), (23, [3, 18], [0, 1, -1]), (7, [9, 7], [0]), (1, [15, 14, 9], []), (3, [14, 13, 8], []), (7, [9, 12], [1]), (7, [9, 10], [2])] ta ws vs := hf
  obtain ⟨f0, hf⟩ := fc_un (show (6 : Nat) < 100 from by decide) hf
  have f0 : v_iv (n_v vs 19) = v_iv (n_v vs 9) + 1 := f0
  obtain ⟨f1, hf⟩ := fc_un (show (20 : Nat) < 100 from by decide) hf
  have f1 : (v_iv (n_v vs 15) + 1) ≤ (4 * (w_fi ws (n_v vs 4) 4 * w_fi ws (n_v vs 4) 5)) := f1
  obtain ⟨f2, hf⟩ := fc_un (show (23 : Nat) < 100 from by decide) hf
  have f2 : 1 * v_iv (n_v vs 3) + ((-1) * v_iv (n_v vs 18) + 0) ≤ 0 := f2
  obtain ⟨f3, hf⟩ := fc_un (show (20 : Nat) < 100 from by decide) hf
  have f3 : (v_iv (n_v vs 8) + 1) ≤ (w_fi ws (n_v vs 4) 4 * w_fi ws (n_v vs 4) 5) := f3
  obtain ⟨f4, hf⟩ := fc_un (show (24 : Nat) < 100 from by decide) hf
  have f4 : n_v vs 0 = n_v vs 4 := f4
  obtain ⟨f5, hf⟩ := fc_un (show (20 : Nat) < 100 from by decide) hf
  have f5 : (∀ j0 : Int, 0 ≤ j0 → j0 < 4 → ((w_ei ws (w_ar ws (n_v vs 4) 11) (j0) + 1) ≤ w_fi ws (n_v vs 4) 14)) ∧ (∀ j0 : Int, 0 ≤ j0 → j0 < w_fi ws (n_v vs 4) 14 → (((w_ei ws (w_ar ws (n_v vs 4) 12) (j0) + 1) ≤ (4 * (w_fi ws (n_v vs 4) 4 * w_fi ws (n_v vs 4) 5))) ∧ ((w_ei ws (w_ar ws (n_v vs 4) 13) (j0) + 1) ≤ w_fi ws (n_v vs 4) 14))) := f5
  obtain ⟨f6, hf⟩ := fc_un (show (20 : Nat) < 100 from by decide) hf
  have f6 : 1 * v_iv (n_v vs 18) + ((-1) * w_fi ws (n_v vs 4) 14 + 0) ≤ 0 := f6
  obtain ⟨ta1, w1, le1, ⟨_, s1⟩, hf⟩ := fc_us (show ¬ (102 : Nat) < 100 from by decide) hf
  obtain ⟨f8, hf⟩ := fc_un (show (23 : Nat) < 100 from by decide) hf
  have f8 : 1 * v_iv (n_v vs 3) + ((-1) * v_iv (n_v vs 18) + 0) ≤ 0 := f8
  obtain ⟨f9, hf⟩ := fc_un (show (7 : Nat) < 100 from by decide) hf
  have f9 : v_iv (n_v vs 9) = v_iv (n_v vs 7) := f9
  obtain ⟨f10, hf⟩ := fc_un (show (1 : Nat) < 100 from by decide) hf
  have f10 : v_iv (n_v vs 15) = v_iv (n_v vs 14) + v_iv (n_v vs 9) := f10
  obtain ⟨f11, hf⟩ := fc_un (show (3 : Nat) < 100 from by decide) hf
  have f11 : v_iv (n_v vs 14) = v_iv (n_v vs 13) * v_iv (n_v vs 8) := f11
  rw [show v_iv (n_v vs 13) = 4 from by omega] at f11
  obtain ⟨f12, hf⟩ := fc_un (show (7 : Nat) < 100 from by decide) hf
  have f12 : v_iv (n_v vs 9) ≠ v_iv (n_v vs 12) := f12
  obtain ⟨f13, hf⟩ := fc_un (show (7 : Nat) < 100 from by decide) hf
  have f13 : v_iv (n_v vs 9) < v_iv (n_v vs 10) := f13
  have q4 : n_v vs 4 = n_v vs 0 := f4.symm
  rw [q4] at f1
  rw [q4] at f3
  rw [q4] at f5
  rw [q4] at f6
  have cr_0_11 : ta (w_ar ws (n_v vs 0) 11) = some 113 := tv_rg (th_fd hD hth r0 (g := GG_9) rfl (k := 11) (t := (2, 0, 0, [113])) rfl rfl)
  have cr_0_12 : ta (w_ar ws (n_v vs 0) 12) = some 114 := tv_rg (th_fd hD hth r0 (g := GG_9) rfl (k := 12) (t := (2, 0, 0, [114])) rfl rfl)
  have cr_0_13 : ta (w_ar ws (n_v vs 0) 13) = some 115 := tv_rg (th_fd hD hth r0 (g := GG_9) rfl (k := 13) (t := (2, 0, 0, [115])) rfl rfl)
  have hK_0_11 : ∀ j : Int, 0 ≤ j → j < 4 → (-1) ≤ w_ei ws (w_ar ws (n_v vs 0) 11) j ∧ w_ei ws (w_ar ws (n_v vs 0) 11) j ≤ 48003 := fun j h0 h1 => th_el hD hth cr_0_11 (kd := 0) (n := 4) (m := 4) (lo := (-1)) (hi := 48003) (rs := []) (L := []) rfl (by decide) (j := j.toNat) (by omega)
  have hK_0_12 : ∀ j : Int, 0 ≤ j → j < 48004 → 0 ≤ w_ei ws (w_ar ws (n_v vs 0) 12) j ∧ w_ei ws (w_ar ws (n_v vs 0) 12) j ≤ 23999 := fun j h0 h1 => th_el hD hth cr_0_12 (kd := 0) (n := 48004) (m := 48004) (lo := 0) (hi := 23999) (rs := []) (L := []) rfl (by decide) (j := j.toNat) (by omega)
  have hK_0_13 : ∀ j : Int, 0 ≤ j → j < 48004 → (-1) ≤ w_ei ws (w_ar ws (n_v vs 0) 13) j ∧ w_ei ws (w_ar ws (n_v vs 0) 13) j ≤ 48003 := fun j h0 h1 => th_el hD hth cr_0_13 (kd := 0) (n := 48004) (m := 48004) (lo := (-1)) (hi := 48003) (rs := []) (L := []) rfl (by decide) (j := j.toNat) (by omega)
  have kz_0_4 : (-2147483648) ≤ w_fi ws (n_v vs 0) 4 ∧ w_fi ws (n_v vs 0) 4 ≤ 2147483647 := tv_rng (th_fd hD hth r0 (g := GG_9) rfl (k := 4) (t := (0, -2147483648, 2147483647, [])) rfl rfl)
  have kz_0_5 : (-2147483648) ≤ w_fi ws (n_v vs 0) 5 ∧ w_fi ws (n_v vs 0) 5 ≤ 2147483647 := tv_rng (th_fd hD hth r0 (g := GG_9) rfl (k := 5) (t := (0, -2147483648, 2147483647, [])) rfl rfl)
  have kz_0_14 : 0 ≤ w_fi ws (n_v vs 0) 14 ∧ w_fi ws (n_v vs 0) 14 ≤ 48004 := tv_rng (th_fd hD hth r0 (g := GG_9) rfl (k := 14) (t := (0, 0, 48004, [])) rfl rfl)
  have nf0 : fc_1 (20, [3, 4], [30, 0, 1, 0, 0, -1, 1, 14]) ws (vs) := by
    refine ⟨fun n hn => ?_, ?_⟩
    · have hn : n ∈ [3, 4] := hn
      rw [hl]
      simp only [List.mem_cons, List.not_mem_nil, or_false] at hn
      show n < 20; omega
    · show 1 * v_iv (n_v vs 3) + ((-1) * w_fi ws (n_v vs 4) 14 + 0) ≤ 0
      rw [q4]
      omega
  refine ⟨(fun _ h => (by cases h)), [], trivial, ?_, (fun _ h => (by cases h))⟩
  rw [List.append_nil]
  exact List.forall_mem_cons.mpr ⟨⟨show (20 : Nat) < 100 from by decide, nf0⟩, (fun _ h => (by cases h))⟩
def n_Ro_goBack_an : List an_T := [(60, [(0, (2, 0, 0, [9])), (1, (0, 0, 23999, [])), (2, (0, -2147483647, 1000000000, [])), (3, (0, 0, 3, [])), (4, (0, 0, 5999, [])), (5, (0, 0, 4, []))], [], (0, 0), [(0, 0, 99940), (1, 9, 4), (0, 0, 100000)], [(1, 3, -1000000000000, 23999), (1, 5, -1000000000000, 0), (1, 7, -1000000000000, 23999), (1, 8, -1000000000000, 23999), (1, 9, -1000000000000, 23999), (2, 6, -1000000000000, 0), (3, 1, -1000000000000, 48004), (3, 5, -1000000000000, 48004), (3, 7, -1000000000000, 48004), (3, 8, -1000000000000, 48004), (3, 9, -1000000000000, 48004), (5, 1, -1000000000000, 0), (5, 3, -1000000000000, 23999), (5, 7, -1000000000000, 23999), (5, 8, -1000000000000, 23999), (5, 9, -1000000000000, 23999), (6, 2, -1000000000000, 0), (7, 1, -1000000000000, 3), (7, 3, -1000000000000, 3), (7, 5, -1000000000000, 3), (7, 8, -1000000000000, 3), (7, 9, -1000000000000, 3), (8, 1, -1000000000000, 5999), (8, 3, -1000000000000, 5999), (8, 5, -1000000000000, 5999), (8, 7, -1000000000000, 5999), (8, 9, -1000000000000, 5999)], [], [(2, 0, 0, [9]), (0, 0, 23999, []), (0, -2147483647, 1000000000, []), (0, 0, 48004, [])], 0, [], [(20, [4], [50, 3, 3, 14, 4, 5, 11, 12, 13, 2, 18, 5, 2, 0, 4, 0, 9, 4, 5, 3, 0, 11, 7, 0, 0, 1, 2, 0, 14, 5, 3, 2, 0, 14, 2, 23, 0, 9, 4, 5, 3, 0, 12, 7, 0, 0, 1, 6, 2, 0, 4, 6, 3, 2, 0, 4, 2, 0, 5, 0, 9, 4, 5, 3, 0, 13, 7, 0, 0, 1, 2, 0, 14]), (20, [8, 4], [50, 2, 0, 1004, 1005, 0, 6, 4, 2, 1, 0, 0, 1, 6, 3, 2, 1, 4, 2, 1, 5]), (20, [3, 4], [30, 0, 1, 0, 0, -1, 1, 14]), (24, [0, 4], [])])]
def t_Ro_goBack_ct : ct_L := [(1, 137, e_Ro_enter), (1, 144, e_Ro_next), (123, 117, e_jMath_min1_v45)]
set_option maxRecDepth 100000 in
theorem c_Ro_goBack {l : Launch} {D : va_G} {kA : Nat → ClassId} (h_Ro_enter : ct_ok l D kA GG y_Ro_enter z_Ro_enter e_Ro_enter) (h_Ro_next : ct_ok l D kA GG y_Ro_next z_Ro_next e_Ro_next) : ct_ok l D kA GG y_Ro_goBack z_Ro_goBack e_Ro_goBack := chk_all_ok (FT := [(32, 9, 6), (38, 9, 8), (41, 9, 9)]) (PT := [(38, 9, 8, .int)]) (CT := t_Ro_goBack_ct) (KT := []) (NT := []) (AN := n_Ro_goBack_an) (OT := [o_Ro_goBack_0, o_Ro_goBack_1, o_Ro_goBack_2, o_Ro_goBack_3, o_Ro_goBack_4, o_Ro_goBack_5, o_Ro_goBack_6, o_Ro_goBack_7, o_Ro_goBack_8, o_Ro_goBack_9, o_Ro_goBack_10]) 3 308 (List.forall_mem_cons.mpr ⟨oo_Ro_goBack_0, List.forall_mem_cons.mpr ⟨oo_Ro_goBack_1, List.forall_mem_cons.mpr ⟨oo_Ro_goBack_2, List.forall_mem_cons.mpr ⟨oo_Ro_goBack_3, List.forall_mem_cons.mpr ⟨oo_Ro_goBack_4, List.forall_mem_cons.mpr ⟨oo_Ro_goBack_5, List.forall_mem_cons.mpr ⟨oo_Ro_goBack_6, List.forall_mem_cons.mpr ⟨oo_Ro_goBack_7, List.forall_mem_cons.mpr ⟨oo_Ro_goBack_8, List.forall_mem_cons.mpr ⟨oo_Ro_goBack_9, List.forall_mem_cons.mpr ⟨oo_Ro_goBack_10, List.forall_mem_nil _⟩⟩⟩⟩⟩⟩⟩⟩⟩⟩⟩) (by decide +kernel) ⟨List.forall_mem_cons.mpr ⟨gf_Ro_32, List.forall_mem_cons.mpr ⟨gf_Ro_38, List.forall_mem_cons.mpr ⟨gf_Ro_41, List.forall_mem_nil _⟩⟩⟩, List.forall_mem_cons.mpr ⟨pf_Ro_38, List.forall_mem_nil _⟩, List.forall_mem_cons.mpr ⟨cl_virtual (y := y_Ro_enter) (ci := 9) rfl rfl ⟨_, _, rfl⟩ (by decide +kernel) h_Ro_enter wm_1952 wm_22 wm_1949 wm_1951 wv_9_4 ⟨by decide, by decide, by decide +kernel⟩ (by decide), List.forall_mem_cons.mpr ⟨cl_virtual (y := y_Ro_next) (ci := 9) rfl rfl ⟨_, _, rfl⟩ (by decide +kernel) h_Ro_next wm_1961 wm_22 wm_1958 wm_1960 wv_9_6 ⟨by decide, by decide, by decide +kernel⟩ (by decide), List.forall_mem_cons.mpr ⟨cl_static (y := y_jMath_min1) c_jMath_min1_v45 wm_658 wm_10 wm_1933 wm_657 ⟨by decide, by decide, by decide +kernel⟩ (by decide), List.forall_mem_nil _⟩⟩⟩, List.forall_mem_nil _, List.forall_mem_nil _, GG_pl⟩ (by decide +kernel)
def o_Mo_back_0 : or_T := (66, 14, [(0, (2, 0, 0, [150])), (1, (0, 0, 3, [])), (7, (2, 0, 0, [153])), (8, (0, 0, 30, [])), (9, (2, 0, 0, [154])), (10, (0, 0, 30, [])), (11, (0, 0, 30, [])), (12, (0, 1, 1, [])), (13, (0, 1, 31, []))], [(1, [13, 11, 12], []), (10, [11, 7, 1], []), (9, [7, 0], [3]), (7, [8, 10], [1]), (10, [10, 9, 1], []), (9, [9, 0], [4]), (10, [8, 7, 1], []), (20, [0], [50, 0, 2, 3, 4, 5, 2, 0, 4, 0, 5, 3, 0, 3, 7, 0, 3, 0, 4, 7, 0])], [(13, (0, 1, 30, []))], [], [], [], [(13, 11, 1, 1)])
theorem oo_Mo_back_0 {kA : Nat → ClassId} : or_ok kA GG o_Mo_back_0 := by
  intro A ta ws vs hD hth hl hk hds hf
  have hl : vs.length = 14 := hl
  have hk : ∀ q ∈ ([(0, (2, 0, 0, [150])), (1, (0, 0, 3, [])), (7, (2, 0, 0, [153])), (8, (0, 0, 30, [])), (9, (2, 0, 0, [154])), (10, (0, 0, 30, [])), (11, (0, 0, 30, [])), (12, (0, 1, 1, [])), (13, (0, 1, 31, []))] : List (Nat × tv_T)), tv_ok ta q.2 (n_v vs q.1) := hk
  obtain ⟨t0, hk⟩ := List.forall_mem_cons.mp hk
  have t0 : tv_ok ta (2, 0, 0, [150]) (n_v vs 0) := t0
  have r0 : ta (v_ad (n_v vs 0)) = some 150 := tv_rg t0
  obtain ⟨t1, hk⟩ := List.forall_mem_cons.mp hk
  have t1 : tv_ok ta (0, 0, 3, []) (n_v vs 1) := t1
  have k1 : 0 ≤ v_iv (n_v vs 1) ∧ v_iv (n_v vs 1) ≤ 3 := tv_rng t1
  obtain ⟨t7, hk⟩ := List.forall_mem_cons.mp hk
  have t7 : tv_ok ta (2, 0, 0, [153]) (n_v vs 7) := t7
  have r7 : ta (v_ad (n_v vs 7)) = some 153 := tv_rg t7
  obtain ⟨t8, hk⟩ := List.forall_mem_cons.mp hk
  have t8 : tv_ok ta (0, 0, 30, []) (n_v vs 8) := t8
  have k8 : 0 ≤ v_iv (n_v vs 8) ∧ v_iv (n_v vs 8) ≤ 30 := tv_rng t8
  obtain ⟨t9, hk⟩ := List.forall_mem_cons.mp hk
  have t9 : tv_ok ta (2, 0, 0, [154]) (n_v vs 9) := t9
  have r9 : ta (v_ad (n_v vs 9)) = some 154 := tv_rg t9
  obtain ⟨t10, hk⟩ := List.forall_mem_cons.mp hk
  have t10 : tv_ok ta (0, 0, 30, []) (n_v vs 10) := t10
  have k10 : 0 ≤ v_iv (n_v vs 10) ∧ v_iv (n_v vs 10) ≤ 30 := tv_rng t10
  obtain ⟨t11, hk⟩ := List.forall_mem_cons.mp hk
  have t11 : tv_ok ta (0, 0, 30, []) (n_v vs 11) := t11
  have k11 : 0 ≤ v_iv (n_v vs 11) ∧ v_iv (n_v vs 11) ≤ 30 := tv_rng t11
  obtain ⟨t12, hk⟩ := List.forall_mem_cons.mp hk
  have t12 : tv_ok ta (0, 1, 1, []) (n_v vs 12) := t12
  have k12 : 1 ≤ v_iv (n_v vs 12) ∧ v_iv (n_v vs 12) ≤ 1 := tv_rng t12
  obtain ⟨t13, hk⟩ := List.forall_mem_cons.mp hk
  have t13 : tv_ok ta (0, 1, 31, []) (n_v vs 13) := t13
  have k13 : 1 ≤ v_iv (n_v vs 13) ∧ v_iv (n_v vs 13) ≤ 31 := tv_rng t13
  have hds : ∀ q ∈ ([(13, 11, 1, 1)] : List of_T), n_iv vs q.2.1 + q.2.2.1 ≤ n_iv vs q.1 ∧ n_iv vs q.1 ≤ n_iv vs q.2.1 + q.2.2.2 := hds
  obtain ⟨d0, hds⟩ := List.forall_mem_cons.mp hds
  have d0 : v_iv (n_v vs 11) + 1 ≤ v_iv (n_v vs 13) ∧ v_iv (n_v vs 13) ≤ v_iv (n_v vs 11) + 1 := d0
  have hf : fc_ok [(1, [13, 11, 12], []), (10, [11, 7, 1], []), (9, [7, 0], [3]), (7, [8, 10], [1]), (10, [10, 9, 1], []), (9, [9, 0], [4]), (10, [8, 7, 1], []), (20, [0], [50, 0, 2, 3, 4, 5, 2, 0, 4, 0, 5, 3, 0, 3, 7, 0, 3, 0, 4, 7, 0])] ta ws vs := hf
  obtain ⟨f0, hf⟩ := fc_un (show (1 : Nat) < 100 from by decide) hf
  have f0 : v_iv (n_v vs 13) = v_iv (n_v vs 11) + v_iv (n_v vs 12) := f0
  obtain ⟨f1, hf⟩ := fc_un (show (10 : Nat) < 100 from by decide) hf
  have f1 : v_iv (n_v vs 11) = w_el ws (v_ad (n_v vs 7)) (v_iv (n_v vs 1)).toNat := f1
  obtain ⟨f2, hf⟩ := fc_un (show (9 : Nat) < 100 from by decide) hf
  have f2 : n_v vs 7 = w_fd ws (v_ad (n_v vs 0)) 3 := f2
  obtain ⟨f3, hf⟩ := fc_un (show (7 : Nat) < 100 from by decide) hf
  have f3 : v_iv (n_v vs 8) ≠ v_iv (n_v vs 10) := f3
  obtain ⟨f4, hf⟩ := fc_un (show (10 : Nat) < 100 from by decide) hf
  have f4 : v_iv (n_v vs 10) = w_el ws (v_ad (n_v vs 9)) (v_iv (n_v vs 1)).toNat := f4
  obtain ⟨f5, hf⟩ := fc_un (show (9 : Nat) < 100 from by decide) hf
  have f5 : n_v vs 9 = w_fd ws (v_ad (n_v vs 0)) 4 := f5
  obtain ⟨f6, hf⟩ := fc_un (show (10 : Nat) < 100 from by decide) hf
  have f6 : v_iv (n_v vs 8) = w_el ws (v_ad (n_v vs 7)) (v_iv (n_v vs 1)).toNat := f6
  obtain ⟨f7, hf⟩ := fc_un (show (20 : Nat) < 100 from by decide) hf
  have f7 : ∀ j0 : Int, 0 ≤ j0 → j0 < 4 → (w_ei ws (w_ar ws (n_v vs 0) 3) (j0) ≤ w_ei ws (w_ar ws (n_v vs 0) 4) (j0)) := f7
  have cr_0_3 : ta (w_ar ws (n_v vs 0) 3) = some 153 := tv_rg (th_fd hD hth r0 (g := GG_150) rfl (k := 3) (t := (2, 0, 0, [153])) rfl rfl)
  have cr_0_4 : ta (w_ar ws (n_v vs 0) 4) = some 154 := tv_rg (th_fd hD hth r0 (g := GG_150) rfl (k := 4) (t := (2, 0, 0, [154])) rfl rfl)
  have ad_7 : v_ad (n_v vs 7) = w_ar ws (n_v vs 0) 3 := congrArg v_ad f2
  have ad_9 : v_ad (n_v vs 9) = w_ar ws (n_v vs 0) 4 := congrArg v_ad f5
  rw [ad_7] at f1
  have h1 : v_iv (n_v vs 11) = w_ei ws (w_ar ws (n_v vs 0) 3) (v_iv (n_v vs 1)) := f1
  rw [ad_9] at f4
  have h4 : v_iv (n_v vs 10) = w_ei ws (w_ar ws (n_v vs 0) 4) (v_iv (n_v vs 1)) := f4
  rw [ad_7] at f6
  have h6 : v_iv (n_v vs 8) = w_ei ws (w_ar ws (n_v vs 0) 3) (v_iv (n_v vs 1)) := f6
  have br_0_3_1_0 : w_ei ws (w_ar ws (n_v vs 0) 3) (v_iv (n_v vs 1)) = w_el ws (w_ar ws (n_v vs 0) 3) (v_iv (n_v vs 1)).toNat := rfl
  have br_0_4_1_0 : w_ei ws (w_ar ws (n_v vs 0) 4) (v_iv (n_v vs 1)) = w_el ws (w_ar ws (n_v vs 0) 4) (v_iv (n_v vs 1)).toNat := rfl
  have hK_0_3 : ∀ j : Int, 0 ≤ j → j < 4 → 0 ≤ w_ei ws (w_ar ws (n_v vs 0) 3) j ∧ w_ei ws (w_ar ws (n_v vs 0) 3) j ≤ 30 := fun j h0 h1 => th_el hD hth cr_0_3 (kd := 0) (n := 4) (m := 4) (lo := 0) (hi := 30) (rs := []) (L := []) rfl (by decide) (j := j.toNat) (by omega)
  have hK_0_4 : ∀ j : Int, 0 ≤ j → j < 4 → 0 ≤ w_ei ws (w_ar ws (n_v vs 0) 4) j ∧ w_ei ws (w_ar ws (n_v vs 0) 4) j ≤ 30 := fun j h0 h1 => th_el hD hth cr_0_4 (kd := 0) (n := 4) (m := 4) (lo := 0) (hi := 30) (rs := []) (L := []) rfl (by decide) (j := j.toNat) (by omega)
  have rf13 : tv_ok ta (0, 1, 30, []) (n_v vs 13) := tv_in t13 (by first | omega | grind) (by first | omega | grind)
  refine ⟨List.forall_mem_cons.mpr ⟨rf13, (fun _ h => (by cases h))⟩, [], trivial, ?_, (fun _ h => (by cases h))⟩
  rw [List.append_nil]
  exact (fun _ h => (by cases h))
def o_Mo_back_1 : or_T := (69, 14, [(0, (2, 0, 0, [150])), (1, (0, 0, 3, [])), (7, (2, 0, 0, [153])), (8, (0, 0, 30, [])), (9, (2, 0, 0, [154])), (10, (0, 0, 30, [])), (11, (0, 0, 30, [])), (12, (0, 1, 1, [])), (13, (0, 1, 30, []))], [(100, [7, 1, 13], []), (1, [13, 11, 12], []), (10, [11, 7, 1], []), (9, [7, 0], [3]), (7, [8, 10], [1]), (10, [10, 9, 1], []), (9, [9, 0], [4]), (10, [8, 7, 1], []), (20, [0], [50, 0, 2, 3, 4, 5, 2, 0, 4, 0, 5, 3, 0, 3, 7, 0, 3, 0, 4, 7, 0])], [], [], [(20, [0], [50, 0, 2, 3, 4, 5, 2, 0, 4, 0, 5, 3, 0, 3, 7, 0, 3, 0, 4, 7, 0])], [], [(13, 11, 1, 1)])
theorem oo_Mo_back_1 {kA : Nat → ClassId} : or_ok kA GG o_Mo_back_1 := by
  intro A ta ws vs hD hth hl hk hds hf
  have hl : vs.length = 14 := hl
  have hk : ∀ q ∈ ([(0, (2, 0, 0, [150])), (1, (0, 0, 3, [])), (7, (2, 0, 0, [153])), (8, (0, 0, 30, [])), (9, (2, 0, 0, [154])), (10, (0, 0, 30, [])), (11, (0, 0, 30, [])), (12, (0, 1, 1, [])), (13, (0, 1, 30, []))] : List (Nat × tv_T)), tv_ok ta q.2 (n_v vs q.1) := hk
  obtain ⟨t0, hk⟩ := List.forall_mem_cons.mp hk
  have t0 : tv_ok ta (2, 0, 0, [150]) (n_v vs 0) := t0
  have r0 : ta (v_ad (n_v vs 0)) = some 150 := tv_rg t0
  obtain ⟨t1, hk⟩ := List.forall_mem_cons.mp hk
  have t1 : tv_ok ta (0, 0, 3, []) (n_v vs 1) := t1
  have k1 : 0 ≤ v_iv (n_v vs 1) ∧ v_iv (n_v vs 1) ≤ 3 := tv_rng t1
  obtain ⟨t7, hk⟩ := List.forall_mem_cons.mp hk
  have t7 : tv_ok ta (2, 0, 0, [153]) (n_v vs 7) := t7
  have r7 : ta (v_ad (n_v vs 7)) = some 153 := tv_rg t7
  obtain ⟨t8, hk⟩ := List.forall_mem_cons.mp hk
  have t8 : tv_ok ta (0, 0, 30, []) (n_v vs 8) := t8
  have k8 : 0 ≤ v_iv (n_v vs 8) ∧ v_iv (n_v vs 8) ≤ 30 := tv_rng t8
  obtain ⟨t9, hk⟩ := List.forall_mem_cons.mp hk
  have t9 : tv_ok ta (2, 0, 0, [154]) (n_v vs 9) := t9
  have r9 : ta (v_ad (n_v vs 9)) = some 154 := tv_rg t9
  obtain ⟨t10, hk⟩ := List.forall_mem_cons.mp hk
  have t10 : tv_ok ta (0, 0, 30, []) (n_v vs 10) := t10
  have k10 : 0 ≤ v_iv (n_v vs 10) ∧ v_iv (n_v vs 10) ≤ 30 := tv_rng t10
  obtain ⟨t11, hk⟩ := List.forall_mem_cons.mp hk
  have t11 : tv_ok ta (0, 0, 30, []) (n_v vs 11) := t11
  have k11 : 0 ≤ v_iv (n_v vs 11) ∧ v_iv (n_v vs 11) ≤ 30 := tv_rng t11
  obtain ⟨t12, hk⟩ := List.forall_mem_cons.mp hk
  have t12 : tv_ok ta (0, 1, 1, []) (n_v vs 12) := t12
  have k12 : 1 ≤ v_iv (n_v vs 12) ∧ v_iv (n_v vs 12) ≤ 1 := tv_rng t12
  obtain ⟨t13, hk⟩ := List.forall_mem_cons.mp hk
  have t13 : tv_ok ta (0, 1, 30, []) (n_v vs 13) := t13
  have k13 : 1 ≤ v_iv (n_v vs 13) ∧ v_iv (n_v vs 13) ≤ 30 := tv_rng t13
  have hds : ∀ q ∈ ([(13, 11, 1, 1)] : List of_T), n_iv vs q.2.1 + q.2.2.1 ≤ n_iv vs q.1 ∧ n_iv vs q.1 ≤ n_iv vs q.2.1 + q.2.2.2 := hds
  obtain ⟨d0, hds⟩ := List.forall_mem_cons.mp hds
  have d0 : v_iv (n_v vs 11) + 1 ≤ v_iv (n_v vs 13) ∧ v_iv (n_v vs 13) ≤ v_iv (n_v vs 11) + 1 := d0
  have hf : fc_ok [(100, [7, 1, 13], []), (1, [13, 11, 12], []), (10, [11, 7, 1], []), (9, [7, 0], [3]), (7, [8, 10], [1]), (10, [10, 9, 1], []), (9, [9, 0], [4]), (10, [8, 7, 1], []), (20, [0], [50, 0, 2, 3, 4, 5, 2, 0, 4, 0, 5, 3, 0, 3, 7, 0, 3, 0, 4, 7, 0])] ta ws vs := hf
  obtain ⟨ta1, w1, le1, ⟨_, s1⟩, hf⟩ := fc_us (show ¬ (100 : Nat) < 100 from by decide) hf
  have s1 : (∀ b j, w_el ws b j = if b = v_ad (n_v vs 7) ∧ j = (v_iv (n_v vs 1)).toNat then v_iv (n_v vs 13) else w_el w1 b j) ∧ ∀ b k, w_fd ws b k = w_fd w1 b k := s1
  obtain ⟨f1, hf⟩ := fc_un (show (1 : Nat) < 100 from by decide) hf
  have f1 : v_iv (n_v vs 13) = v_iv (n_v vs 11) + v_iv (n_v vs 12) := f1
  obtain ⟨f2, hf⟩ := fc_un (show (10 : Nat) < 100 from by decide) hf
  have f2 : v_iv (n_v vs 11) = w_el w1 (v_ad (n_v vs 7)) (v_iv (n_v vs 1)).toNat := f2
  obtain ⟨f3, hf⟩ := fc_un (show (9 : Nat) < 100 from by decide) hf
  have f3 : n_v vs 7 = w_fd w1 (v_ad (n_v vs 0)) 3 := f3
  obtain ⟨f4, hf⟩ := fc_un (show (7 : Nat) < 100 from by decide) hf
  have f4 : v_iv (n_v vs 8) ≠ v_iv (n_v vs 10) := f4
  obtain ⟨f5, hf⟩ := fc_un (show (10 : Nat) < 100 from by decide) hf
  have f5 : v_iv (n_v vs 10) = w_el w1 (v_ad (n_v vs 9)) (v_iv (n_v vs 1)).toNat := f5
  obtain ⟨f6, hf⟩ := fc_un (show (9 : Nat) < 100 from by decide) hf
  have f6 : n_v vs 9 = w_fd w1 (v_ad (n_v vs 0)) 4 := f6
  obtain ⟨f7, hf⟩ := fc_un (show (10 : Nat) < 100 from by decide) hf
  have f7 : v_iv (n_v vs 8) = w_el w1 (v_ad (n_v vs 7)) (v_iv (n_v vs 1)).toNat := f7
  obtain ⟨f8, hf⟩ := fc_un (show (20 : Nat) < 100 from by decide) hf
  have f8 : ∀ j0 : Int, 0 ≤ j0 → j0 < 4 → (w_ei w1 (w_ar w1 (n_v vs 0) 3) (j0) ≤ w_ei w1 (w_ar w1 (n_v vs 0) 4) (j0)) := f8
  have ar_0_3_1 : w_ar w1 (n_v vs 0) 3 = w_ar ws (n_v vs 0) 3 := by show v_ad (w_fd w1 _ _) = v_ad (w_fd ws _ _); rw [s1.2]
  have cr_0_3 : ta (w_ar ws (n_v vs 0) 3) = some 153 := tv_rg (th_fd hD hth r0 (g := GG_150) rfl (k := 3) (t := (2, 0, 0, [153])) rfl rfl)
  have ar_0_4_1 : w_ar w1 (n_v vs 0) 4 = w_ar ws (n_v vs 0) 4 := by show v_ad (w_fd w1 _ _) = v_ad (w_fd ws _ _); rw [s1.2]
  have cr_0_4 : ta (w_ar ws (n_v vs 0) 4) = some 154 := tv_rg (th_fd hD hth r0 (g := GG_150) rfl (k := 4) (t := (2, 0, 0, [154])) rfl rfl)
  have ad_7 : v_ad (n_v vs 7) = w_ar ws (n_v vs 0) 3 := (congrArg v_ad f3).trans ar_0_3_1
  have ad_9 : v_ad (n_v vs 9) = w_ar ws (n_v vs 0) 4 := (congrArg v_ad f6).trans ar_0_4_1
  rw [ad_7] at f2
  have h2 : v_iv (n_v vs 11) = w_ei w1 (w_ar ws (n_v vs 0) 3) (v_iv (n_v vs 1)) := f2
  rw [ad_9] at f5
  have h5 : v_iv (n_v vs 10) = w_ei w1 (w_ar ws (n_v vs 0) 4) (v_iv (n_v vs 1)) := f5
  rw [ad_7] at f7
  have h7 : v_iv (n_v vs 8) = w_ei w1 (w_ar ws (n_v vs 0) 3) (v_iv (n_v vs 1)) := f7
  rw [ar_0_3_1] at f8
  rw [ar_0_4_1] at f8
  have ee_0_3_1_1 : w_el ws (w_ar ws (n_v vs 0) 3) (v_iv (n_v vs 1)).toNat = v_iv (n_v vs 13) := by rw [s1.1, if_pos ⟨ad_7.symm, rfl⟩]
  have ee_0_4_1_1 : w_el ws (w_ar ws (n_v vs 0) 4) (v_iv (n_v vs 1)).toNat = w_el w1 (w_ar ws (n_v vs 0) 4) (v_iv (n_v vs 1)).toNat := by rw [s1.1, if_neg (fun e => by have e1 := e.1; rw [← e1] at r7; rw [cr_0_4] at r7; exact absurd (Option.some.inj r7) (by decide))]
  have br_0_3_1_0 : w_ei ws (w_ar ws (n_v vs 0) 3) (v_iv (n_v vs 1)) = w_el ws (w_ar ws (n_v vs 0) 3) (v_iv (n_v vs 1)).toNat := rfl
  have br_0_3_1_1 : w_ei w1 (w_ar ws (n_v vs 0) 3) (v_iv (n_v vs 1)) = w_el w1 (w_ar ws (n_v vs 0) 3) (v_iv (n_v vs 1)).toNat := rfl
  have br_0_4_1_0 : w_ei ws (w_ar ws (n_v vs 0) 4) (v_iv (n_v vs 1)) = w_el ws (w_ar ws (n_v vs 0) 4) (v_iv (n_v vs 1)).toNat := rfl
  have br_0_4_1_1 : w_ei w1 (w_ar ws (n_v vs 0) 4) (v_iv (n_v vs 1)) = w_el w1 (w_ar ws (n_v vs 0) 4) (v_iv (n_v vs 1)).toNat := rfl
  have hE_0_3_1 : ∀ j : Int, 0 ≤ j → (j = v_iv (n_v vs 1) → w_ei ws (w_ar ws (n_v vs 0) 3) j = v_iv (n_v vs 13)) ∧ (j ≠ v_iv (n_v vs 1) → w_ei ws (w_ar ws (n_v vs 0) 3) j = w_ei w1 (w_ar ws (n_v vs 0) 3) j) := fun j hj => ⟨fun h => by unfold w_ei; rw [s1.1, if_pos ⟨ad_7.symm, by rw [h]⟩], fun h => by unfold w_ei; rw [s1.1, if_neg (fun e => h (by have := e.2; omega))]⟩
  have hK_0_3 : ∀ j : Int, 0 ≤ j → j < 4 → 0 ≤ w_ei ws (w_ar ws (n_v vs 0) 3) j ∧ w_ei ws (w_ar ws (n_v vs 0) 3) j ≤ 30 := fun j h0 h1 => th_el hD hth cr_0_3 (kd := 0) (n := 4) (m := 4) (lo := 0) (hi := 30) (rs := []) (L := []) rfl (by decide) (j := j.toNat) (by omega)
  have hE_0_4_1 : ∀ j : Int, w_ei ws (w_ar ws (n_v vs 0) 4) j = w_ei w1 (w_ar ws (n_v vs 0) 4) j := fun j => by unfold w_ei; rw [s1.1, if_neg (fun e => by have e1 := e.1; rw [← e1] at r7; rw [cr_0_4] at r7; exact absurd (Option.some.inj r7) (by decide))]
  have hK_0_4 : ∀ j : Int, 0 ≤ j → j < 4 → 0 ≤ w_ei ws (w_ar ws (n_v vs 0) 4) j ∧ w_ei ws (w_ar ws (n_v vs 0) 4) j ≤ 30 := fun j h0 h1 => th_el hD hth cr_0_4 (kd := 0) (n := 4) (m := 4) (lo := 0) (hi := 30) (rs := []) (L := []) rfl (by decide) (j := j.toNat) (by omega)
  have nf0 : fc_1 (20, [0], [50, 0, 2, 3, 4, 5, 2, 0, 4, 0, 5, 3, 0, 3, 7, 0, 3, 0, 4, 7, 0]) ws (vs) := by
    refine ⟨fun n hn => ?_, ?_⟩
    · have hn : n ∈ [0] := hn
      rw [hl]
      simp only [List.mem_cons, List.not_mem_nil, or_false] at hn
      show n < 14; omega
    · show ∀ j0 : Int, 0 ≤ j0 → j0 < 4 → (w_ei ws (w_ar ws (n_v vs 0) 3) (j0) ≤ w_ei ws (w_ar ws (n_v vs 0) 4) (j0))
      first | omega | grind
  refine ⟨(fun _ h => (by cases h)), [], trivial, ?_, (fun _ h => (by cases h))⟩
  rw [List.append_nil]
  exact List.forall_mem_cons.mpr ⟨⟨show (20 : Nat) < 100 from by decide, nf0⟩, (fun _ h => (by cases h))⟩
def o_Mo_back_2 : or_T := (66, 12, [(0, (2, 0, 0, [150])), (1, (0, 0, 3, [])), (7, (2, 0, 0, [153])), (8, (0, 1, 30, [])), (9, (0, 0, 30, [])), (10, (0, -1, -1, [])), (11, (0, -1, 29, []))], [(1, [11, 9, 10], []), (10, [9, 7, 1], []), (9, [7, 0], [3]), (8, [8], [1]), (10, [8, 7, 1], []), (20, [0], [50, 0, 2, 3, 4, 5, 2, 0, 4, 0, 5, 3, 0, 3, 7, 0, 3, 0, 4, 7, 0])], [(11, (0, 0, 29, []))], [], [], [], [(11, 9, -1, -1)])
theorem oo_Mo_back_2 {kA : Nat → ClassId} : or_ok kA GG o_Mo_back_2 := by
  intro A ta ws vs hD hth hl hk hds hf
  have hl : vs.length = 12 := hl
  have hk : ∀ q ∈ ([(0, (2, 0, 0, [150])), (1, (0, 0, 3, [])), (7, (2, 0, 0, [153])), (8, (0, 1, 30, [])), (9, (0, 0, 30, [])), (10, (0, -1, -1, [])), (11, (0, -1, 29, []))] : List (Nat × tv_T)), tv_ok ta q.2 (n_v vs q.1) := hk
  obtain ⟨t0, hk⟩ := List.forall_mem_cons.mp hk
  have t0 : tv_ok ta (2, 0, 0, [150]) (n_v vs 0) := t0
  have r0 : ta (v_ad (n_v vs 0)) = some 150 := tv_rg t0
  obtain ⟨t1, hk⟩ := List.forall_mem_cons.mp hk
  have t1 : tv_ok ta (0, 0, 3, []) (n_v vs 1) := t1
  have k1 : 0 ≤ v_iv (n_v vs 1) ∧ v_iv (n_v vs 1) ≤ 3 := tv_rng t1
  obtain ⟨t7, hk⟩ := List.forall_mem_cons.mp hk
  have t7 : tv_ok ta (2, 0, 0, [153]) (n_v vs 7) := t7
  have r7 : ta (v_ad (n_v vs 7)) = some 153 := tv_rg t7
  obtain ⟨t8, hk⟩ := List.forall_mem_cons.mp hk
  have t8 : tv_ok ta (0, 1, 30, []) (n_v vs 8) := t8
  have k8 : 1 ≤ v_iv (n_v vs 8) ∧ v_iv (n_v vs 8) ≤ 30 := tv_rng t8
  obtain ⟨t9, hk⟩ := List.forall_mem_cons.mp hk
  have t9 : tv_ok ta (0, 0, 30, []) (n_v vs 9) := t9
  have k9 : 0 ≤ v_iv (n_v vs 9) ∧ v_iv (n_v vs 9) ≤ 30 := tv_rng t9
  obtain ⟨t10, hk⟩ := List.forall_mem_cons.mp hk
  have t10 : tv_ok ta (0, -1, -1, []) (n_v vs 10) := t10
  have k10 : (-1) ≤ v_iv (n_v vs 10) ∧ v_iv (n_v vs 10) ≤ (-1) := tv_rng t10
  obtain ⟨t11, hk⟩ := List.forall_mem_cons.mp hk
  have t11 : tv_ok ta (0, -1, 29, []) (n_v vs 11) := t11
  have k11 : (-1) ≤ v_iv (n_v vs 11) ∧ v_iv (n_v vs 11) ≤ 29 := tv_rng t11
  have hds : ∀ q ∈ ([(11, 9, -1, -1)] : List of_T), n_iv vs q.2.1 + q.2.2.1 ≤ n_iv vs q.1 ∧ n_iv vs q.1 ≤ n_iv vs q.2.1 + q.2.2.2 := hds
  obtain ⟨d0, hds⟩ := List.forall_mem_cons.mp hds
  have d0 : v_iv (n_v vs 9) + (-1) ≤ v_iv (n_v vs 11) ∧ v_iv (n_v vs 11) ≤ v_iv (n_v vs 9) + (-1) := d0
  have hf : fc_ok [(1, [11, 9, 10], []), (10, [9, 7, 1], []), (9, [7, 0], [3]), (8, [8], [1]), (10, [8, 7, 1], []), (20, [0], [50, 0, 2, 3, 4, 5, 2, 0, 4, 0, 5, 3, 0, 3, 7, 0, 3, 0, 4, 7, 0])] ta ws vs := hf
  obtain ⟨f0, hf⟩ := fc_un (show (1 : Nat) < 100 from by decide) hf
  have f0 : v_iv (n_v vs 11) = v_iv (n_v vs 9) + v_iv (n_v vs 10) := f0
  obtain ⟨f1, hf⟩ := fc_un (show (10 : Nat) < 100 from by decide) hf
  have f1 : v_iv (n_v vs 9) = w_el ws (v_ad (n_v vs 7)) (v_iv (n_v vs 1)).toNat := f1
  obtain ⟨f2, hf⟩ := fc_un (show (9 : Nat) < 100 from by decide) hf
  have f2 : n_v vs 7 = w_fd ws (v_ad (n_v vs 0)) 3 := f2
  obtain ⟨f3, hf⟩ := fc_un (show (8 : Nat) < 100 from by decide) hf
  have f3 : v_iv (n_v vs 8) ≠ 0 := f3
  obtain ⟨f4, hf⟩ := fc_un (show (10 : Nat) < 100 from by decide) hf
  have f4 : v_iv (n_v vs 8) = w_el ws (v_ad (n_v vs 7)) (v_iv (n_v vs 1)).toNat := f4
  obtain ⟨f5, hf⟩ := fc_un (show (20 : Nat) < 100 from by decide) hf
  have f5 : ∀ j0 : Int, 0 ≤ j0 → j0 < 4 → (w_ei ws (w_ar ws (n_v vs 0) 3) (j0) ≤ w_ei ws (w_ar ws (n_v vs 0) 4) (j0)) := f5
  have cr_0_3 : ta (w_ar ws (n_v vs 0) 3) = some 153 := tv_rg (th_fd hD hth r0 (g := GG_150) rfl (k := 3) (t := (2, 0, 0, [153])) rfl rfl)
  have cr_0_4 : ta (w_ar ws (n_v vs 0) 4) = some 154 := tv_rg (th_fd hD hth r0 (g := GG_150) rfl (k := 4) (t := (2, 0, 0, [154])) rfl rfl)
  have ad_7 : v_ad (n_v vs 7) = w_ar ws (n_v vs 0) 3 := congrArg v_ad f2
  rw [ad_7] at f1
  have h1 : v_iv (n_v vs 9) = w_ei ws (w_ar ws (n_v vs 0) 3) (v_iv (n_v vs 1)) := f1
  rw [ad_7] at f4
  have h4 : v_iv (n_v vs 8) = w_ei ws (w_ar ws (n_v vs 0) 3) (v_iv (n_v vs 1)) := f4
  have br_0_3_1_0 : w_ei ws (w_ar ws (n_v vs 0) 3) (v_iv (n_v vs 1)) = w_el ws (w_ar ws (n_v vs 0) 3) (v_iv (n_v vs 1)).toNat := rfl
  have hK_0_3 : ∀ j : Int, 0 ≤ j → j < 4 → 0 ≤ w_ei ws (w_ar ws (n_v vs 0) 3) j ∧ w_ei ws (w_ar ws (n_v vs 0) 3) j ≤ 30 := fun j h0 h1 => th_el hD hth cr_0_3 (kd := 0) (n := 4) (m := 4) (lo := 0) (hi := 30) (rs := []) (L := []) rfl (by decide) (j := j.toNat) (by omega)
  have hK_0_4 : ∀ j : Int, 0 ≤ j → j < 4 → 0 ≤ w_ei ws (w_ar ws (n_v vs 0) 4) j ∧ w_ei ws (w_ar ws (n_v vs 0) 4) j ≤ 30 := fun j h0 h1 => th_el hD hth cr_0_4 (kd := 0) (n := 4) (m := 4) (lo := 0) (hi := 30) (rs := []) (L := []) rfl (by decide) (j := j.toNat) (by omega)
  have rf11 : tv_ok ta (0, 0, 29, []) (n_v vs 11) := tv_in t11 (by first | omega | grind) (by first | omega | grind)
  refine ⟨List.forall_mem_cons.mpr ⟨rf11, (fun _ h => (by cases h))⟩, [], trivial, ?_, (fun _ h => (by cases h))⟩
  rw [List.append_nil]
  exact (fun _ h => (by cases h))
def o_Mo_back_3 : or_T := (69, 12, [(0, (2, 0, 0, [150])), (1, (0, 0, 3, [])), (7, (2, 0, 0, [153])), (8, (0, 1, 30, [])), (9, (0, 0, 30, [])), (10, (0, -1, -1, [])), (11, (0, 0, 29, []))], [(100, [7, 1, 11], []), (1, [11, 9, 10], []), (10, [9, 7, 1], []), (9, [7, 0], [3]), (8, [8], [1]), (10, [8, 7, 1], []), (20, [0], [50, 0, 2, 3, 4, 5, 2, 0, 4, 0, 5, 3, 0, 3, 7, 0, 3, 0, 4, 7, 0])], [], [], [(20, [0], [50, 0, 2, 3, 4, 5, 2, 0, 4, 0, 5, 3, 0, 3, 7, 0, 3, 0, 4, 7, 0])], [], [(11, 9, -1, -1)])
theorem oo_Mo_back_3 {kA : Nat → ClassId} : or_ok kA GG o_Mo_back_3 := by
  intro A ta ws vs hD hth hl hk hds hf
  have hl : vs.length = 12 := hl
  have hk : ∀ q ∈ ([(0, (2, 0, 0, [150])), (1, (0, 0, 3, [])), (7, (2, 0, 0, [153])), (8, (0, 1, 30, [])), (9, (0, 0, 30, [])), (10, (0, -1, -1, [])), (11, (0, 0, 29, []))] : List (Nat × tv_T)), tv_ok ta q.2 (n_v vs q.1) := hk
  obtain ⟨t0, hk⟩ := List.forall_mem_cons.mp hk
  have t0 : tv_ok ta (2, 0, 0, [150]) (n_v vs 0) := t0
  have r0 : ta (v_ad (n_v vs 0)) = some 150 := tv_rg t0
  obtain ⟨t1, hk⟩ := List.forall_mem_cons.mp hk
  have t1 : tv_ok ta (0, 0, 3, []) (n_v vs 1) := t1
  have k1 : 0 ≤ v_iv (n_v vs 1) ∧ v_iv (n_v vs 1) ≤ 3 := tv_rng t1
  obtain ⟨t7, hk⟩ := List.forall_mem_cons.mp hk
  have t7 : tv_ok ta (2, 0, 0, [153]) (n_v vs 7) := t7
  have r7 : ta (v_ad (n_v vs 7)) = some 153 := tv_rg t7
  obtain ⟨t8, hk⟩ := List.forall_mem_cons.mp hk
  have t8 : tv_ok ta (0, 1, 30, []) (n_v vs 8) := t8
  have k8 : 1 ≤ v_iv (n_v vs 8) ∧ v_iv (n_v vs 8) ≤ 30 := tv_rng t8
  obtain ⟨t9, hk⟩ := List.forall_mem_cons.mp hk
  have t9 : tv_ok ta (0, 0, 30, []) (n_v vs 9) := t9
  have k9 : 0 ≤ v_iv (n_v vs 9) ∧ v_iv (n_v vs 9) ≤ 30 := tv_rng t9
  obtain ⟨t10, hk⟩ := List.forall_mem_cons.mp hk
  have t10 : tv_ok ta (0, -1, -1, []) (n_v vs 10) := t10
  have k10 : (-1) ≤ v_iv (n_v vs 10) ∧ v_iv (n_v vs 10) ≤ (-1) := tv_rng t10
  obtain ⟨t11, hk⟩ := List.forall_mem_cons.mp hk
  have t11 : tv_ok ta (0, 0, 29, []) (n_v vs 11) := t11
  have k11 : 0 ≤ v_iv (n_v vs 11) ∧ v_iv (n_v vs 11) ≤ 29 := tv_rng t11
  have hds : ∀ q ∈ ([(11, 9, -1, -1)] : List of_T), n_iv vs q.2.1 + q.2.2.1 ≤ n_iv vs q.1 ∧ n_iv vs q.1 ≤ n_iv vs q.2.1 + q.2.2.2 := hds
  obtain ⟨d0, hds⟩ := List.forall_mem_cons.mp hds
  have d0 : v_iv (n_v vs 9) + (-1) ≤ v_iv (n_v vs 11) ∧ v_iv (n_v vs 11) ≤ v_iv (n_v vs 9) + (-1) := d0
  have hf : fc_ok [(100, [7, 1, 11], []), (1, [11, 9, 10], []), (10, [9, 7, 1], []), (9, [7, 0], [3]), (8, [8], [1]), (10, [8, 7, 1], []), (20, [0], [50, 0, 2, 3, 4, 5, 2, 0, 4, 0, 5, 3, 0, 3, 7, 0, 3, 0, 4, 7, 0])] ta ws vs := hf
  obtain ⟨ta1, w1, le1, ⟨_, s1⟩, hf⟩ := fc_us (show ¬ (100 : Nat) < 100 from by decide) hf
  have s1 : (∀ b j, w_el ws b j = if b = v_ad (n_v vs 7) ∧ j = (v_iv (n_v vs 1)).toNat then v_iv (n_v vs 11) else w_el w1 b j) ∧ ∀ b k, w_fd ws b k = w_fd w1 b k := s1
  obtain ⟨f1, hf⟩ := fc_un (show (1 : Nat) < 100 from by decide) hf
  have f1 : v_iv (n_v vs 11) = v_iv (n_v vs 9) + v_iv (n_v vs 10) := f1
  obtain ⟨f2, hf⟩ := fc_un (show (10 : Nat) < 100 from by decide) hf
  have f2 : v_iv (n_v vs 9) = w_el w1 (v_ad (n_v vs 7)) (v_iv (n_v vs 1)).toNat := f2
  obtain ⟨f3, hf⟩ := fc_un (show (9 : Nat) < 100 from by decide) hf
  have f3 : n_v vs 7 = w_fd w1 (v_ad (n_v vs 0)) 3 := f3
  obtain ⟨f4, hf⟩ := fc_un (show (8 : Nat) < 100 from by decide) hf
  have f4 : v_iv (n_v vs 8) ≠ 0 := f4
  obtain ⟨f5, hf⟩ := fc_un (show (10 : Nat) < 100 from by decide) hf
  have f5 : v_iv (n_v vs 8) = w_el w1 (v_ad (n_v vs 7)) (v_iv (n_v vs 1)).toNat := f5
  obtain ⟨f6, hf⟩ := fc_un (show (20 : Nat) < 100 from by decide) hf
  have f6 : ∀ j0 : Int, 0 ≤ j0 → j0 < 4 → (w_ei w1 (w_ar w1 (n_v vs 0) 3) (j0) ≤ w_ei w1 (w_ar w1 (n_v vs 0) 4) (j0)) := f6
  have ar_0_3_1 : w_ar w1 (n_v vs 0) 3 = w_ar ws (n_v vs 0) 3 := by show v_ad (w_fd w1 _ _) = v_ad (w_fd ws _ _); rw [s1.2]
  have cr_0_3 : ta (w_ar ws (n_v vs 0) 3) = some 153 := tv_rg (th_fd hD hth r0 (g := GG_150) rfl (k := 3) (t := (2, 0, 0, [153])) rfl rfl)
  have ar_0_4_1 : w_ar w1 (n_v vs 0) 4 = w_ar ws (n_v vs 0) 4 := by show v_ad (w_fd w1 _ _) = v_ad (w_fd ws _ _); rw [s1.2]
  have cr_0_4 : ta (w_ar ws (n_v vs 0) 4) = some 154 := tv_rg (th_fd hD hth r0 (g := GG_150) rfl (k := 4) (t := (2, 0, 0, [154])) rfl rfl)
  have ad_7 : v_ad (n_v vs 7) = w_ar ws (n_v vs 0) 3 := (congrArg v_ad f3).trans ar_0_3_1
  rw [ad_7] at f2
  have h2 : v_iv (n_v vs 9) = w_ei w1 (w_ar ws (n_v vs 0) 3) (v_iv (n_v vs 1)) := f2
  rw [ad_7] at f5
  have h5 : v_iv (n_v vs 8) = w_ei w1 (w_ar ws (n_v vs 0) 3) (v_iv (n_v vs 1)) := f5
  rw [ar_0_3_1] at f6
  rw [ar_0_4_1] at f6
  have ee_0_3_1_1 : w_el ws (w_ar ws (n_v vs 0) 3) (v_iv (n_v vs 1)).toNat = v_iv (n_v vs 11) := by rw [s1.1, if_pos ⟨ad_7.symm, rfl⟩]
  have br_0_3_1_0 : w_ei ws (w_ar ws (n_v vs 0) 3) (v_iv (n_v vs 1)) = w_el ws (w_ar ws (n_v vs 0) 3) (v_iv (n_v vs 1)).toNat := rfl
  have br_0_3_1_1 : w_ei w1 (w_ar ws (n_v vs 0) 3) (v_iv (n_v vs 1)) = w_el w1 (w_ar ws (n_v vs 0) 3) (v_iv (n_v vs 1)).toNat := rfl
  have hE_0_3_1 : ∀ j : Int, 0 ≤ j → (j = v_iv (n_v vs 1) → w_ei ws (w_ar ws (n_v vs 0) 3) j = v_iv (n_v vs 11)) ∧ (j ≠ v_iv (n_v vs 1) → w_ei ws (w_ar ws (n_v vs 0) 3) j = w_ei w1 (w_ar ws (n_v vs 0) 3) j) := fun j hj => ⟨fun h => by unfold w_ei; rw [s1.1, if_pos ⟨ad_7.symm, by rw [h]⟩], fun h => by unfold w_ei; rw [s1.1, if_neg (fun e => h (by have := e.2; omega))]⟩
  have hK_0_3 : ∀ j : Int, 0 ≤ j → j < 4 → 0 ≤ w_ei ws (w_ar ws (n_v vs 0) 3) j ∧ w_ei ws (w_ar ws (n_v vs 0) 3) j ≤ 30 := fun j h0 h1 => th_el hD hth cr_0_3 (kd := 0) (n := 4) (m := 4) (lo := 0) (hi := 30) (rs := []) (L := []) rfl (by decide) (j := j.toNat) (by omega)
  have hE_0_4_1 : ∀ j : Int, w_ei ws (w_ar ws (n_v vs 0) 4) j = w_ei w1 (w_ar ws (n_v vs 0) 4) j := fun j => by unfold w_ei; rw [s1.1, if_neg (fun e => by have e1 := e.1; rw [← e1] at r7; rw [cr_0_4] at r7; exact absurd (Option.some.inj r7) (by decide))]
  have hK_0_4 : ∀ j : Int, 0 ≤ j → j < 4 → 0 ≤ w_ei ws (w_ar ws (n_v vs 0) 4) j ∧ w_ei ws (w_ar ws (n_v vs 0) 4) j ≤ 30 := fun j h0 h1 => th_el hD hth cr_0_4 (kd := 0) (n := 4) (m := 4) (lo := 0) (hi := 30) (rs := []) (L := []) rfl (by decide) (j := j.toNat) (by omega)
  have nf0 : fc_1 (20, [0], [50, 0, 2, 3, 4, 5, 2, 0, 4, 0, 5, 3, 0, 3, 7, 0, 3, 0, 4, 7, 0]) ws (vs) := by
    refine ⟨fun n hn => ?_, ?_⟩
    · have hn : n ∈ [0] := hn
      rw [hl]
      simp only [List.mem_cons, List.not_mem_nil, or_false] at hn
      show n < 12; omega
    · show ∀ j0 : Int, 0 ≤ j0 → j0 < 4 → (w_ei ws (w_ar ws (n_v vs 0) 3) (j0) ≤ w_ei ws (w_ar ws (n_v vs 0) 4) (j0))
      first | omega | grind
  refine ⟨(fun _ h => (by cases h)), [], trivial, ?_, (fun _ h => (by cases h))⟩
  rw [List.append_nil]
  exact List.forall_mem_cons.mpr ⟨⟨show (20 : Nat) < 100 from by decide, nf0⟩, (fun _ h => (by cases h))⟩
def n_Mo_back_an : List an_T := []
def t_Mo_back_ct : ct_L := [(0, 387, e_Mo_in), (0, 521, e_Mo_isPlace), (1, 524, e_Mo_changed)]
set_option maxRecDepth 100000 in
theorem c_Mo_back {l : Launch} {D : va_G} {kA : Nat → ClassId} (h_Mo_changed : ct_ok l D kA GG y_Mo_changed z_Mo_changed e_Mo_changed) (h_Mo_in : ct_ok l D kA GG y_Mo_in z_Mo_in e_Mo_in) (h_Mo_isPlace : ct_ok l D kA GG y_Mo_isPlace z_Mo_isPlace e_Mo_isPlace) : ct_ok l D kA GG y_Mo_back z_Mo_back e_Mo_back := chk_all_ok (FT := [(20, 13, 3), (23, 13, 4)]) (PT := []) (CT := t_Mo_back_ct) (KT := []) (NT := []) (AN := n_Mo_back_an) (OT := [o_Mo_back_0, o_Mo_back_1, o_Mo_back_2, o_Mo_back_3]) 0 288 (List.forall_mem_cons.mpr ⟨oo_Mo_back_0, List.forall_mem_cons.mpr ⟨oo_Mo_back_1, List.forall_mem_cons.mpr ⟨oo_Mo_back_2, List.forall_mem_cons.mpr ⟨oo_Mo_back_3, List.forall_mem_nil _⟩⟩⟩⟩) (by decide +kernel) ⟨List.forall_mem_cons.mpr ⟨gf_Mo_20, List.forall_mem_cons.mpr ⟨gf_Mo_23, List.forall_mem_nil _⟩⟩, List.forall_mem_nil _, List.forall_mem_cons.mpr ⟨cl_static (y := y_Mo_in) h_Mo_in wm_2971 wm_9 wm_2969 wm_2970 ⟨by decide, by decide, by decide +kernel⟩ (by decide), List.forall_mem_cons.mpr ⟨cl_static (y := y_Mo_isPlace) h_Mo_isPlace wm_2978 wm_9 wm_2976 wm_2977 ⟨by decide, by decide, by decide +kernel⟩ (by decide), List.forall_mem_cons.mpr ⟨cl_virtual (y := y_Mo_changed) (ci := 13) rfl rfl ⟨_, _, rfl⟩ (by decide +kernel) h_Mo_changed wm_3083 wm_9 wm_3080 wm_3082 wv_14_1 ⟨by decide, by decide, by decide +kernel⟩ (by decide), List.forall_mem_nil _⟩⟩⟩, List.forall_mem_nil _, List.forall_mem_nil _, GG_pl⟩ (by decide +kernel)
