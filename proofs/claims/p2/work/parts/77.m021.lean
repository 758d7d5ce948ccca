def o_Re_readEdges_0 : or_T := (25, 5, [(0, (2, 0, 0, [8]))], [(20, [0, 0], [30, 8, 1, 1, 6, -1, 1, 8]), (20, [0, 0], [30, 0, -1, 1, 6, 1, 1, 8])], [], [(0, -2147483648, 1000000, [])], [(20, [0, 5], [30, 0, 1, 1, 9, -1, 0, 0]), (20, [0, 5], [30, 0, -1, 1, 9, 1, 0, 0])], [], [])
theorem oo_Re_readEdges_0 {kA : Nat → ClassId} : or_ok kA GG o_Re_readEdges_0 := by
  intro A ta ws vs hD hth hl hk hds hf
  have hl : vs.length = 5 := hl
  have hk : ∀ q ∈ ([(0, (2, 0, 0, [8]))] : List (Nat × tv_T)), tv_ok ta q.2 (n_v vs q.1) := hk
  obtain ⟨t0, hk⟩ := List.forall_mem_cons.mp hk
  have t0 : tv_ok ta (2, 0, 0, [8]) (n_v vs 0) := t0
  have r0 : ta (v_ad (n_v vs 0)) = some 8 := tv_rg t0
  have hf : fc_ok [(20, [0, 0], [30, 8, 1, 1, 6, -1, 1, 8]), (20, [0, 0], [30, 0, -1, 1, 6, 1, 1, 8])] ta ws vs := hf
  obtain ⟨f0, hf⟩ := fc_un (show (20 : Nat) < 100 from by decide) hf
  have f0 : 1 * w_fi ws (n_v vs 0) 6 + ((-1) * w_fi ws (n_v vs 0) 8 + 0) ≤ 8 := f0
  obtain ⟨f1, hf⟩ := fc_un (show (20 : Nat) < 100 from by decide) hf
  have f1 : (-1) * w_fi ws (n_v vs 0) 6 + (1 * w_fi ws (n_v vs 0) 8 + 0) ≤ 0 := f1
  have kz_0_6 : 0 ≤ w_fi ws (n_v vs 0) 6 ∧ w_fi ws (n_v vs 0) 6 ≤ 2000 := tv_rng (th_fd hD hth r0 (g := GG_8) rfl (k := 6) (t := (0, 0, 2000, [])) rfl rfl)
  have kz_0_8 : 0 ≤ w_fi ws (n_v vs 0) 8 ∧ w_fi ws (n_v vs 0) 8 ≤ 2000 := tv_rng (th_fd hD hth r0 (g := GG_8) rfl (k := 8) (t := (0, 0, 2000, [])) rfl rfl)
  have kz_0_9 : (-2147483648) ≤ w_fi ws (n_v vs 0) 9 ∧ w_fi ws (n_v vs 0) 9 ≤ 1000000 := tv_rng (th_fd hD hth r0 (g := GG_8) rfl (k := 9) (t := (0, -2147483648, 1000000, [])) rfl rfl)
  have kv0 : (-2147483648) ≤ w_fi ws (n_v vs 0) 9 ∧ w_fi ws (n_v vs 0) 9 ≤ 1000000 := tv_rng (th_fd hD hth r0 (g := GG_8) rfl (k := 9) (t := (0, -2147483648, 1000000, [])) rfl rfl)
  obtain ⟨x, ex, hx⟩ := iv_ex (ta := ta) (lo := (-2147483648)) (hi := 1000000) (z := w_fi ws (n_v vs 0) 9) (by omega) (by omega) (by omega) (by omega)
  have ex2 : v_iv (Value.int x) = w_fi ws (n_v vs 0) 9 := ex
  have ex3 : (-2147483648) ≤ v_iv (Value.int x) ∧ v_iv (Value.int x) ≤ 1000000 := tv_rng hx
  have e_0 : n_v (vs ++ [Value.int x]) 0 = n_v vs 0 := n_v_old (by rw [hl]; decide)
  have e_5 : n_v (vs ++ [Value.int x]) 5 = Value.int x := n_v_new hl
  have nf0 : fc_1 (20, [0, 5], [30, 0, 1, 1, 9, -1, 0, 0]) ws (vs ++ [Value.int x]) := by
    refine ⟨fun n hn => ?_, ?_⟩
    · have hn : n ∈ [0, 5] := hn
      rw [List.length_append, hl]
      simp only [List.mem_cons, List.not_mem_nil, or_false] at hn
      show n < 5 + 1; omega
    · show 1 * w_fi ws (n_v (vs ++ [Value.int x]) 0) 9 + ((-1) * v_iv (n_v (vs ++ [Value.int x]) 5) + 0) ≤ 0
      rw [e_0]
      rw [e_5]
      omega
  have nf1 : fc_1 (20, [0, 5], [30, 0, -1, 1, 9, 1, 0, 0]) ws (vs ++ [Value.int x]) := by
    refine ⟨fun n hn => ?_, ?_⟩
    · have hn : n ∈ [0, 5] := hn
      rw [List.length_append, hl]
      simp only [List.mem_cons, List.not_mem_nil, or_false] at hn
      show n < 5 + 1; omega
    · show (-1) * w_fi ws (n_v (vs ++ [Value.int x]) 0) 9 + (1 * v_iv (n_v (vs ++ [Value.int x]) 5) + 0) ≤ 0
      rw [e_0]
      rw [e_5]
      omega
  exact ⟨(fun _ h => (by cases h)), [Value.int x], ag_one hx, List.forall_mem_cons.mpr ⟨⟨show (20 : Nat) < 100 from by decide, nf0⟩, List.forall_mem_cons.mpr ⟨⟨show (20 : Nat) < 100 from by decide, nf1⟩, (fun _ h => (by cases h))⟩⟩, (fun _ h => (by cases h))⟩
def o_Re_readEdges_1 : or_T := (223, 10, [(0, (2, 0, 0, [8])), (8, (0, 9, 9, [])), (9, (0, 1, 1, []))], [(8, [9], [1]), (20, [9, 0, 8], [31, 1, 0, 1, 0, 0, 0, 1, 1, 9, -1, 0, 0]), (20, [9, 0], [31, 1, 0, 1, 0, 0, -1, -1, 1, 9])], [], [], [(20, [0], [30, 9, 1, 1, 9]), (20, [0], [30, -1, -1, 1, 9])], [], [])
theorem oo_Re_readEdges_1 {kA : Nat → ClassId} : or_ok kA GG o_Re_readEdges_1 := by
  intro A ta ws vs hD hth hl hk hds hf
  have hl : vs.length = 10 := hl
  have hk : ∀ q ∈ ([(0, (2, 0, 0, [8])), (8, (0, 9, 9, [])), (9, (0, 1, 1, []))] : List (Nat × tv_T)), tv_ok ta q.2 (n_v vs q.1) := hk
  obtain ⟨t0, hk⟩ := List.forall_mem_cons.mp hk
  have t0 : tv_ok ta (2, 0, 0, [8]) (n_v vs 0) := t0
  have r0 : ta (v_ad (n_v vs 0)) = some 8 := tv_rg t0
  obtain ⟨t8, hk⟩ := List.forall_mem_cons.mp hk
  have t8 : tv_ok ta (0, 9, 9, []) (n_v vs 8) := t8
  have k8 : 9 ≤ v_iv (n_v vs 8) ∧ v_iv (n_v vs 8) ≤ 9 := tv_rng t8
  obtain ⟨t9, hk⟩ := List.forall_mem_cons.mp hk
  have t9 : tv_ok ta (0, 1, 1, []) (n_v vs 9) := t9
  have k9 : 1 ≤ v_iv (n_v vs 9) ∧ v_iv (n_v vs 9) ≤ 1 := tv_rng t9
  have hf : fc_ok [(8, [9], [1]), (20, [9, 0, 8], [31, 1, 0, 1, 0, 0, 0, 1, 1, 9, -1, 0, 0]), (20, [9, 0], [31, 1, 0, 1, 0, 0, -1, -1, 1, 9])] ta ws vs := hf
  obtain ⟨f0, hf⟩ := fc_un (show (8 : Nat) < 100 from by decide) hf
  have f0 : v_iv (n_v vs 9) ≠ 0 := f0
  obtain ⟨f1, hf⟩ := fc_un (show (20 : Nat) < 100 from by decide) hf
  have f1 : (1 * v_iv (n_v vs 9) + 0 ≤ 0) ∨ (1 * w_fi ws (n_v vs 0) 9 + ((-1) * v_iv (n_v vs 8) + 0) ≤ 0) := f1
  obtain ⟨f2, hf⟩ := fc_un (show (20 : Nat) < 100 from by decide) hf
  have f2 : (1 * v_iv (n_v vs 9) + 0 ≤ 0) ∨ ((-1) * w_fi ws (n_v vs 0) 9 + 0 ≤ (-1)) := f2
  have kz_0_9 : (-2147483648) ≤ w_fi ws (n_v vs 0) 9 ∧ w_fi ws (n_v vs 0) 9 ≤ 1000000 := tv_rng (th_fd hD hth r0 (g := GG_8) rfl (k := 9) (t := (0, -2147483648, 1000000, [])) rfl rfl)
  have nf0 : fc_1 (20, [0], [30, 9, 1, 1, 9]) ws (vs) := by
    refine ⟨fun n hn => ?_, ?_⟩
    · have hn : n ∈ [0] := hn
      rw [hl]
      simp only [List.mem_cons, List.not_mem_nil, or_false] at hn
      show n < 10; omega
    · show 1 * w_fi ws (n_v vs 0) 9 + 0 ≤ 9
      omega
  have nf1 : fc_1 (20, [0], [30, -1, -1, 1, 9]) ws (vs) := by
    refine ⟨fun n hn => ?_, ?_⟩
    · have hn : n ∈ [0] := hn
      rw [hl]
      simp only [List.mem_cons, List.not_mem_nil, or_false] at hn
      show n < 10; omega
    · show (-1) * w_fi ws (n_v vs 0) 9 + 0 ≤ (-1)
      omega
  refine ⟨(fun _ h => (by cases h)), [], trivial, ?_, (fun _ h => (by cases h))⟩
  rw [List.append_nil]
  exact List.forall_mem_cons.mpr ⟨⟨show (20 : Nat) < 100 from by decide, nf0⟩, List.forall_mem_cons.mpr ⟨⟨show (20 : Nat) < 100 from by decide, nf1⟩, (fun _ h => (by cases h))⟩⟩
def o_Re_readEdges_2 : or_T := (95, 9, [(0, (2, 0, 0, [8]))], [], [], [(0, -2147483648, 1000000, [])], [(20, [0, 9], [30, 0, 1, 1, 9, -1, 0, 0]), (20, [0, 9], [30, 0, -1, 1, 9, 1, 0, 0])], [], [])
theorem oo_Re_readEdges_2 {kA : Nat → ClassId} : or_ok kA GG o_Re_readEdges_2 := by
  intro A ta ws vs hD hth hl hk hds hf
  have hl : vs.length = 9 := hl
  have hk : ∀ q ∈ ([(0, (2, 0, 0, [8]))] : List (Nat × tv_T)), tv_ok ta q.2 (n_v vs q.1) := hk
  obtain ⟨t0, hk⟩ := List.forall_mem_cons.mp hk
  have t0 : tv_ok ta (2, 0, 0, [8]) (n_v vs 0) := t0
  have r0 : ta (v_ad (n_v vs 0)) = some 8 := tv_rg t0
  have kz_0_9 : (-2147483648) ≤ w_fi ws (n_v vs 0) 9 ∧ w_fi ws (n_v vs 0) 9 ≤ 1000000 := tv_rng (th_fd hD hth r0 (g := GG_8) rfl (k := 9) (t := (0, -2147483648, 1000000, [])) rfl rfl)
  have kv0 : (-2147483648) ≤ w_fi ws (n_v vs 0) 9 ∧ w_fi ws (n_v vs 0) 9 ≤ 1000000 := tv_rng (th_fd hD hth r0 (g := GG_8) rfl (k := 9) (t := (0, -2147483648, 1000000, [])) rfl rfl)
  obtain ⟨x, ex, hx⟩ := iv_ex (ta := ta) (lo := (-2147483648)) (hi := 1000000) (z := w_fi ws (n_v vs 0) 9) (by omega) (by omega) (by omega) (by omega)
  have ex2 : v_iv (Value.int x) = w_fi ws (n_v vs 0) 9 := ex
  have ex3 : (-2147483648) ≤ v_iv (Value.int x) ∧ v_iv (Value.int x) ≤ 1000000 := tv_rng hx
  have e_0 : n_v (vs ++ [Value.int x]) 0 = n_v vs 0 := n_v_old (by rw [hl]; decide)
  have e_9 : n_v (vs ++ [Value.int x]) 9 = Value.int x := n_v_new hl
  have nf0 : fc_1 (20, [0, 9], [30, 0, 1, 1, 9, -1, 0, 0]) ws (vs ++ [Value.int x]) := by
    refine ⟨fun n hn => ?_, ?_⟩
    · have hn : n ∈ [0, 9] := hn
      rw [List.length_append, hl]
      simp only [List.mem_cons, List.not_mem_nil, or_false] at hn
      show n < 9 + 1; omega
    · show 1 * w_fi ws (n_v (vs ++ [Value.int x]) 0) 9 + ((-1) * v_iv (n_v (vs ++ [Value.int x]) 9) + 0) ≤ 0
      rw [e_0]
      rw [e_9]
      omega
  have nf1 : fc_1 (20, [0, 9], [30, 0, -1, 1, 9, 1, 0, 0]) ws (vs ++ [Value.int x]) := by
    refine ⟨fun n hn => ?_, ?_⟩
    · have hn : n ∈ [0, 9] := hn
      rw [List.length_append, hl]
      simp only [List.mem_cons, List.not_mem_nil, or_false] at hn
      show n < 9 + 1; omega
    · show (-1) * w_fi ws (n_v (vs ++ [Value.int x]) 0) 9 + (1 * v_iv (n_v (vs ++ [Value.int x]) 9) + 0) ≤ 0
      rw [e_0]
      rw [e_9]
      omega
  exact ⟨(fun _ h => (by cases h)), [Value.int x], ag_one hx, List.forall_mem_cons.mpr ⟨⟨show (20 : Nat) < 100 from by decide, nf0⟩, List.forall_mem_cons.mpr ⟨⟨show (20 : Nat) < 100 from by decide, nf1⟩, (fun _ h => (by cases h))⟩⟩, (fun _ h => (by cases h))⟩
def o_Re_readEdges_3 : or_T := (112, 11, [(0, (2, 0, 0, [8])), (9, (0, -2147483648, 1000000, [])), (10, (0, 1, 1, []))], [(8, [10], [1]), (20, [0, 0, 9], [31, 1, 3, 1, 1, 7, 0, 1, 1, 9, -1, 0, 0]), (20, [0, 0, 9], [31, 1, 3, 1, 1, 7, 0, -1, 1, 9, 1, 0, 0]), (20, [0, 0, 0, 0], [31, 1, -3, -1, 1, 7, 4008, 1, 1, 6, -1, 1, 8, 2000, 1, 7]), (20, [0, 0], [30, 0, 1, 1, 8, -1, 1, 6]), (20, [0, 0, 10], [30, 2008, 1, 1, 6, -1, 1, 8, 2000, 0, 0])], [], [], [(20, [0, 0], [30, 8, 1, 1, 6, -1, 1, 8]), (20, [0, 0], [30, 0, -1, 1, 6, 1, 1, 8])], [], [])
theorem oo_Re_readEdges_3 {kA : Nat → ClassId} : or_ok kA GG o_Re_readEdges_3 := by
  intro A ta ws vs hD hth hl hk hds hf
  have hl : vs.length = 11 := hl
  have hk : ∀ q ∈ ([(0, (2, 0, 0, [8])), (9, (0, -2147483648, 1000000, [])), (10, (0, 1, 1, []))] : List (Nat × tv_T)), tv_ok ta q.2 (n_v vs q.1) := hk
  obtain ⟨t0, hk⟩ := List.forall_mem_cons.mp hk
  have t0 : tv_ok ta (2, 0, 0, [8]) (n_v vs 0) := t0
  have r0 : ta (v_ad (n_v vs 0)) = some 8 := tv_rg t0
  obtain ⟨t9, hk⟩ := List.forall_mem_cons.mp hk
  have t9 : tv_ok ta (0, -2147483648, 1000000, []) (n_v vs 9) := t9
  have k9 : (-2147483648) ≤ v_iv (n_v vs 9) ∧ v_iv (n_v vs 9) ≤ 1000000 := tv_rng t9
  obtain ⟨t10, hk⟩ := List.forall_mem_cons.mp hk
  have t10 : tv_ok ta (0, 1, 1, []) (n_v vs 10) := t10
  have k10 : 1 ≤ v_iv (n_v vs 10) ∧ v_iv (n_v vs 10) ≤ 1 := tv_rng t10
  have hf : fc_ok [(8, [10], [1]), (20, [0, 0, 9], [31, 1, 3, 1, 1, 7, 0, 1, 1, 9, -1, 0, 0]), (20, [0, 0, 9], [31, 1, 3, 1, 1, 7, 0, -1, 1, 9, 1, 0, 0]), (20, [0, 0, 0, 0], [31, 1, -3, -1, 1, 7, 4008, 1, 1, 6, -1, 1, 8, 2000, 1, 7]), (20, [0, 0], [30, 0, 1, 1, 8, -1, 1, 6]), (20, [0, 0, 10], [30, 2008, 1, 1, 6, -1, 1, 8, 2000, 0, 0])] ta ws vs := hf
  obtain ⟨f0, hf⟩ := fc_un (show (8 : Nat) < 100 from by decide) hf
  have f0 : v_iv (n_v vs 10) ≠ 0 := f0
  obtain ⟨f1, hf⟩ := fc_un (show (20 : Nat) < 100 from by decide) hf
  have f1 : (1 * w_fi ws (n_v vs 0) 7 + 0 ≤ 3) ∨ (1 * w_fi ws (n_v vs 0) 9 + ((-1) * v_iv (n_v vs 9) + 0) ≤ 0) := f1
  obtain ⟨f2, hf⟩ := fc_un (show (20 : Nat) < 100 from by decide) hf
  have f2 : (1 * w_fi ws (n_v vs 0) 7 + 0 ≤ 3) ∨ ((-1) * w_fi ws (n_v vs 0) 9 + (1 * v_iv (n_v vs 9) + 0) ≤ 0) := f2
  obtain ⟨f3, hf⟩ := fc_un (show (20 : Nat) < 100 from by decide) hf
  have f3 : ((-1) * w_fi ws (n_v vs 0) 7 + 0 ≤ (-3)) ∨ (1 * w_fi ws (n_v vs 0) 6 + ((-1) * w_fi ws (n_v vs 0) 8 + (2000 * w_fi ws (n_v vs 0) 7 + 0)) ≤ 4008) := f3
  obtain ⟨f4, hf⟩ := fc_un (show (20 : Nat) < 100 from by decide) hf
  have f4 : 1 * w_fi ws (n_v vs 0) 8 + ((-1) * w_fi ws (n_v vs 0) 6 + 0) ≤ 0 := f4
  obtain ⟨f5, hf⟩ := fc_un (show (20 : Nat) < 100 from by decide) hf
  have f5 : 1 * w_fi ws (n_v vs 0) 6 + ((-1) * w_fi ws (n_v vs 0) 8 + (2000 * v_iv (n_v vs 10) + 0)) ≤ 2008 := f5
  have kz_0_6 : 0 ≤ w_fi ws (n_v vs 0) 6 ∧ w_fi ws (n_v vs 0) 6 ≤ 2000 := tv_rng (th_fd hD hth r0 (g := GG_8) rfl (k := 6) (t := (0, 0, 2000, [])) rfl rfl)
  have kz_0_7 : (-128) ≤ w_fi ws (n_v vs 0) 7 ∧ w_fi ws (n_v vs 0) 7 ≤ 127 := tv_rng (th_fd hD hth r0 (g := GG_8) rfl (k := 7) (t := (0, -128, 127, [])) rfl rfl)
  have kz_0_8 : 0 ≤ w_fi ws (n_v vs 0) 8 ∧ w_fi ws (n_v vs 0) 8 ≤ 2000 := tv_rng (th_fd hD hth r0 (g := GG_8) rfl (k := 8) (t := (0, 0, 2000, [])) rfl rfl)
  have kz_0_9 : (-2147483648) ≤ w_fi ws (n_v vs 0) 9 ∧ w_fi ws (n_v vs 0) 9 ≤ 1000000 := tv_rng (th_fd hD hth r0 (g := GG_8) rfl (k := 9) (t := (0, -2147483648, 1000000, [])) rfl rfl)
  have nf0 : fc_1 (20, [0, 0], [30, 8, 1, 1, 6, -1, 1, 8]) ws (vs) := by
    refine ⟨fun n hn => ?_, ?_⟩
    · have hn : n ∈ [0, 0] := hn
      rw [hl]
      simp only [List.mem_cons, List.not_mem_nil, or_false] at hn
      show n < 11; omega
    · show 1 * w_fi ws (n_v vs 0) 6 + ((-1) * w_fi ws (n_v vs 0) 8 + 0) ≤ 8
      omega
  have nf1 : fc_1 (20, [0, 0], [30, 0, -1, 1, 6, 1, 1, 8]) ws (vs) := by
    refine ⟨fun n hn => ?_, ?_⟩
    · have hn : n ∈ [0, 0] := hn
      rw [hl]
      simp only [List.mem_cons, List.not_mem_nil, or_false] at hn
      show n < 11; omega
    · show (-1) * w_fi ws (n_v vs 0) 6 + (1 * w_fi ws (n_v vs 0) 8 + 0) ≤ 0
      omega
  refine ⟨(fun _ h => (by cases h)), [], trivial, ?_, (fun _ h => (by cases h))⟩
  rw [List.append_nil]
  exact List.forall_mem_cons.mpr ⟨⟨show (20 : Nat) < 100 from by decide, nf0⟩, List.forall_mem_cons.mpr ⟨⟨show (20 : Nat) < 100 from by decide, nf1⟩, (fun _ h => (by cases h))⟩⟩
def o_Re_readEdges_4 : or_T := (190, 20, [(0, (2, 0, 0, [8])), (9, (0, -2147483648, 1000000, [])), (10, (0, 1, 1, []))], [(20, [0, 0], [30, 8, 1, 1, 6, -1, 1, 8]), (20, [0, 0], [30, 0, -1, 1, 6, 1, 1, 8]), (20, [0, 0, 9], [31, 1, 3, 1, 1, 7, 0, 1, 1, 9, -1, 0, 0]), (20, [0, 0, 9], [31, 1, 3, 1, 1, 7, 0, -1, 1, 9, 1, 0, 0]), (20, [0, 0, 0, 0], [31, 1, -3, -1, 1, 7, 4008, 1, 1, 6, -1, 1, 8, 2000, 1, 7]), (20, [0, 0], [30, 0, 1, 1, 8, -1, 1, 6]), (20, [0, 0, 10], [30, 2008, 1, 1, 6, -1, 1, 8, 2000, 0, 0]), (102, [18], [1796936251320827904, 3001]), (102, [10], [580682876954083328, 3000]), (8, [10], [1])], [], [(0, -2147483648, 1000000, [])], [(20, [0, 20], [30, 0, 1, 1, 9, -1, 0, 0]), (20, [0, 20], [30, 0, -1, 1, 9, 1, 0, 0])], [], [])
theorem oo_Re_readEdges_4 {kA : Nat → ClassId} : or_ok kA GG o_Re_readEdges_4 := by
  intro A ta ws vs hD hth hl hk hds hf
  have hl : vs.length = 20 := hl
  have hk : ∀ q ∈ ([(0, (2, 0, 0, [8])), (9, (0, -2147483648, 1000000, [])), (10, (0, 1, 1, []))] : List (Nat × tv_T)), tv_ok ta q.2 (n_v vs q.1) := hk
  obtain ⟨t0, hk⟩ := List.forall_mem_cons.mp hk
  have t0 : tv_ok ta (2, 0, 0, [8]) (n_v vs 0) := t0
  have r0 : ta (v_ad (n_v vs 0)) = some 8 := tv_rg t0
  obtain ⟨t9, hk⟩ := List.forall_mem_cons.mp hk
  have t9 : tv_ok ta (0, -2147483648, 1000000, []) (n_v vs 9) := t9
  have k9 : (-2147483648) ≤ v_iv (n_v vs 9) ∧ v_iv (n_v vs 9) ≤ 1000000 := tv_rng t9
  obtain ⟨t10, hk⟩ := List.forall_mem_cons.mp hk
  have t10 : tv_ok ta (0, 1, 1, []) (n_v vs 10) := t10
  have k10 : 1 ≤ v_iv (n_v vs 10) ∧ v_iv (n_v vs 10) ≤ 1 := tv_rng t10
  have hf : fc_ok [(20, [0, 0], [30, 8, 1, 1, 6, -1, 1, 8]), (20, [0, 0], [30, 0, -1, 1, 6, 1, 1, 8]), (20, [0, 0, 9], [31, 1, 3, 1, 1, 7, 0, 1, 1, 9, -1, 0, 0]), (20, [0, 0, 9], [31, 1, 3, 1, 1, 7, 0, -1, 1, 9, 1, 0, 0]), (20, [0, 0, 0, 0], [31, 1, -3, -1, 1, 7, 4008, 1, 1, 6, -1, 1, 8, 2000, 1, 7]), (20, [0, 0], [30, 0, 1, 1, 8, -1, 1, 6]), (20, [0, 0, 10], [30, 2008, 1, 1, 6, -1, 1, 8, 2000, 0, 0]), (102, [18], [1796936251320827904, 3001]), (102, [10], [580682876954083328, 3000]), (8, [10], [1])] ta ws vs := hf
  obtain ⟨f0, hf⟩ := fc_un (show (20 : Nat) < 100 from by decide) hf
  have f0 : 1 * w_fi ws (n_v vs 0) 6 + ((-1) * w_fi ws (n_v vs 0) 8 + 0) ≤ 8 := f0
  obtain ⟨f1, hf⟩ := fc_un (show (20 : Nat) < 100 from by decide) hf
  have f1 : (-1) * w_fi ws (n_v vs 0) 6 + (1 * w_fi ws (n_v vs 0) 8 + 0) ≤ 0 := f1
  obtain ⟨f2, hf⟩ := fc_un (show (20 : Nat) < 100 from by decide) hf
  have f2 : (1 * w_fi ws (n_v vs 0) 7 + 0 ≤ 3) ∨ (1 * w_fi ws (n_v vs 0) 9 + ((-1) * v_iv (n_v vs 9) + 0) ≤ 0) := f2
  obtain ⟨f3, hf⟩ := fc_un (show (20 : Nat) < 100 from by decide) hf
  have f3 : (1 * w_fi ws (n_v vs 0) 7 + 0 ≤ 3) ∨ ((-1) * w_fi ws (n_v vs 0) 9 + (1 * v_iv (n_v vs 9) + 0) ≤ 0) := f3
  obtain ⟨f4, hf⟩ := fc_un (show (20 : Nat) < 100 from by decide) hf
  have f4 : ((-1) * w_fi ws (n_v vs 0) 7 + 0 ≤ (-3)) ∨ (1 * w_fi ws (n_v vs 0) 6 + ((-1) * w_fi ws (n_v vs 0) 8 + (2000 * w_fi ws (n_v vs 0) 7 + 0)) ≤ 4008) := f4
  obtain ⟨f5, hf⟩ := fc_un (show (20 : Nat) < 100 from by decide) hf
  have f5 : 1 * w_fi ws (n_v vs 0) 8 + ((-1) * w_fi ws (n_v vs 0) 6 + 0) ≤ 0 := f5
  obtain ⟨f6, hf⟩ := fc_un (show (20 : Nat) < 100 from by decide) hf
  have f6 : 1 * w_fi ws (n_v vs 0) 6 + ((-1) * w_fi ws (n_v vs 0) 8 + (2000 * v_iv (n_v vs 10) + 0)) ≤ 2008 := f6
  obtain ⟨ta1, w1, le1, ⟨_, s1⟩, hf⟩ := fc_us (show ¬ (102 : Nat) < 100 from by decide) hf
  obtain ⟨ta2, w2, le2, ⟨_, s2⟩, hf⟩ := fc_us (show ¬ (102 : Nat) < 100 from by decide) hf
  obtain ⟨f9, hf⟩ := fc_un (show (8 : Nat) < 100 from by decide) hf
  have f9 : v_iv (n_v vs 10) ≠ 0 := f9
  have kz_0_6 : 0 ≤ w_fi ws (n_v vs 0) 6 ∧ w_fi ws (n_v vs 0) 6 ≤ 2000 := tv_rng (th_fd hD hth r0 (g := GG_8) rfl (k := 6) (t := (0, 0, 2000, [])) rfl rfl)
  have kz_0_7 : (-128) ≤ w_fi ws (n_v vs 0) 7 ∧ w_fi ws (n_v vs 0) 7 ≤ 127 := tv_rng (th_fd hD hth r0 (g := GG_8) rfl (k := 7) (t := (0, -128, 127, [])) rfl rfl)
  have kz_0_8 : 0 ≤ w_fi ws (n_v vs 0) 8 ∧ w_fi ws (n_v vs 0) 8 ≤ 2000 := tv_rng (th_fd hD hth r0 (g := GG_8) rfl (k := 8) (t := (0, 0, 2000, [])) rfl rfl)
  have kz_0_9 : (-2147483648) ≤ w_fi ws (n_v vs 0) 9 ∧ w_fi ws (n_v vs 0) 9 ≤ 1000000 := tv_rng (th_fd hD hth r0 (g := GG_8) rfl (k := 9) (t := (0, -2147483648, 1000000, [])) rfl rfl)
  have kv0 : (-2147483648) ≤ w_fi ws (n_v vs 0) 9 ∧ w_fi ws (n_v vs 0) 9 ≤ 1000000 := tv_rng (th_fd hD hth r0 (g := GG_8) rfl (k := 9) (t := (0, -2147483648, 1000000, [])) rfl rfl)
  obtain ⟨x, ex, hx⟩ := iv_ex (ta := ta) (lo := (-2147483648)) (hi := 1000000) (z := w_fi ws (n_v vs 0) 9) (by omega) (by omega) (by omega) (by omega)
  have ex2 : v_iv (Value.int x) = w_fi ws (n_v vs 0) 9 := ex
  have ex3 : (-2147483648) ≤ v_iv (Value.int x) ∧ v_iv (Value.int x) ≤ 1000000 := tv_rng hx
  have e_0 : n_v (vs ++ [Value.int x]) 0 = n_v vs 0 := n_v_old (by rw [hl]; decide)
  have e_20 : n_v (vs ++ [Value.int x]) 20 = Value.int x := n_v_new hl
  have nf0 : fc_1 (20, [0, 20], [30, 0, 1, 1, 9, -1, 0, 0]) ws (vs ++ [Value.int x]) := by
    refine ⟨fun n hn => ?_, ?_⟩
    · have hn : n ∈ [0, 20] := hn
      rw [List.length_append, hl]
      simp only [List.mem_cons, List.not_mem_nil, or_false] at hn
      show n < 20 + 1; omega
    · show 1 * w_fi ws (n_v (vs ++ [Value.int x]) 0) 9 + ((-1) * v_iv (n_v (vs ++ [Value.int x]) 20) + 0) ≤ 0
      rw [e_0]
      rw [e_20]
      omega
  have nf1 : fc_1 (20, [0, 20], [30, 0, -1, 1, 9, 1, 0, 0]) ws (vs ++ [Value.int x]) := by
    refine ⟨fun n hn => ?_, ?_⟩
    · have hn : n ∈ [0, 20] := hn
      rw [List.length_append, hl]
      simp only [List.mem_cons, List.not_mem_nil, or_false] at hn
      show n < 20 + 1; omega
    · show (-1) * w_fi ws (n_v (vs ++ [Value.int x]) 0) 9 + (1 * v_iv (n_v (vs ++ [Value.int x]) 20) + 0) ≤ 0
      rw [e_0]
      rw [e_20]
      omega
  exact ⟨(fun _ h => (by cases h)), [Value.int x], ag_one hx, List.forall_mem_cons.mpr ⟨⟨show (20 : Nat) < 100 from by decide, nf0⟩, List.forall_mem_cons.mpr ⟨⟨show (20 : Nat) < 100 from by decide, nf1⟩, (fun _ h => (by cases h))⟩⟩, (fun _ h => (by cases h))⟩
def o_Re_readEdges_5 : or_T := (223, 12, [(0, (2, 0, 0, [8])), (10, (0, 9, 9, [])), (11, (0, 1, 1, []))], [(8, [11], [1]), (20, [11, 0, 10], [31, 1, 0, 1, 0, 0, 0, 1, 1, 9, -1, 0, 0]), (20, [11, 0], [31, 1, 0, 1, 0, 0, -1, -1, 1, 9])], [], [], [(20, [0], [30, 9, 1, 1, 9]), (20, [0], [30, -1, -1, 1, 9])], [], [])
theorem oo_Re_readEdges_5 {kA : Nat → ClassId} : or_ok kA GG o_Re_readEdges_5 := by
  intro A ta ws vs hD hth hl hk hds hf
  have hl : vs.length = 12 := hl
  have hk : ∀ q ∈ ([(0, (2, 0, 0, [8])), (10, (0, 9, 9, [])), (11, (0, 1, 1, []))] : List (Nat × tv_T)), tv_ok ta q.2 (n_v vs q.1) := hk
  obtain ⟨t0, hk⟩ := List.forall_mem_cons.mp hk
  have t0 : tv_ok ta (2, 0, 0, [8]) (n_v vs 0) := t0
  have r0 : ta (v_ad (n_v vs 0)) = some 8 := tv_rg t0
  obtain ⟨t10, hk⟩ := List.forall_mem_cons.mp hk
  have t10 : tv_ok ta (0, 9, 9, []) (n_v vs 10) := t10
  have k10 : 9 ≤ v_iv (n_v vs 10) ∧ v_iv (n_v vs 10) ≤ 9 := tv_rng t10
  obtain ⟨t11, hk⟩ := List.forall_mem_cons.mp hk
  have t11 : tv_ok ta (0, 1, 1, []) (n_v vs 11) := t11
  have k11 : 1 ≤ v_iv (n_v vs 11) ∧ v_iv (n_v vs 11) ≤ 1 := tv_rng t11
  have hf : fc_ok [(8, [11], [1]), (20, [11, 0, 10], [31, 1, 0, 1, 0, 0, 0, 1, 1, 9, -1, 0, 0]), (20, [11, 0], [31, 1, 0, 1, 0, 0, -1, -1, 1, 9])] ta ws vs := hf
  obtain ⟨f0, hf⟩ := fc_un (show (8 : Nat) < 100 from by decide) hf
  have f0 : v_iv (n_v vs 11) ≠ 0 := f0
  obtain ⟨f1, hf⟩ := fc_un (show (20 : Nat) < 100 from by decide) hf
  have f1 : (1 * v_iv (n_v vs 11) + 0 ≤ 0) ∨ (1 * w_fi ws (n_v vs 0) 9 + ((-1) * v_iv (n_v vs 10) + 0) ≤ 0) := f1
  obtain ⟨f2, hf⟩ := fc_un (show (20 : Nat) < 100 from by decide) hf
  have f2 : (1 * v_iv (n_v vs 11) + 0 ≤ 0) ∨ ((-1) * w_fi ws (n_v vs 0) 9 + 0 ≤ (-1)) := f2
  have kz_0_9 : (-2147483648) ≤ w_fi ws (n_v vs 0) 9 ∧ w_fi ws (n_v vs 0) 9 ≤ 1000000 := tv_rng (th_fd hD hth r0 (g := GG_8) rfl (k := 9) (t := (0, -2147483648, 1000000, [])) rfl rfl)
  have nf0 : fc_1 (20, [0], [30, 9, 1, 1, 9]) ws (vs) := by
    refine ⟨fun n hn => ?_, ?_⟩
    · have hn : n ∈ [0] := hn
      rw [hl]
      simp only [List.mem_cons, List.not_mem_nil, or_false] at hn
      show n < 12; omega
    · show 1 * w_fi ws (n_v vs 0) 9 + 0 ≤ 9
      omega
  have nf1 : fc_1 (20, [0], [30, -1, -1, 1, 9]) ws (vs) := by
    refine ⟨fun n hn => ?_, ?_⟩
    · have hn : n ∈ [0] := hn
      rw [hl]
      simp only [List.mem_cons, List.not_mem_nil, or_false] at hn
      show n < 12; omega
    · show (-1) * w_fi ws (n_v vs 0) 9 + 0 ≤ (-1)
      omega
  refine ⟨(fun _ h => (by cases h)), [], trivial, ?_, (fun _ h => (by cases h))⟩
  rw [List.append_nil]
  exact List.forall_mem_cons.mpr ⟨⟨show (20 : Nat) < 100 from by decide, nf0⟩, List.forall_mem_cons.mpr ⟨⟨show (20 : Nat) < 100 from by decide, nf1⟩, (fun _ h => (by cases h))⟩⟩
def o_Re_readEdges_6 : or_T := (95, 10, [(0, (2, 0, 0, [8]))], [], [], [(0, -2147483648, 1000000, [])], [(20, [0, 10], [30, 0, 1, 1, 9, -1, 0, 0]), (20, [0, 10], [30, 0, -1, 1, 9, 1, 0, 0])], [], [])
theorem oo_Re_readEdges_6 {kA : Nat → ClassId} : or_ok kA GG o_Re_readEdges_6 := by
  intro A ta ws vs hD hth hl hk hds hf
  have hl : vs.length = 10 := hl
  have hk : ∀ q ∈ ([(0, (2, 0, 0, [8]))] : List (Nat × tv_T)), tv_ok ta q.2 (n_v vs q.1) := hk
  obtain ⟨t0, hk⟩ := List.forall_mem_cons.mp hk
  have t0 : tv_ok ta (2, 0, 0, [8]) (n_v vs 0) := t0
  have r0 : ta (v_ad (n_v vs 0)) = some 8 := tv_rg t0
  have kz_0_9 : (-2147483648) ≤ w_fi ws (n_v vs 0) 9 ∧ w_fi ws (n_v vs 0) 9 ≤ 1000000 := tv_rng (th_fd hD hth r0 (g := GG_8) rfl (k := 9) (t := (0, -2147483648, 1000000, [])) rfl rfl)
  have kv0 : (-2147483648) ≤ w_fi ws (n_v vs 0) 9 ∧ w_fi ws (n_v vs 0) 9 ≤ 1000000 := tv_rng (th_fd hD hth r0 (g := GG_8) rfl (k := 9) (t := (0, -2147483648, 1000000, [])) rfl rfl)
  obtain ⟨x, ex, hx⟩ := iv_ex (ta := ta) (lo := (-2147483648)) (hi := 1000000) (z := w_fi ws (n_v vs 0) 9) (by omega) (by omega) (by omega) (by omega)
  have ex2 : v_iv (Value.int x) = w_fi ws (n_v vs 0) 9 := ex
  have ex3 : (-2147483648) ≤ v_iv (Value.int x) ∧ v_iv (Value.int x) ≤ 1000000 := tv_rng hx
  have e_0 : n_v (vs ++ [Value.int x]) 0 = n_v vs 0 := n_v_old (by rw [hl]; decide)
  have e_10 : n_v (vs ++ [Value.int x]) 10 = Value.int x := n_v_new hl
  have nf0 : fc_1 (20, [0, 10], [30, 0, 1, 1, 9, -1, 0, 0]) ws (vs ++ [Value.int x]) := by
    refine ⟨fun n hn => ?_, ?_⟩
    · have hn : n ∈ [0, 10] := hn
      rw [List.length_append, hl]
      simp only [List.mem_cons, List.not_mem_nil, or_false] at hn
      show n < 10 + 1; omega
    · show 1 * w_fi ws (n_v (vs ++ [Value.int x]) 0) 9 + ((-1) * v_iv (n_v (vs ++ [Value.int x]) 10) + 0) ≤ 0
      rw [e_0]
      rw [e_10]
      omega
  have nf1 : fc_1 (20, [0, 10], [30, 0, -1, 1, 9, 1, 0, 0]) ws (vs ++ [Value.int x]) := by
    refine ⟨fun n hn => ?_, ?_⟩
    · have hn : n ∈ [0, 10] := hn
      rw [List.length_append, hl]
      simp only [List.mem_cons, List.not_mem_nil, or_false] at hn
      show n < 10 + 1; omega
    · show (-1) * w_fi ws (n_v (vs ++ [Value.int x]) 0) 9 + (1 * v_iv (n_v (vs ++ [Value.int x]) 10) + 0) ≤ 0
      rw [e_0]
      rw [e_10]
      omega
  exact ⟨(fun _ h => (by cases h)), [Value.int x], ag_one hx, List.forall_mem_cons.mpr ⟨⟨show (20 : Nat) < 100 from by decide, nf0⟩, List.forall_mem_cons.mpr ⟨⟨show (20 : Nat) < 100 from by decide, nf1⟩, (fun _ h => (by cases h))⟩⟩, (fun _ h => (by cases h))⟩
def o_Re_readEdges_7 : or_T := (112, 12, [(0, (2, 0, 0, [8])), (10, (0, -2147483648, 1000000, [])), (11, (0, 1, 1, []))], [(8, [11], [1]), (20, [0, 0, 10], [31, 1, 3, 1, 1, 7, 0, 1, 1, 9, -1, 0, 0]), (20, [0, 0, 10], [31, 1, 3, 1, 1, 7, 0, -1, 1, 9, 1, 0, 0]), (20, [0, 0, 0, 0], [31, 1, -3, -1, 1, 7, 4008, 1, 1, 6, -1, 1, 8, 2000, 1, 7]), (20, [0, 0], [30, 0, 1, 1, 8, -1, 1, 6]), (20, [0, 0, 11], [30, 2008, 1, 1, 6, -1, 1, 8, 2000, 0, 0])], [], [], [(20, [0, 0], [30, 8, 1, 1, 6, -1, 1, 8]), (20, [0, 0], [30, 0, -1, 1, 6, 1, 1, 8])], [], [])
theorem oo_Re_readEdges_7 {kA : Nat → ClassId} : or_ok kA GG o_Re_readEdges_7 := by
  intro A ta ws vs hD hth hl hk hds hf
  have hl : vs.length = 12 := hl
  have hk : ∀ q ∈ ([(0, (2, 0, 0, [8])), (10, (0, -2147483648, 1000000, [])), (11, (0, 1, 1, []))] : List (Nat × tv_T)), tv_ok ta q.2 (n_v vs q.1) := hk
  obtain ⟨t0, hk⟩ := List.forall_mem_cons.mp hk
  have t0 : tv_ok ta (2, 0, 0, [8]) (n_v vs 0) := t0
  have r0 : ta (v_ad (n_v vs 0)) = some 8 := tv_rg t0
  obtain ⟨t10, hk⟩ := List.forall_mem_cons.mp hk
  have t10 : tv_ok ta (0, -2147483648, 1000000, []) (n_v vs 10) := t10
  have k10 : (-2147483648) ≤ v_iv (n_v vs 10) ∧ v_iv (n_v vs 10) ≤ 1000000 := tv_rng t10
  obtain ⟨t11, hk⟩ := List.forall_mem_cons.mp hk
  have t11 : tv_ok ta (0, 1, 1, []) (n_v vs 11) := t11
  have k11 : 1 ≤ v_iv (n_v vs 11) ∧ v_iv (n_v vs 11) ≤ 1 := tv_rng t11
  have hf : fc_ok [(8, [11], [1]), (20, [0, 0, 10], [31, 1, 3, 1, 1, 7, 0, 1, 1, 9, -1, 0, 0]), (20, [0, 0, 10], [31, 1, 3, 1, 1, 7, 0, -1, 1, 9, 1, 0, 0]), (20, [0, 0, 0, 0], [31, 1, -3, -1, 1, 7, 4008, 1, 1, 6, -1, 1, 8, 2000, 1, 7]), (20, [0, 0], [30, 0, 1, 1, 8, -1, 1, 6]), (20, [0, 0, 11], [30, 2008, 1, 1, 6, -1, 1, 8, 2000, 0, 0])] ta ws vs := hf
  obtain ⟨f0, hf⟩ := fc_un (show (8 : Nat) < 100 from by decide) hf
  have f0 : v_iv (n_v vs 11) ≠ 0 := f0
  obtain ⟨f1, hf⟩ := fc_un (show (20 : Nat) < 100 from by decide) hf
  have f1 : (1 * w_fi ws (n_v vs 0) 7 + 0 ≤ 3) ∨ (1 * w_fi ws (n_v vs 0) 9 + ((-1) * v_iv (n_v vs 10) + 0) ≤ 0) := f1
  obtain ⟨f2, hf⟩ := fc_un (show (20 : Nat) < 100 from by decide) hf
  have f2 : (1 * w_fi ws (n_v vs 0) 7 + 0 ≤ 3) ∨ ((-1) * w_fi ws (n_v vs 0) 9 + (1 * v_iv (n_v vs 10) + 0) ≤ 0) := f2
  obtain ⟨f3, hf⟩ := fc_un (show (20 : Nat) < 100 from by decide) hf
  have f3 : ((-1) * w_fi ws (n_v vs 0) 7 + 0 ≤ (-3)) ∨ (1 * w_fi ws (n_v vs 0) 6 + ((-1) * w_fi ws (n_v vs 0) 8 + (2000 * w_fi ws (n_v vs 0) 7 + 0)) ≤ 4008) := f3
  obtain ⟨f4, hf⟩ := fc_un (show (20 : Nat) < 100 from by decide) hf
  have f4 : 1 * w_fi ws (n_v vs 0) 8 + ((-1) * w_fi ws (n_v vs 0) 6 + 0) ≤ 0 := f4
  obtain ⟨f5, hf⟩ := fc_un (show (20 : Nat) < 100 from by decide) hf
  have f5 : 1 * w_fi ws (n_v vs 0) 6 + ((-1) * w_fi ws (n_v vs 0) 8 + (2000 * v_iv (n_v vs 11) + 0)) ≤ 2008 := f5
  have kz_0_6 : 0 ≤ w_fi ws (n_v vs 0) 6 ∧ w_fi ws (n_v vs 0) 6 ≤ 2000 := tv_rng (th_fd hD hth r0 (g := GG_8) rfl (k := 6) (t := (0, 0, 2000, [])) rfl rfl)
  have kz_0_7 : (-128) ≤ w_fi ws (n_v vs 0) 7 ∧ w_fi ws (n_v vs 0) 7 ≤ 127 := tv_rng (th_fd hD hth r0 (g := GG_8) rfl (k := 7) (t := (0, -128, 127, [])) rfl rfl)
  have kz_0_8 : 0 ≤ w_fi ws (n_v vs 0) 8 ∧ w_fi ws (n_v vs 0) 8 ≤ 2000 := tv_rng (th_fd hD hth r0 (g := GG_8) rfl (k := 8) (t := (0, 0, 2000, [])) rfl rfl)
  have kz_0_9 : (-2147483648) ≤ w_fi ws (n_v vs 0) 9 ∧ w_fi ws (n_v vs 0) 9 ≤ 1000000 := tv_rng (th_fd hD hth r0 (g := GG_8) rfl (k := 9) (t := (0, -2147483648, 1000000, [])) rfl rfl)
  have nf0 : fc_1 (20, [0, 0], [30, 8, 1, 1, 6, -1, 1, 8]) ws (vs) := by
    refine ⟨fun n hn => ?_, ?_⟩
    · have hn : n ∈ [0, 0] := hn
      rw [hl]
      simp only [List.mem_cons, List.not_mem_nil, or_false] at hn
      show n < 12; omega
    · show 1 * w_fi ws (n_v vs 0) 6 + ((-1) * w_fi ws (n_v vs 0) 8 + 0) ≤ 8
      omega
  have nf1 : fc_1 (20, [0, 0], [30, 0, -1, 1, 6, 1, 1, 8]) ws (vs) := by
    refine ⟨fun n hn => ?_, ?_⟩
    · have hn : n ∈ [0, 0] := hn
      rw [hl]
      simp only [List.mem_cons, List.not_mem_nil, or_false] at hn
      show n < 12; omega
    · show (-1) * w_fi ws (n_v vs 0) 6 + (1 * w_fi ws (n_v vs 0) 8 + 0) ≤ 0
      omega
  refine ⟨(fun _ h => (by cases h)), [], trivial, ?_, (fun _ h => (by cases h))⟩
  rw [List.append_nil]
  exact List.forall_mem_cons.mpr ⟨⟨show (20 : Nat) < 100 from by decide, nf0⟩, List.forall_mem_cons.mpr ⟨⟨show (20 : Nat) < 100 from by decide, nf1⟩, (fun _ h => (by cases h))⟩⟩
def o_Re_readEdges_8 : or_T := (190, 21, [(0, (2, 0, 0, [8])), (10, (0, -2147483648, 1000000, [])), (11, (0, 1, 1, []))], [(20, [0, 0], [30, 8, 1, 1, 6, -1, 1, 8]), (20, [0, 0], [30, 0, -1, 1, 6, 1, 1, 8]), (20, [0, 0, 10], [31, 1, 3, 1, 1, 7, 0, 1, 1, 9, -1, 0, 0]), (20, [0, 0, 10], [31, 1, 3, 1, 1, 7, 0, -1, 1, 9, 1, 0, 0]), (20, [0, 0, 0, 0], [31, 1, -3, -1, 1, 7, 4008, 1, 1, 6, -1, 1, 8, 2000, 1, 7]), (20, [0, 0], [30, 0, 1, 1, 8, -1, 1, 6]), (20, [0, 0, 11], [30, 2008, 1, 1, 6, -1, 1, 8, 2000, 0, 0]), (102, [19], [1796936251320827904, 3001]), (102, [11], [580682876954083328, 3000]), (8, [11], [1])], [], [(0, -2147483648, 1000000, [])], [(20, [0, 21], [30, 0, 1, 1, 9, -1, 0, 0]), (20, [0, 21], [30, 0, -1, 1, 9, 1, 0, 0])], [], [])
theorem oo_Re_readEdges_8 {kA : Nat → ClassId} : or_ok kA GG o_Re_readEdges_8 := by
  intro A ta ws vs hD hth hl hk hds hf
  have hl : vs.length = 21 := hl
  have hk : ∀ q ∈ ([(0, (2, 0, 0, [8])), (10, (0, -2147483648, 1000000, [])), (11, (0, 1, 1, []))] : List (Nat × tv_T)), tv_ok ta q.2 (n_v vs q.1) := hk
  obtain ⟨t0, hk⟩ := List.forall_mem_cons.mp hk
  have t0 : tv_ok ta (2, 0, 0, [8]) (n_v vs 0) := t0
  have r0 : ta (v_ad (n_v vs 0)) = some 8 := tv_rg t0
  obtain ⟨t10, hk⟩ := List.forall_mem_cons.mp hk
  have t10 : tv_ok ta (0, -2147483648, 1000000, []) (n_v vs 10) := t10
  have k10 : (-2147483648) ≤ v_iv (n_v vs 10) ∧ v_iv (n_v vs 10) ≤ 1000000 := tv_rng t10
  obtain ⟨t11, hk⟩ := List.forall_mem_cons.mp hk
  have t11 : tv_ok ta (0, 1, 1, []) (n_v vs 11) := t11
  have k11 : 1 ≤ v_iv (n_v vs 11) ∧ v_iv (n_v vs 11) ≤ 1 := tv_rng t11
  have hf : fc_ok [(20, [0, 0], [30, 8, 1, 1, 6, -1, 1, 8]), (20, [0, 0], [30, 0, -1, 1, 6, 1, 1, 8]), (20, [0, 0, 10], [31, 1, 3, 1, 1, 7, 0, 1, 1, 9, -1, 0, 0]), (20, [0, 0, 10], [31, 1, 3, 1, 1, 7, 0, -1, 1, 9, 1, 0, 0]), (20, [0, 0, 0, 0], [31, 1, -3, -1, 1, 7, 4008, 1, 1, 6, -1, 1, 8, 2000, 1, 7]), (20, [0, 0], [30, 0, 1, 1, 8, -1, 1, 6]), (20, [0, 0, 11], [30, 2008, 1, 1, 6, -1, 1, 8, 2000, 0, 0]), (102, [19], [1796936251320827904, 3001]), (102, [11], [580682876954083328, 3000]), (8, [11], [1])] ta ws vs := hf
  obtain ⟨f0, hf⟩ := fc_un (show (20 : Nat) < 100 from by decide) hf
  have f0 : 1 * w_fi ws (n_v vs 0) 6 + ((-1) * w_fi ws (n_v vs 0) 8 + 0) ≤ 8 := f0
  obtain ⟨f1, hf⟩ := fc_un (show (20 : Nat) < 100 from by decide) hf
  have f1 : (-1) * w_fi ws (n_v vs 0) 6 + (1 * w_fi ws (n_v vs 0) 8 + 0) ≤ 0 := f1
  obtain ⟨f2, hf⟩ := fc_un (show (20 : Nat) < 100 from by decide) hf
  have f2 : (1 * w_fi ws (n_v vs 0) 7 + 0 ≤ 3) ∨ (1 * w_fi ws (n_v vs 0) 9 + ((-1) * v_iv (n_v vs 10) + 0) ≤ 0) := f2
  obtain ⟨f3, hf⟩ := fc_un (show (20 : Nat) < 100 from by decide) hf
  have f3 : (1 * w_fi ws (n_v vs 0) 7 + 0 ≤ 3) ∨ ((-1) * w_fi ws (n_v vs 0) 9 + (1 * v_iv (n_v vs 10) + 0) ≤ 0) := f3
  obtain ⟨f4, hf⟩ := fc_un (show (20 : Nat) < 100 from by decide) hf
  have f4 : ((-1) * w_fi ws (n_v vs 0) 7 + 0 ≤ (-3)) ∨ (1 * w_fi ws (n_v vs 0) 6 + ((-1) * w_fi ws (n_v vs 0) 8 + (2000 * w_fi ws (n_v vs 0) 7 + 0)) ≤ 4008) := f4
  obtain ⟨f5, hf⟩ := fc_un (show (20 : Nat) < 100 from by decide) hf
  have f5 : 1 * w_fi ws (n_v vs 0) 8 + ((-1) * w_fi ws (n_v vs 0) 6 + 0) ≤ 0 := f5
  obtain ⟨f6, hf⟩ := fc_un (show (20 : Nat) < 100 from by decide) hf
  have f6 : 1 * w_fi ws (n_v vs 0) 6 + ((-1) * w_fi ws (n_v vs 0) 8 + (2000 * v_iv (n_v vs 11) + 0)) ≤ 2008 := f6
  obtain ⟨ta1, w1, le1, ⟨_, s1⟩, hf⟩ := fc_us (show ¬ (102 : Nat) < 100 from by decide) hf
  obtain ⟨ta2, w2, le2, ⟨_, s2⟩, hf⟩ := fc_us (show ¬ (102 : Nat) < 100 from by decide) hf
  obtain ⟨f9, hf⟩ := fc_un (show (8 : Nat) < 100 from by decide) hf
  have f9 : v_iv (n_v vs 11) ≠ 0 := f9
  have kz_0_6 : 0 ≤ w_fi ws (n_v vs 0) 6 ∧ w_fi ws (n_v vs 0) 6 ≤ 2000 := tv_rng (th_fd hD hth r0 (g := GG_8) rfl (k := 6) (t := (0, 0, 2000, [])) rfl rfl)
  have kz_0_7 : (-128) ≤ w_fi ws (n_v vs 0) 7 ∧ w_fi ws (n_v vs 0) 7 ≤ 127 := tv_rng (th_fd hD hth r0 (g := GG_8) rfl (k := 7) (t := (0, -128, 127, [])) rfl rfl)
  have kz_0_8 : 0 ≤ w_fi ws (n_v vs 0) 8 ∧ w_fi ws (n_v vs 0) 8 ≤ 2000 := tv_rng (th_fd hD hth r0 (g := GG_8) rfl (k := 8) (t := (0, 0, 2000, [])) rfl rfl)
  have kz_0_9 : (-2147483648) ≤ w_fi ws (n_v vs 0) 9 ∧ w_fi ws (n_v vs 0) 9 ≤ 1000000 := tv_rng (th_fd hD hth r0 (g := GG_8) rfl (k := 9) (t := (0, -2147483648, 1000000, [])) rfl rfl)
  have kv0 : (-2147483648) ≤ w_fi ws (n_v vs 0) 9 ∧ w_fi ws (n_v vs 0) 9 ≤ 1000000 := tv_rng (th_fd hD hth r0 (g := GG_8) rfl (k := 9) (t := (0, -2147483648, 1000000, [])) rfl rfl)
  obtain ⟨x, ex, hx⟩ := iv_ex (ta := ta) (lo := (-2147483648)) (hi := 1000000) (z := w_fi ws (n_v vs 0) 9) (by omega) (by omega) (by omega) (by omega)
  have ex2 : v_iv (Value.int x) = w_fi ws (n_v vs 0) 9 := ex
  have ex3 : (-2147483648) ≤ v_iv (Value.int x) ∧ v_iv (Value.int x) ≤ 1000000 := tv_rng hx
  have e_0 : n_v (vs ++ [Value.int x]) 0 = n_v vs 0 := n_v_old (by rw [hl]; decide)
  have e_21 : n_v (vs ++ [Value.int x]) 21 = Value.int x := n_v_new hl
  have nf0 : fc_1 (20, [0, 21], [30, 0, 1, 1, 9, -1, 0, 0]) ws (vs ++ [Value.int x]) := by
    refine ⟨fun n hn => ?_, ?_⟩
    · have hn : n ∈ [0, 21] := hn
      rw [List.length_append, hl]
      simp only [List.mem_cons, List.not_mem_nil, or_false] at hn
      show n < 21 + 1; omega
    · show 1 * w_fi ws (n_v (vs ++ [Value.int x]) 0) 9 + ((-1) * v_iv (n_v (vs ++ [Value.int x]) 21) + 0) ≤ 0
      rw [e_0]
      rw [e_21]
      omega
  have nf1 : fc_1 (20, [0, 21], [30, 0, -1, 1, 9, 1, 0, 0]) ws (vs ++ [Value.int x]) := by
    refine ⟨fun n hn => ?_, ?_⟩
    · have hn : n ∈ [0, 21] := hn
      rw [List.length_append, hl]
      simp only [List.mem_cons, List.not_mem_nil, or_false] at hn
      show n < 21 + 1; omega
    · show (-1) * w_fi ws (n_v (vs ++ [Value.int x]) 0) 9 + (1 * v_iv (n_v (vs ++ [Value.int x]) 21) + 0) ≤ 0
      rw [e_0]
      rw [e_21]
      omega
  exact ⟨(fun _ h => (by cases h)), [Value.int x], ag_one hx, List.forall_mem_cons.mpr ⟨⟨show (20 : Nat) < 100 from by decide, nf0⟩, List.forall_mem_cons.mpr ⟨⟨show (20 : Nat) < 100 from by decide, nf1⟩, (fun _ h => (by cases h))⟩⟩, (fun _ h => (by cases h))⟩
def o_Re_readEdges_9 : or_T := (254, 6, [(0, (2, 0, 0, [8]))], [(20, [0], [30, 9, 1, 1, 9]), (20, [0], [30, -1, -1, 1, 9])], [], [(0, -2147483648, 1000000, [])], [(20, [0, 6], [30, 0, 1, 1, 9, -1, 0, 0]), (20, [0, 6], [30, 0, -1, 1, 9, 1, 0, 0])], [], [])
theorem oo_Re_readEdges_9 {kA : Nat → ClassId} : or_ok kA GG o_Re_readEdges_9 := by
  intro A ta ws vs hD hth hl hk hds hf
  have hl : vs.length = 6 := hl
  have hk : ∀ q ∈ ([(0, (2, 0, 0, [8]))] : List (Nat × tv_T)), tv_ok ta q.2 (n_v vs q.1) := hk
  obtain ⟨t0, hk⟩ := List.forall_mem_cons.mp hk
  have t0 : tv_ok ta (2, 0, 0, [8]) (n_v vs 0) := t0
  have r0 : ta (v_ad (n_v vs 0)) = some 8 := tv_rg t0
  have hf : fc_ok [(20, [0], [30, 9, 1, 1, 9]), (20, [0], [30, -1, -1, 1, 9])] ta ws vs := hf
  obtain ⟨f0, hf⟩ := fc_un (show (20 : Nat) < 100 from by decide) hf
  have f0 : 1 * w_fi ws (n_v vs 0) 9 + 0 ≤ 9 := f0
  obtain ⟨f1, hf⟩ := fc_un (show (20 : Nat) < 100 from by decide) hf
  have f1 : (-1) * w_fi ws (n_v vs 0) 9 + 0 ≤ (-1) := f1
  have kz_0_9 : (-2147483648) ≤ w_fi ws (n_v vs 0) 9 ∧ w_fi ws (n_v vs 0) 9 ≤ 1000000 := tv_rng (th_fd hD hth r0 (g := GG_8) rfl (k := 9) (t := (0, -2147483648, 1000000, [])) rfl rfl)
  have kv0 : (-2147483648) ≤ w_fi ws (n_v vs 0) 9 ∧ w_fi ws (n_v vs 0) 9 ≤ 1000000 := tv_rng (th_fd hD hth r0 (g := GG_8) rfl (k := 9) (t := (0, -2147483648, 1000000, [])) rfl rfl)
  obtain ⟨x, ex, hx⟩ := iv_ex (ta := ta) (lo := (-2147483648)) (hi := 1000000) (z := w_fi ws (n_v vs 0) 9) (by omega) (by omega) (by omega) (by omega)
  have ex2 : v_iv (Value.int x) = w_fi ws (n_v vs 0) 9 := ex
  have ex3 : (-2147483648) ≤ v_iv (Value.int x) ∧ v_iv (Value.int x) ≤ 1000000 := tv_rng hx
  have e_0 : n_v (vs ++ [Value.int x]) 0 = n_v vs 0 := n_v_old (by rw [hl]; decide)
  have e_6 : n_v (vs ++ [Value.int x]) 6 = Value.int x := n_v_new hl
  have nf0 : fc_1 (20, [0, 6], [30, 0, 1, 1, 9, -1, 0, 0]) ws (vs ++ [Value.int x]) := by
    refine ⟨fun n hn => ?_, ?_⟩
    · have hn : n ∈ [0, 6] := hn
      rw [List.length_append, hl]
      simp only [List.mem_cons, List.not_mem_nil, or_false] at hn
      show n < 6 + 1; omega
    · show 1 * w_fi ws (n_v (vs ++ [Value.int x]) 0) 9 + ((-1) * v_iv (n_v (vs ++ [Value.int x]) 6) + 0) ≤ 0
      rw [e_0]
      rw [e_6]
      omega
  have nf1 : fc_1 (20, [0, 6], [30, 0, -1, 1, 9, 1, 0, 0]) ws (vs ++ [Value.int x]) := by
    refine ⟨fun n hn => ?_, ?_⟩
    · have hn : n ∈ [0, 6] := hn
      rw [List.length_append, hl]
      simp only [List.mem_cons, List.not_mem_nil, or_false] at hn
      show n < 6 + 1; omega
    · show (-1) * w_fi ws (n_v (vs ++ [Value.int x]) 0) 9 + (1 * v_iv (n_v (vs ++ [Value.int x]) 6) + 0) ≤ 0
      rw [e_0]
      rw [e_6]
      omega
  exact ⟨(fun _ h => (by cases h)), [Value.int x], ag_one hx, List.forall_mem_cons.mpr ⟨⟨show (20 : Nat) < 100 from by decide, nf0⟩, List.forall_mem_cons.mpr ⟨⟨show (20 : Nat) < 100 from by decide, nf1⟩, (fun _ h => (by cases h))⟩⟩, (fun _ h => (by cases h))⟩
def o_Re_readEdges_10 : or_T := (246, 8, [(0, (2, 0, 0, [8])), (7, (0, -2147483648, 1000000, []))], [(9, [7, 0], [9]), (20, [0], [30, 9, 1, 1, 9]), (20, [0], [30, -1, -1, 1, 9])], [(7, (0, 0, 9, []))], [], [], [], [])
theorem oo_Re_readEdges_10 {kA : Nat → ClassId} : or_ok kA GG o_Re_readEdges_10 := by
  intro A ta ws vs hD hth hl hk hds hf
  have hl : vs.length = 8 := hl
  have hk : ∀ q ∈ ([(0, (2, 0, 0, [8])), (7, (0, -2147483648, 1000000, []))] : List (Nat × tv_T)), tv_ok ta q.2 (n_v vs q.1) := hk
  obtain ⟨t0, hk⟩ := List.forall_mem_cons.mp hk
  have t0 : tv_ok ta (2, 0, 0, [8]) (n_v vs 0) := t0
  have r0 : ta (v_ad (n_v vs 0)) = some 8 := tv_rg t0
  obtain ⟨t7, hk⟩ := List.forall_mem_cons.mp hk
  have t7 : tv_ok ta (0, -2147483648, 1000000, []) (n_v vs 7) := t7
  have k7 : (-2147483648) ≤ v_iv (n_v vs 7) ∧ v_iv (n_v vs 7) ≤ 1000000 := tv_rng t7
  have hf : fc_ok [(9, [7, 0], [9]), (20, [0], [30, 9, 1, 1, 9]), (20, [0], [30, -1, -1, 1, 9])] ta ws vs := hf
  obtain ⟨f0, hf⟩ := fc_un (show (9 : Nat) < 100 from by decide) hf
  have f0 : n_v vs 7 = w_fd ws (v_ad (n_v vs 0)) 9 := f0
  obtain ⟨f1, hf⟩ := fc_un (show (20 : Nat) < 100 from by decide) hf
  have f1 : 1 * w_fi ws (n_v vs 0) 9 + 0 ≤ 9 := f1
  obtain ⟨f2, hf⟩ := fc_un (show (20 : Nat) < 100 from by decide) hf
  have f2 : (-1) * w_fi ws (n_v vs 0) 9 + 0 ≤ (-1) := f2
  have g0 : v_iv (n_v vs 7) = w_fi ws (n_v vs 0) 9 := congrArg v_iv f0
  have kz_0_9 : (-2147483648) ≤ w_fi ws (n_v vs 0) 9 ∧ w_fi ws (n_v vs 0) 9 ≤ 1000000 := tv_rng (th_fd hD hth r0 (g := GG_8) rfl (k := 9) (t := (0, -2147483648, 1000000, [])) rfl rfl)
  have rf7 : tv_ok ta (0, 0, 9, []) (n_v vs 7) := tv_in t7 (by omega) (by omega)
  refine ⟨List.forall_mem_cons.mpr ⟨rf7, (fun _ h => (by cases h))⟩, [], trivial, ?_, (fun _ h => (by cases h))⟩
  rw [List.append_nil]
  exact (fun _ h => (by cases h))
def n_Re_readEdges_an : List an_T := [(54, [(0, (2, 0, 0, [8])), (1, (0, 0, 23, [])), (2, (0, 0, 48, [])), (3, (0, 0, 49, []))], [], (0, 0), [(0, 0, 99946), (1, 3, 49), (0, 0, 100000)], [(1, 2, -1000000000000, 23), (1, 3, -1000000000000, 23), (2, 1, -1000000000000, 48), (2, 3, -1000000000000, 48)], [], [], 0, [], []), (223, [(0, (2, 0, 0, [8])), (1, (0, 0, 23, [])), (2, (0, 0, 48, [])), (3, (0, 0, 48, []))], [], (0, 0), [(0, 0, 99777), (1, 3, 48), (0, 0, 100000)], [(1, 2, -1000000000000, 23), (1, 3, -1000000000000, 23), (2, 1, -1000000000000, 48), (2, 3, -1000000000000, 0), (3, 1, -1000000000000, 48)], [], [], 0, [], [(20, [0], [30, 9, 1, 1, 9]), (20, [0], [30, -1, -1, 1, 9])])]
def t_Re_readEdges_ct : ct_L := [(1, 57, e_Re_advance), (1, 107, e_Re_isName), (1, 113, e_Re_fail), (1, 127, e_Re_meetNode), (1, 159, e_Gr_edgeBetween), (1, 162, e_Gr_addEdge), (643, 132, e_Re_readValue_at_s5003), (1000000, 166, en_ro [] (2, 0, 0, [5003]))]
set_option maxRecDepth 100000 in
theorem c_Re_readEdges {l : Launch} {D : va_G} {kA : Nat → ClassId} (h_Gr_addEdge : ct_ok l D kA GG y_Gr_addEdge z_Gr_addEdge e_Gr_addEdge) (h_Gr_edgeBetween : ct_ok l D kA GG y_Gr_edgeBetween z_Gr_edgeBetween e_Gr_edgeBetween) (h_Re_advance : ct_ok l D kA GG y_Re_advance z_Re_advance e_Re_advance) (h_Re_fail : ct_ok l D kA GG y_Re_fail z_Re_fail e_Re_fail) (h_Re_isName : ct_ok l D kA GG y_Re_isName z_Re_isName e_Re_isName) (h_Re_meetNode : ct_ok l D kA GG y_Re_meetNode z_Re_meetNode e_Re_meetNode) (h_Re_readValue_at_s5003 : ct_ok l D kA GG y_Re_readValue_at_s5003 z_Re_readValue_at_s5003 e_Re_readValue_at_s5003) : ct_ok l D kA GG y_Re_readEdges z_Re_readEdges e_Re_readEdges := chk_all_ok (FT := [(28, 8, 4), (38, 8, 7), (44, 8, 9), (156, 3, 1), (168, 3, 9)]) (PT := []) (CT := t_Re_readEdges_ct) (KT := []) (NT := []) (AN := n_Re_readEdges_an) (OT := [o_Re_readEdges_0, o_Re_readEdges_1, o_Re_readEdges_2, o_Re_readEdges_3, o_Re_readEdges_4, o_Re_readEdges_5, o_Re_readEdges_6, o_Re_readEdges_7, o_Re_readEdges_8, o_Re_readEdges_9, o_Re_readEdges_10]) 3 1068 (List.forall_mem_cons.mpr ⟨oo_Re_readEdges_0, List.forall_mem_cons.mpr ⟨oo_Re_readEdges_1, List.forall_mem_cons.mpr ⟨oo_Re_readEdges_2, List.forall_mem_cons.mpr ⟨oo_Re_readEdges_3, List.forall_mem_cons.mpr ⟨oo_Re_readEdges_4, List.forall_mem_cons.mpr ⟨oo_Re_readEdges_5, List.forall_mem_cons.mpr ⟨oo_Re_readEdges_6, List.forall_mem_cons.mpr ⟨oo_Re_readEdges_7, List.forall_mem_cons.mpr ⟨oo_Re_readEdges_8, List.forall_mem_cons.mpr ⟨oo_Re_readEdges_9, List.forall_mem_cons.mpr ⟨oo_Re_readEdges_10, List.forall_mem_nil _⟩⟩⟩⟩⟩⟩⟩⟩⟩⟩⟩) (by decide +kernel) ⟨List.forall_mem_cons.mpr ⟨gf_Re_28, List.forall_mem_cons.mpr ⟨gf_Re_38, List.forall_mem_cons.mpr ⟨gf_Re_44, List.forall_mem_cons.mpr ⟨gf_Re_156, List.forall_mem_cons.mpr ⟨gf_Re_168, List.forall_mem_nil _⟩⟩⟩⟩⟩, List.forall_mem_nil _, List.forall_mem_cons.mpr ⟨cl_virtual (y := y_Re_advance) (ci := 8) rfl rfl ⟨_, _, rfl⟩ (by decide +kernel) h_Re_advance wm_645 wm_2 wm_642 wm_644 wv_1_0 ⟨by decide, by decide, by decide +kernel⟩ (by decide), List.forall_mem_cons.mpr ⟨cl_virtual (y := y_Re_isName) (ci := 8) rfl rfl ⟨_, _, rfl⟩ (by decide +kernel) h_Re_isName wm_726 wm_2 wm_723 wm_725 wv_1_4 ⟨by decide, by decide, by decide +kernel⟩ (by decide), List.forall_mem_cons.mpr ⟨cl_virtual (y := y_Re_fail) (ci := 8) rfl rfl ⟨_, _, rfl⟩ (by decide +kernel) h_Re_fail wm_731 wm_2 wm_728 wm_730 wv_1_5 ⟨by decide, by decide, by decide +kernel⟩ (by decide), List.forall_mem_cons.mpr ⟨cl_virtual (y := y_Re_meetNode) (ci := 8) rfl rfl ⟨_, _, rfl⟩ (by decide +kernel) h_Re_meetNode wm_735 wm_2 wm_732 wm_734 wv_1_6 ⟨by decide, by decide, by decide +kernel⟩ (by decide), List.forall_mem_cons.mpr ⟨cl_virtual (y := y_Gr_edgeBetween) (ci := 3) rfl rfl ⟨_, _, rfl⟩ (by decide +kernel) h_Gr_edgeBetween wm_768 wm_3 wm_765 wm_766 wm_767 ⟨by decide, by decide, by decide +kernel⟩ (by decide), List.forall_mem_cons.mpr ⟨cl_virtual (y := y_Gr_addEdge) (ci := 3) rfl rfl ⟨_, _, rfl⟩ (by decide +kernel) h_Gr_addEdge wm_772 wm_3 wm_769 wm_770 wm_771 ⟨by decide, by decide, by decide +kernel⟩ (by decide), List.forall_mem_cons.mpr ⟨cl_virtual (y := y_Re_readValue_at_s5003) (ci := 8) rfl rfl ⟨_, _, rfl⟩ (by decide +kernel) h_Re_readValue_at_s5003 wm_755 wm_2 wm_752 wm_754 wv_1_8 ⟨by decide, by decide, by decide +kernel⟩ (by decide), List.forall_mem_cons.mpr ⟨cl_ldc (own := "DrawingHouse$Reader") (idx := 166) (i := 3) (tx := "weight") (by decide +kernel) (by decide +kernel) (by decide +kernel), List.forall_mem_nil _⟩⟩⟩⟩⟩⟩⟩⟩, List.forall_mem_nil _, List.forall_mem_nil _, GG_pl⟩ (by decide +kernel)
def n_Sy_compileProduct_at_k0_an : List an_T := [(12, [(0, (2, 0, 0, [11])), (1, (0, 0, 0, [])), (2, (0, 0, 2000, []))], [], (0, 0), [(0, 0, 99988), (1, 2, 2000), (0, 0, 100000)], [], [((0, 3), (2, 0, 0, [109]))], [], 0, [], [])]
def t_Sy_compileProduct_at_k0_ct : ct_L := [(1, 69, e_Sy_advance), (1, 128, e_Sy_emit), (10, 158, e_Sy_compileValue_at_k0), (178, 158, e_Sy_compileValue_at_k0)]
set_option maxRecDepth 100000 in
theorem c_Sy_compileProduct_at_k0 {l : Launch} {D : va_G} {kA : Nat → ClassId} (h_Sy_advance : ct_ok l D kA GG y_Sy_advance z_Sy_advance e_Sy_advance) (h_Sy_compileValue_at_k0 : ct_ok l D kA GG y_Sy_compileValue_at_k0 z_Sy_compileValue_at_k0 e_Sy_compileValue_at_k0) (h_Sy_emit : ct_ok l D kA GG y_Sy_emit z_Sy_emit e_Sy_emit) : ct_ok l D kA GG y_Sy_compileProduct_at_k0 z_Sy_compileProduct_at_k0 e_Sy_compileProduct_at_k0 := chk_all_ok (FT := [(31, 11, 6)]) (PT := []) (CT := t_Sy_compileProduct_at_k0_ct) (KT := []) (NT := []) (AN := n_Sy_compileProduct_at_k0_an) (OT := []) 3 268 (List.forall_mem_nil _) (by decide +kernel) ⟨List.forall_mem_cons.mpr ⟨gf_Sy_31, List.forall_mem_nil _⟩, List.forall_mem_nil _, List.forall_mem_cons.mpr ⟨cl_virtual (y := y_Sy_advance) (ci := 11) rfl rfl ⟨_, _, rfl⟩ (by decide +kernel) h_Sy_advance wm_2158 wm_23 wm_2155 wm_2157 wv_10_10 ⟨by decide, by decide, by decide +kernel⟩ (by decide), List.forall_mem_cons.mpr ⟨cl_virtual (y := y_Sy_emit) (ci := 11) rfl rfl ⟨_, _, rfl⟩ (by decide +kernel) h_Sy_emit wm_2258 wm_23 wm_2255 wm_2257 wv_11_2 ⟨by decide, by decide, by decide +kernel⟩ (by decide), List.forall_mem_cons.mpr ⟨cl_virtual (y := y_Sy_compileValue_at_k0) (ci := 11) rfl rfl ⟨_, _, rfl⟩ (by decide +kernel) h_Sy_compileValue_at_k0 wm_2274 wm_23 wm_2271 wm_2273 wv_11_6 ⟨by decide, by decide, by decide +kernel⟩ (by decide), List.forall_mem_cons.mpr ⟨cl_virtual (y := y_Sy_compileValue_at_k0) (ci := 11) rfl rfl ⟨_, _, rfl⟩ (by decide +kernel) h_Sy_compileValue_at_k0 wm_2274 wm_23 wm_2271 wm_2273 wv_11_6 ⟨by decide, by decide, by decide +kernel⟩ (by decide), List.forall_mem_nil _⟩⟩⟩⟩, List.forall_mem_nil _, List.forall_mem_nil _, GG_pl⟩ (by decide +kernel)
def n_Sy_compileProduct_at_k1_an : List an_T := [(12, [(0, (2, 0, 0, [11])), (1, (0, 1, 1, [])), (2, (0, 0, 2000, []))], [], (0, 0), [(0, 0, 99988), (1, 2, 2000), (0, 0, 100000)], [], [((0, 3), (2, 0, 0, [109]))], [], 0, [], [])]
def t_Sy_compileProduct_at_k1_ct : ct_L := [(1, 69, e_Sy_advance), (1, 128, e_Sy_emit), (10, 158, e_Sy_compileValue_at_k1), (178, 158, e_Sy_compileValue_at_k1)]
set_option maxRecDepth 100000 in
theorem c_Sy_compileProduct_at_k1 {l : Launch} {D : va_G} {kA : Nat → ClassId} (h_Sy_advance : ct_ok l D kA GG y_Sy_advance z_Sy_advance e_Sy_advance) (h_Sy_compileValue_at_k1 : ct_ok l D kA GG y_Sy_compileValue_at_k1 z_Sy_compileValue_at_k1 e_Sy_compileValue_at_k1) (h_Sy_emit : ct_ok l D kA GG y_Sy_emit z_Sy_emit e_Sy_emit) : ct_ok l D kA GG y_Sy_compileProduct_at_k1 z_Sy_compileProduct_at_k1 e_Sy_compileProduct_at_k1 := chk_all_ok (FT := [(31, 11, 6)]) (PT := []) (CT := t_Sy_compileProduct_at_k1_ct) (KT := []) (NT := []) (AN := n_Sy_compileProduct_at_k1_an) (OT := []) 3 268 (List.forall_mem_nil _) (by decide +kernel) ⟨List.forall_mem_cons.mpr ⟨gf_Sy_31, List.forall_mem_nil _⟩, List.forall_mem_nil _, List.forall_mem_cons.mpr ⟨cl_virtual (y := y_Sy_advance) (ci := 11) rfl rfl ⟨_, _, rfl⟩ (by decide +kernel) h_Sy_advance wm_2158 wm_23 wm_2155 wm_2157 wv_10_10 ⟨by decide, by decide, by decide +kernel⟩ (by decide), List.forall_mem_cons.mpr ⟨cl_virtual (y := y_Sy_emit) (ci := 11) rfl rfl ⟨_, _, rfl⟩ (by decide +kernel) h_Sy_emit wm_2258 wm_23 wm_2255 wm_2257 wv_11_2 ⟨by decide, by decide, by decide +kernel⟩ (by decide), List.forall_mem_cons.mpr ⟨cl_virtual (y := y_Sy_compileValue_at_k1) (ci := 11) rfl rfl ⟨_, _, rfl⟩ (by decide +kernel) h_Sy_compileValue_at_k1 wm_2274 wm_23 wm_2271 wm_2273 wv_11_6 ⟨by decide, by decide, by decide +kernel⟩ (by decide), List.forall_mem_cons.mpr ⟨cl_virtual (y := y_Sy_compileValue_at_k1) (ci := 11) rfl rfl ⟨_, _, rfl⟩ (by decide +kernel) h_Sy_compileValue_at_k1 wm_2274 wm_23 wm_2271 wm_2273 wv_11_6 ⟨by decide, by decide, by decide +kernel⟩ (by decide), List.forall_mem_nil _⟩⟩⟩⟩, List.forall_mem_nil _, List.forall_mem_nil _, GG_pl⟩ (by decide +kernel)
def n_Sy_compileProduct_at_k10_an : List an_T := [(12, [(0, (2, 0, 0, [11])), (1, (0, 10, 10, [])), (2, (0, 0, 2000, []))], [], (0, 0), [(0, 0, 99988), (1, 2, 2000), (0, 0, 100000)], [], [((0, 3), (2, 0, 0, [109]))], [], 0, [], [])]
def t_Sy_compileProduct_at_k10_ct : ct_L := [(1, 69, e_Sy_advance), (1, 128, e_Sy_emit), (10, 158, e_Sy_compileValue_at_k10), (178, 158, e_Sy_compileValue_at_k10)]
set_option maxRecDepth 100000 in
theorem c_Sy_compileProduct_at_k10 {l : Launch} {D : va_G} {kA : Nat → ClassId} (h_Sy_advance : ct_ok l D kA GG y_Sy_advance z_Sy_advance e_Sy_advance) (h_Sy_compileValue_at_k10 : ct_ok l D kA GG y_Sy_compileValue_at_k10 z_Sy_compileValue_at_k10 e_Sy_compileValue_at_k10) (h_Sy_emit : ct_ok l D kA GG y_Sy_emit z_Sy_emit e_Sy_emit) : ct_ok l D kA GG y_Sy_compileProduct_at_k10 z_Sy_compileProduct_at_k10 e_Sy_compileProduct_at_k10 := chk_all_ok (FT := [(31, 11, 6)]) (PT := []) (CT := t_Sy_compileProduct_at_k10_ct) (KT := []) (NT := []) (AN := n_Sy_compileProduct_at_k10_an) (OT := []) 3 268 (List.forall_mem_nil _) (by decide +kernel) ⟨List.forall_mem_cons.mpr ⟨gf_Sy_31, List.forall_mem_nil _⟩, List.forall_mem_nil _, List.forall_mem_cons.mpr ⟨cl_virtual (y := y_Sy_advance) (ci := 11) rfl rfl ⟨_, _, rfl⟩ (by decide +kernel) h_Sy_advance wm_2158 wm_23 wm_2155 wm_2157 wv_10_10 ⟨by decide, by decide, by decide +kernel⟩ (by decide), List.forall_mem_cons.mpr ⟨cl_virtual (y := y_Sy_emit) (ci := 11) rfl rfl ⟨_, _, rfl⟩ (by decide +kernel) h_Sy_emit wm_2258 wm_23 wm_2255 wm_2257 wv_11_2 ⟨by decide, by decide, by decide +kernel⟩ (by decide), List.forall_mem_cons.mpr ⟨cl_virtual (y := y_Sy_compileValue_at_k10) (ci := 11) rfl rfl ⟨_, _, rfl⟩ (by decide +kernel) h_Sy_compileValue_at_k10 wm_2274 wm_23 wm_2271 wm_2273 wv_11_6 ⟨by decide, by decide, by decide +kernel⟩ (by decide), List.forall_mem_cons.mpr ⟨cl_virtual (y := y_Sy_compileValue_at_k10) (ci := 11) rfl rfl ⟨_, _, rfl⟩ (by decide +kernel) h_Sy_compileValue_at_k10 wm_2274 wm_23 wm_2271 wm_2273 wv_11_6 ⟨by decide, by decide, by decide +kernel⟩ (by decide), List.forall_mem_nil _⟩⟩⟩⟩, List.forall_mem_nil _, List.forall_mem_nil _, GG_pl⟩ (by decide +kernel)
def n_Sy_compileProduct_at_k11_an : List an_T := [(12, [(0, (2, 0, 0, [11])), (1, (0, 11, 11, [])), (2, (0, 0, 2000, []))], [], (0, 0), [(0, 0, 99988), (1, 2, 2000), (0, 0, 100000)], [], [((0, 3), (2, 0, 0, [109]))], [], 0, [], [])]
def t_Sy_compileProduct_at_k11_ct : ct_L := [(1, 69, e_Sy_advance), (1, 128, e_Sy_emit), (10, 158, e_Sy_compileValue_at_k11), (178, 158, e_Sy_compileValue_at_k11)]
set_option maxRecDepth 100000 in
theorem c_Sy_compileProduct_at_k11 {l : Launch} {D : va_G} {kA : Nat → ClassId} (h_Sy_advance : ct_ok l D kA GG y_Sy_advance z_Sy_advance e_Sy_advance) (h_Sy_compileValue_at_k11 : ct_ok l D kA GG y_Sy_compileValue_at_k11 z_Sy_compileValue_at_k11 e_Sy_compileValue_at_k11) (h_Sy_emit : ct_ok l D kA GG y_Sy_emit z_Sy_emit e_Sy_emit) : ct_ok l D kA GG y_Sy_compileProduct_at_k11 z_Sy_compileProduct_at_k11 e_Sy_compileProduct_at_k11 := chk_all_ok (FT := [(31, 11, 6)]) (PT := []) (CT := t_Sy_compileProduct_at_k11_ct) (KT := []) (NT := []) (AN := n_Sy_compileProduct_at_k11_an) (OT := []) 3 268 (List.forall_mem_nil _) (by decide +kernel) ⟨List.forall_mem_cons.mpr ⟨gf_Sy_31, List.forall_mem_nil _⟩, List.forall_mem_nil _, List.forall_mem_cons.mpr ⟨cl_virtual (y := y_Sy_advance) (ci := 11) rfl rfl ⟨_, _, rfl⟩ (by decide +kernel) h_Sy_advance wm_2158 wm_23 wm_2155 wm_2157 wv_10_10 ⟨by decide, by decide, by decide +kernel⟩ (by decide), List.forall_mem_cons.mpr ⟨cl_virtual (y := y_Sy_emit) (ci := 11) rfl rfl ⟨_, _, rfl⟩ (by decide +kernel) h_Sy_emit wm_2258 wm_23 wm_2255 wm_2257 wv_11_2 ⟨by decide, by decide, by decide +kernel⟩ (by decide), List.forall_mem_cons.mpr ⟨cl_virtual (y := y_Sy_compileValue_at_k11) (ci := 11) rfl rfl ⟨_, _, rfl⟩ (by decide +kernel) h_Sy_compileValue_at_k11 wm_2274 wm_23 wm_2271 wm_2273 wv_11_6 ⟨by decide, by decide, by decide +kernel⟩ (by decide), List.forall_mem_cons.mpr ⟨cl_virtual (y := y_Sy_compileValue_at_k11) (ci := 11) rfl rfl ⟨_, _, rfl⟩ (by decide +kernel) h_Sy_compileValue_at_k11 wm_2274 wm_23 wm_2271 wm_2273 wv_11_6 ⟨by decide, by decide, by decide +kernel⟩ (by decide), List.forall_mem_nil _⟩⟩⟩⟩, List.forall_mem_nil _, List.forall_mem_nil _, GG_pl⟩ (by decide +kernel)
def n_Sy_compileProduct_at_k12_an : List an_T := [(12, [(0, (2, 0, 0, [11])), (1, (0, 12, 12, [])), (2, (0, 0, 2000, []))], [], (0, 0), [(0, 0, 99988), (1, 2, 2000), (0, 0, 100000)], [], [((0, 3), (2, 0, 0, [109]))], [], 0, [], [])]
def t_Sy_compileProduct_at_k12_ct : ct_L := [(1, 69, e_Sy_advance), (1, 128, e_Sy_emit), (10, 158, e_Sy_compileValue_at_k12), (178, 158, e_Sy_compileValue_at_k12)]
set_option maxRecDepth 100000 in
theorem c_Sy_compileProduct_at_k12 {l : Launch} {D : va_G} {kA : Nat → ClassId} (h_Sy_advance : ct_ok l D kA GG y_Sy_advance z_Sy_advance e_Sy_advance) (h_Sy_compileValue_at_k12 : ct_ok l D kA GG y_Sy_compileValue_at_k12 z_Sy_compileValue_at_k12 e_Sy_compileValue_at_k12) (h_Sy_emit : ct_ok l D kA GG y_Sy_emit z_Sy_emit e_Sy_emit) : ct_ok l D kA GG y_Sy_compileProduct_at_k12 z_Sy_compileProduct_at_k12 e_Sy_compileProduct_at_k12 := chk_all_ok (FT := [(31, 11, 6)]) (PT := []) (CT := t_Sy_compileProduct_at_k12_ct) (KT := []) (NT := []) (AN := n_Sy_compileProduct_at_k12_an) (OT := []) 3 268 (List.forall_mem_nil _) (by decide +kernel) ⟨List.forall_mem_cons.mpr ⟨gf_Sy_31, List.forall_mem_nil _⟩, List.forall_mem_nil _, List.forall_mem_cons.mpr ⟨cl_virtual (y := y_Sy_advance) (ci := 11) rfl rfl ⟨_, _, rfl⟩ (by decide +kernel) h_Sy_advance wm_2158 wm_23 wm_2155 wm_2157 wv_10_10 ⟨by decide, by decide, by decide +kernel⟩ (by decide), List.forall_mem_cons.mpr ⟨cl_virtual (y := y_Sy_emit) (ci := 11) rfl rfl ⟨_, _, rfl⟩ (by decide +kernel) h_Sy_emit wm_2258 wm_23 wm_2255 wm_2257 wv_11_2 ⟨by decide, by decide, by decide +kernel⟩ (by decide), List.forall_mem_cons.mpr ⟨cl_virtual (y := y_Sy_compileValue_at_k12) (ci := 11) rfl rfl ⟨_, _, rfl⟩ (by decide +kernel) h_Sy_compileValue_at_k12 wm_2274 wm_23 wm_2271 wm_2273 wv_11_6 ⟨by decide, by decide, by decide +kernel⟩ (by decide), List.forall_mem_cons.mpr ⟨cl_virtual (y := y_Sy_compileValue_at_k12) (ci := 11) rfl rfl ⟨_, _, rfl⟩ (by decide +kernel) h_Sy_compileValue_at_k12 wm_2274 wm_23 wm_2271 wm_2273 wv_11_6 ⟨by decide, by decide, by decide +kernel⟩ (by decide), List.forall_mem_nil _⟩⟩⟩⟩, List.forall_mem_nil _, List.forall_mem_nil _, GG_pl⟩ (by decide +kernel)
def n_Sy_compileProduct_at_k2_an : List an_T := [(12, [(0, (2, 0, 0, [11])), (1, (0, 2, 2, [])), (2, (0, 0, 2000, []))], [], (0, 0), [(0, 0, 99988), (1, 2, 2000), (0, 0, 100000)], [], [((0, 3), (2, 0, 0, [109]))], [], 0, [], [])]
def t_Sy_compileProduct_at_k2_ct : ct_L := [(1, 69, e_Sy_advance), (1, 128, e_Sy_emit), (10, 158, e_Sy_compileValue_at_k2), (178, 158, e_Sy_compileValue_at_k2)]
set_option maxRecDepth 100000 in
theorem c_Sy_compileProduct_at_k2 {l : Launch} {D : va_G} {kA : Nat → ClassId} (h_Sy_advance : ct_ok l D kA GG y_Sy_advance z_Sy_advance e_Sy_advance) (h_Sy_compileValue_at_k2 : ct_ok l D kA GG y_Sy_compileValue_at_k2 z_Sy_compileValue_at_k2 e_Sy_compileValue_at_k2) (h_Sy_emit : ct_ok l D kA GG y_Sy_emit z_Sy_emit e_Sy_emit) : ct_ok l D kA GG y_Sy_compileProduct_at_k2 z_Sy_compileProduct_at_k2 e_Sy_compileProduct_at_k2 := chk_all_ok (FT := [(31, 11, 6)]) (PT := []) (CT := t_Sy_compileProduct_at_k2_ct) (KT := []) (NT := []) (AN := n_Sy_compileProduct_at_k2_an) (OT := []) 3 268 (List.forall_mem_nil _) (by decide +kernel) ⟨List.forall_mem_cons.mpr ⟨gf_Sy_31, List.forall_mem_nil _⟩, List.forall_mem_nil _, List.forall_mem_cons.mpr ⟨cl_virtual (y := y_Sy_advance) (ci := 11) rfl rfl ⟨_, _, rfl⟩ (by decide +kernel) h_Sy_advance wm_2158 wm_23 wm_2155 wm_2157 wv_10_10 ⟨by decide, by decide, by decide +kernel⟩ (by decide), List.forall_mem_cons.mpr ⟨cl_virtual (y := y_Sy_emit) (ci := 11) rfl rfl ⟨_, _, rfl⟩ (by decide +kernel) h_Sy_emit wm_2258 wm_23 wm_2255 wm_2257 wv_11_2 ⟨by decide, by decide, by decide +kernel⟩ (by decide), List.forall_mem_cons.mpr ⟨cl_virtual (y := y_Sy_compileValue_at_k2) (ci := 11) rfl rfl ⟨_, _, rfl⟩ (by decide +kernel) h_Sy_compileValue_at_k2 wm_2274 wm_23 wm_2271 wm_2273 wv_11_6 ⟨by decide, by decide, by decide +kernel⟩ (by decide), List.forall_mem_cons.mpr ⟨cl_virtual (y := y_Sy_compileValue_at_k2) (ci := 11) rfl rfl ⟨_, _, rfl⟩ (by decide +kernel) h_Sy_compileValue_at_k2 wm_2274 wm_23 wm_2271 wm_2273 wv_11_6 ⟨by decide, by decide, by decide +kernel⟩ (by decide), List.forall_mem_nil _⟩⟩⟩⟩, List.forall_mem_nil _, List.forall_mem_nil _, GG_pl⟩ (by decide +kernel)
def n_Sy_compileProduct_at_k3_an : List an_T := [(12, [(0, (2, 0, 0, [11])), (1, (0, 3, 3, [])), (2, (0, 0, 2000, []))], [], (0, 0), [(0, 0, 99988), (1, 2, 2000), (0, 0, 100000)], [], [((0, 3), (2, 0, 0, [109]))], [], 0, [], [])]
def t_Sy_compileProduct_at_k3_ct : ct_L := [(1, 69, e_Sy_advance), (1, 128, e_Sy_emit), (10, 158, e_Sy_compileValue_at_k3), (178, 158, e_Sy_compileValue_at_k3)]
set_option maxRecDepth 100000 in
theorem c_Sy_compileProduct_at_k3 {l : Launch} {D : va_G} {kA : Nat → ClassId} (h_Sy_advance : ct_ok l D kA GG y_Sy_advance z_Sy_advance e_Sy_advance) (h_Sy_compileValue_at_k3 : ct_ok l D kA GG y_Sy_compileValue_at_k3 z_Sy_compileValue_at_k3 e_Sy_compileValue_at_k3) (h_Sy_emit : ct_ok l D kA GG y_Sy_emit z_Sy_emit e_Sy_emit) : ct_ok l D kA GG y_Sy_compileProduct_at_k3 z_Sy_compileProduct_at_k3 e_Sy_compileProduct_at_k3 := chk_all_ok (FT := [(31, 11, 6)]) (PT := []) (CT := t_Sy_compileProduct_at_k3_ct) (KT := []) (NT := []) (AN := n_Sy_compileProduct_at_k3_an) (OT := []) 3 268 (List.forall_mem_nil _) (by decide +kernel) ⟨List.forall_mem_cons.mpr ⟨gf_Sy_31, List.forall_mem_nil _⟩, List.forall_mem_nil _, List.forall_mem_cons.mpr ⟨cl_virtual (y := y_Sy_advance) (ci := 11) rfl rfl ⟨_, _, rfl⟩ (by decide +kernel) h_Sy_advance wm_2158 wm_23 wm_2155 wm_2157 wv_10_10 ⟨by decide, by decide, by decide +kernel⟩ (by decide), List.forall_mem_cons.mpr ⟨cl_virtual (y := y_Sy_emit) (ci := 11) rfl rfl ⟨_, _, rfl⟩ (by decide +kernel) h_Sy_emit wm_2258 wm_23 wm_2255 wm_2257 wv_11_2 ⟨by decide, by decide, by decide +kernel⟩ (by decide), List.forall_mem_cons.mpr ⟨cl_virtual (y := y_Sy_compileValue_at_k3) (ci := 11) rfl rfl ⟨_, _, rfl⟩ (by decide +kernel) h_Sy_compileValue_at_k3 wm_2274 wm_23 wm_2271 wm_2273 wv_11_6 ⟨by decide, by decide, by decide +kernel⟩ (by decide), List.forall_mem_cons.mpr ⟨cl_virtual (y := y_Sy_compileValue_at_k3) (ci := 11) rfl rfl ⟨_, _, rfl⟩ (by decide +kernel) h_Sy_compileValue_at_k3 wm_2274 wm_23 wm_2271 wm_2273 wv_11_6 ⟨by decide, by decide, by decide +kernel⟩ (by decide), List.forall_mem_nil _⟩⟩⟩⟩, List.forall_mem_nil _, List.forall_mem_nil _, GG_pl⟩ (by decide +kernel)
def n_Sy_compileProduct_at_k4_an : List an_T := [(12, [(0, (2, 0, 0, [11])), (1, (0, 4, 4, [])), (2, (0, 0, 2000, []))], [], (0, 0), [(0, 0, 99988), (1, 2, 2000), (0, 0, 100000)], [], [((0, 3), (2, 0, 0, [109]))], [], 0, [], [])]
def t_Sy_compileProduct_at_k4_ct : ct_L := [(1, 69, e_Sy_advance), (1, 128, e_Sy_emit), (10, 158, e_Sy_compileValue_at_k4), (178, 158, e_Sy_compileValue_at_k4)]
set_option maxRecDepth 100000 in
theorem c_Sy_compileProduct_at_k4 {l : Launch} {D : va_G} {kA : Nat → ClassId} (h_Sy_advance : ct_ok l D kA GG y_Sy_advance z_Sy_advance e_Sy_advance) (h_Sy_compileValue_at_k4 : ct_ok l D kA GG y_Sy_compileValue_at_k4 z_Sy_compileValue_at_k4 e_Sy_compileValue_at_k4) (h_Sy_emit : ct_ok l D kA GG y_Sy_emit z_Sy_emit e_Sy_emit) : ct_ok l D kA GG y_Sy_compileProduct_at_k4 z_Sy_compileProduct_at_k4 e_Sy_compileProduct_at_k4 := chk_all_ok (FT := [(31, 11, 6)]) (PT := []) (CT := t_Sy_compileProduct_at_k4_ct) (KT := []) (NT := []) (AN := n_Sy_compileProduct_at_k4_an) (OT := []) 3 268 (List.forall_mem_nil _) (by decide +kernel) ⟨List.forall_mem_cons.mpr ⟨gf_Sy_31, List.forall_mem_nil _⟩, List.forall_mem_nil _, List.forall_mem_cons.mpr ⟨cl_virtual (y := y_Sy_advance) (ci := 11) rfl rfl ⟨_, _, rfl⟩ (by decide +kernel) h_Sy_advance wm_2158 wm_23 wm_2155 wm_2157 wv_10_10 ⟨by decide, by decide, by decide +kernel⟩ (by decide), List.forall_mem_cons.mpr ⟨cl_virtual (y := y_Sy_emit) (ci := 11) rfl rfl ⟨_, _, rfl⟩ (by decide +kernel) h_Sy_emit wm_2258 wm_23 wm_2255 wm_2257 wv_11_2 ⟨by decide, by decide, by decide +kernel⟩ (by decide), List.forall_mem_cons.mpr ⟨cl_virtual (y := y_Sy_compileValue_at_k4) (ci := 11) rfl rfl ⟨_, _, rfl⟩ (by decide +kernel) h_Sy_compileValue_at_k4 wm_2274 wm_23 wm_2271 wm_2273 wv_11_6 ⟨by decide, by decide, by decide +kernel⟩ (by decide), List.forall_mem_cons.mpr ⟨cl_virtual (y := y_Sy_compileValue_at_k4) (ci := 11) rfl rfl ⟨_, _, rfl⟩ (by decide +kernel) h_Sy_compileValue_at_k4 wm_2274 wm_23 wm_2271 wm_2273 wv_11_6 ⟨by decide, by decide, by decide +kernel⟩ (by decide), List.forall_mem_nil _⟩⟩⟩⟩, List.forall_mem_nil _, List.forall_mem_nil _, GG_pl⟩ (by decide +kernel)
def n_Sy_compileProduct_at_k5_an : List an_T := [(12, [(0, (2, 0, 0, [11])), (1, (0, 5, 5, [])), (2, (0, 0, 2000, []))], [], (0, 0), [(0, 0, 99988), (1, 2, 2000), (0, 0, 100000)], [], [((0, 3), (2, 0, 0, [109]))], [], 0, [], [])]
def t_Sy_compileProduct_at_k5_ct : ct_L := [(1, 69, e_Sy_advance), (1, 128, e_Sy_emit), (10, 158, e_Sy_compileValue_at_k5), (178, 158, e_Sy_compileValue_at_k5)]
set_option maxRecDepth 100000 in
theorem c_Sy_compileProduct_at_k5 {l : Launch} {D : va_G} {kA : Nat → ClassId} (h_Sy_advance : ct_ok l D kA GG y_Sy_advance z_Sy_advance e_Sy_advance) (h_Sy_compileValue_at_k5 : ct_ok l D kA GG y_Sy_compileValue_at_k5 z_Sy_compileValue_at_k5 e_Sy_compileValue_at_k5) (h_Sy_emit : ct_ok l D kA GG y_Sy_emit z_Sy_emit e_Sy_emit) : ct_ok l D kA GG y_Sy_compileProduct_at_k5 z_Sy_compileProduct_at_k5 e_Sy_compileProduct_at_k5 := chk_all_ok (FT := [(31, 11, 6)]) (PT := []) (CT := t_Sy_compileProduct_at_k5_ct) (KT := []) (NT := []) (AN := n_Sy_compileProduct_at_k5_an) (OT := []) 3 268 (List.forall_mem_nil _) (by decide +kernel) ⟨List.forall_mem_cons.mpr ⟨gf_Sy_31, List.forall_mem_nil _⟩, List.forall_mem_nil _, List.forall_mem_cons.mpr ⟨cl_virtual (y := y_Sy_advance) (ci := 11) rfl rfl ⟨_, _, rfl⟩ (by decide +kernel) h_Sy_advance wm_2158 wm_23 wm_2155 wm_2157 wv_10_10 ⟨by decide, by decide, by decide +kernel⟩ (by decide), List.forall_mem_cons.mpr ⟨cl_virtual (y := y_Sy_emit) (ci := 11) rfl rfl ⟨_, _, rfl⟩ (by decide +kernel) h_Sy_emit wm_2258 wm_23 wm_2255 wm_2257 wv_11_2 ⟨by decide, by decide, by decide +kernel⟩ (by decide), List.forall_mem_cons.mpr ⟨cl_virtual (y := y_Sy_compileValue_at_k5) (ci := 11) rfl rfl ⟨_, _, rfl⟩ (by decide +kernel) h_Sy_compileValue_at_k5 wm_2274 wm_23 wm_2271 wm_2273 wv_11_6 ⟨by decide, by decide, by decide +kernel⟩ (by decide), List.forall_mem_cons.mpr ⟨cl_virtual (y := y_Sy_compileValue_at_k5) (ci := 11) rfl rfl ⟨_, _, rfl⟩ (by decide +kernel) h_Sy_compileValue_at_k5 wm_2274 wm_23 wm_2271 wm_2273 wv_11_6 ⟨by decide, by decide, by decide +kernel⟩ (by decide), List.forall_mem_nil _⟩⟩⟩⟩, List.forall_mem_nil _, List.forall_mem_nil _, GG_pl⟩ (by decide +kernel)
def n_Sy_compileProduct_at_k6_an : List an_T := [(12, [(0, (2, 0, 0, [11])), (1, (0, 6, 6, [])), (2, (0, 0, 2000, []))], [], (0, 0), [(0, 0, 99988), (1, 2, 2000), (0, 0, 100000)], [], [((0, 3), (2, 0, 0, [109]))], [], 0, [], [])]
def t_Sy_compileProduct_at_k6_ct : ct_L := [(1, 69, e_Sy_advance), (1, 128, e_Sy_emit), (10, 158, e_Sy_compileValue_at_k6), (178, 158, e_Sy_compileValue_at_k6)]
set_option maxRecDepth 100000 in
theorem c_Sy_compileProduct_at_k6 {l : Launch} {D : va_G} {kA : Nat → ClassId} (h_Sy_advance : ct_ok l D kA GG y_Sy_advance z_Sy_advance e_Sy_advance) (h_Sy_compileValue_at_k6 : ct_ok l D kA GG y_Sy_compileValue_at_k6 z_Sy_compileValue_at_k6 e_Sy_compileValue_at_k6) (h_Sy_emit : ct_ok l D kA GG y_Sy_emit z_Sy_emit e_Sy_emit) : ct_ok l D kA GG y_Sy_compileProduct_at_k6 z_Sy_compileProduct_at_k6 e_Sy_compileProduct_at_k6 := chk_all_ok (FT := [(31, 11, 6)]) (PT := []) (CT := t_Sy_compileProduct_at_k6_ct) (KT := []) (NT := []) (AN := n_Sy_compileProduct_at_k6_an) (OT := []) 3 268 (List.forall_mem_nil _) (by decide +kernel) ⟨List.forall_mem_cons.mpr ⟨gf_Sy_31, List.forall_mem_nil _⟩, List.forall_mem_nil _, List.forall_mem_cons.mpr ⟨cl_virtual (y := y_Sy_advance) (ci := 11) rfl rfl ⟨_, _, rfl⟩ (by decide +kernel) h_Sy_advance wm_2158 wm_23 wm_2155 wm_2157 wv_10_10 ⟨by decide, by decide, by decide +kernel⟩ (by decide), List.forall_mem_cons.mpr ⟨cl_virtual (y := y_Sy_emit) (ci := 11) rfl rfl ⟨_, _, rfl⟩ (by decide +kernel) h_Sy_emit wm_2258 wm_23 wm_2255 wm_2257 wv_11_2 ⟨by decide, by decide, by decide +kernel⟩ (by decide), List.forall_mem_cons.mpr ⟨cl_virtual (y := y_Sy_compileValue_at_k6) (ci := 11) rfl rfl ⟨_, _, rfl⟩ (by decide +kernel) h_Sy_compileValue_at_k6 wm_2274 wm_23 wm_2271 wm_2273 wv_11_6 ⟨by decide, by decide, by decide +kernel⟩ (by decide), List.forall_mem_cons.mpr ⟨cl_virtual (y := y_Sy_compileValue_at_k6) (ci := 11) rfl rfl ⟨_, _, rfl⟩ (by decide +kernel) h_Sy_compileValue_at_k6 wm_2274 wm_23 wm_2271 wm_2273 wv_11_6 ⟨by decide, by decide, by decide +kernel⟩ (by decide), List.forall_mem_nil _⟩⟩⟩⟩, List.forall_mem_nil _, List.forall_mem_nil _, GG_pl⟩ (by decide +kernel)
def n_Sy_compileProduct_at_k7_an : List an_T := [(12, [(0, (2, 0, 0, [11])), (1, (0, 7, 7, [])), (2, (0, 0, 2000, []))], [], (0, 0), [(0, 0, 99988), (1, 2, 2000), (0, 0, 100000)], [], [((0, 3), (2, 0, 0, [109]))], [], 0, [], [])]
def t_Sy_compileProduct_at_k7_ct : ct_L := [(1, 69, e_Sy_advance), (1, 128, e_Sy_emit), (10, 158, e_Sy_compileValue_at_k7), (178, 158, e_Sy_compileValue_at_k7)]
set_option maxRecDepth 100000 in
theorem c_Sy_compileProduct_at_k7 {l : Launch} {D : va_G} {kA : Nat → ClassId} (h_Sy_advance : ct_ok l D kA GG y_Sy_advance z_Sy_advance e_Sy_advance) (h_Sy_compileValue_at_k7 : ct_ok l D kA GG y_Sy_compileValue_at_k7 z_Sy_compileValue_at_k7 e_Sy_compileValue_at_k7) (h_Sy_emit : ct_ok l D kA GG y_Sy_emit z_Sy_emit e_Sy_emit) : ct_ok l D kA GG y_Sy_compileProduct_at_k7 z_Sy_compileProduct_at_k7 e_Sy_compileProduct_at_k7 := chk_all_ok (FT := [(31, 11, 6)]) (PT := []) (CT := t_Sy_compileProduct_at_k7_ct) (KT := []) (NT := []) (AN := n_Sy_compileProduct_at_k7_an) (OT := []) 3 268 (List.forall_mem_nil _) (by decide +kernel) ⟨List.forall_mem_cons.mpr ⟨gf_Sy_31, List.forall_mem_nil _⟩, List.forall_mem_nil _, List.forall_mem_cons.mpr ⟨cl_virtual (y := y_Sy_advance) (ci := 11) rfl rfl ⟨_, _, rfl⟩ (by decide +kernel) h_Sy_advance wm_2158 wm_23 wm_2155 wm_2157 wv_10_10 ⟨by decide, by decide, by decide +kernel⟩ (by decide), List.forall_mem_cons.mpr ⟨cl_virtual (y := y_Sy_emit) (ci := 11) rfl rfl ⟨_, _, rfl⟩ (by decide +kernel) h_Sy_emit wm_2258 wm_23 wm_2255 wm_2257 wv_11_2 ⟨by decide, by decide, by decide +kernel⟩ (by decide), List.forall_mem_cons.mpr ⟨cl_virtual (y := y_Sy_compileValue_at_k7) (ci := 11) rfl rfl ⟨_, _, rfl⟩ (by decide +kernel) h_Sy_compileValue_at_k7 wm_2274 wm_23 wm_2271 wm_2273 wv_11_6 ⟨by decide, by decide, by decide +kernel⟩ (by decide), List.forall_mem_cons.mpr ⟨cl_virtual (y := y_Sy_compileValue_at_k7) (ci := 11) rfl rfl ⟨_, _, rfl⟩ (by decide +kernel) h_Sy_compileValue_at_k7 wm_2274 wm_23 wm_2271 wm_2273 wv_11_6 ⟨by decide, by decide, by decide +kernel⟩ (by decide), List.forall_mem_nil _⟩⟩⟩⟩, List.forall_mem_nil _, List.forall_mem_nil _, GG_pl⟩ (by decide +kernel)
def n_Sy_compileProduct_at_k8_an : List an_T := [(12, [(0, (2, 0, 0, [11])), (1, (0, 8, 8, [])), (2, (0, 0, 2000, []))], [], (0, 0), [(0, 0, 99988), (1, 2, 2000), (0, 0, 100000)], [], [((0, 3), (2, 0, 0, [109]))], [], 0, [], [])]
def t_Sy_compileProduct_at_k8_ct : ct_L := [(1, 69, e_Sy_advance), (1, 128, e_Sy_emit), (10, 158, e_Sy_compileValue_at_k8), (178, 158, e_Sy_compileValue_at_k8)]
set_option maxRecDepth 100000 in
theorem c_Sy_compileProduct_at_k8 {l : Launch} {D : va_G} {kA : Nat → ClassId} (h_Sy_advance : ct_ok l D kA GG y_Sy_advance z_Sy_advance e_Sy_advance) (h_Sy_compileValue_at_k8 : ct_ok l D kA GG y_Sy_compileValue_at_k8 z_Sy_compileValue_at_k8 e_Sy_compileValue_at_k8) (h_Sy_emit : ct_ok l D kA GG y_Sy_emit z_Sy_emit e_Sy_emit) : ct_ok l D kA GG y_Sy_compileProduct_at_k8 z_Sy_compileProduct_at_k8 e_Sy_compileProduct_at_k8 := chk_all_ok (FT := [(31, 11, 6)]) (PT := []) (CT := t_Sy_compileProduct_at_k8_ct) (KT := []) (NT := []) (AN := n_Sy_compileProduct_at_k8_an) (OT := []) 3 268 (List.forall_mem_nil _) (by decide +kernel) ⟨List.forall_mem_cons.mpr ⟨gf_Sy_31, List.forall_mem_nil _⟩, List.forall_mem_nil _, List.forall_mem_cons.mpr ⟨cl_virtual (y := y_Sy_advance) (ci := 11) rfl rfl ⟨_, _, rfl⟩ (by decide +kernel) h_Sy_advance wm_2158 wm_23 wm_2155 wm_2157 wv_10_10 ⟨by decide, by decide, by decide +kernel⟩ (by decide), List.forall_mem_cons.mpr ⟨cl_virtual (y := y_Sy_emit) (ci := 11) rfl rfl ⟨_, _, rfl⟩ (by decide +kernel) h_Sy_emit wm_2258 wm_23 wm_2255 wm_2257 wv_11_2 ⟨by decide, by decide, by decide +kernel⟩ (by decide), List.forall_mem_cons.mpr ⟨cl_virtual (y := y_Sy_compileValue_at_k8) (ci := 11) rfl rfl ⟨_, _, rfl⟩ (by decide +kernel) h_Sy_compileValue_at_k8 wm_2274 wm_23 wm_2271 wm_2273 wv_11_6 ⟨by decide, by decide, by decide +kernel⟩ (by decide), List.forall_mem_cons.mpr ⟨cl_virtual (y := y_Sy_compileValue_at_k8) (ci := 11) rfl rfl ⟨_, _, rfl⟩ (by decide +kernel) h_Sy_compileValue_at_k8 wm_2274 wm_23 wm_2271 wm_2273 wv_11_6 ⟨by decide, by decide, by decide +kernel⟩ (by decide), List.forall_mem_nil _⟩⟩⟩⟩, List.forall_mem_nil _, List.forall_mem_nil _, GG_pl⟩ (by decide +kernel)
def n_Sy_compileProduct_at_k9_an : List an_T := [(12, [(0, (2, 0, 0, [11])), (1, (0, 9, 9, [])), (2, (0, 0, 2000, []))], [], (0, 0), [(0, 0, 99988), (1, 2, 2000), (0, 0, 100000)], [], [((0, 3), (2, 0, 0, [109]))], [], 0, [], [])]
def t_Sy_compileProduct_at_k9_ct : ct_L := [(1, 69, e_Sy_advance), (1, 128, e_Sy_emit), (10, 158, e_Sy_compileValue_at_k9), (178, 158, e_Sy_compileValue_at_k9)]
set_option maxRecDepth 100000 in
theorem c_Sy_compileProduct_at_k9 {l : Launch} {D : va_G} {kA : Nat → ClassId} (h_Sy_advance : ct_ok l D kA GG y_Sy_advance z_Sy_advance e_Sy_advance) (h_Sy_compileValue_at_k9 : ct_ok l D kA GG y_Sy_compileValue_at_k9 z_Sy_compileValue_at_k9 e_Sy_compileValue_at_k9) (h_Sy_emit : ct_ok l D kA GG y_Sy_emit z_Sy_emit e_Sy_emit) : ct_ok l D kA GG y_Sy_compileProduct_at_k9 z_Sy_compileProduct_at_k9 e_Sy_compileProduct_at_k9 := chk_all_ok (FT := [(31, 11, 6)]) (PT := []) (CT := t_Sy_compileProduct_at_k9_ct) (KT := []) (NT := []) (AN := n_Sy_compileProduct_at_k9_an) (OT := []) 3 268 (List.forall_mem_nil _) (by decide +kernel) ⟨List.forall_mem_cons.mpr ⟨gf_Sy_31, List.forall_mem_nil _⟩, List.forall_mem_nil _, List.forall_mem_cons.mpr ⟨cl_virtual (y := y_Sy_advance) (ci := 11) rfl rfl ⟨_, _, rfl⟩ (by decide +kernel) h_Sy_advance wm_2158 wm_23 wm_2155 wm_2157 wv_10_10 ⟨by decide, by decide, by decide +kernel⟩ (by decide), List.forall_mem_cons.mpr ⟨cl_virtual (y := y_Sy_emit) (ci := 11) rfl rfl ⟨_, _, rfl⟩ (by decide +kernel) h_Sy_emit wm_2258 wm_23 wm_2255 wm_2257 wv_11_2 ⟨by decide, by decide, by decide +kernel⟩ (by decide), List.forall_mem_cons.mpr ⟨cl_virtual (y := y_Sy_compileValue_at_k9) (ci := 11) rfl rfl ⟨_, _, rfl⟩ (by decide +kernel) h_Sy_compileValue_at_k9 wm_2274 wm_23 wm_2271 wm_2273 wv_11_6 ⟨by decide, by decide, by decide +kernel⟩ (by decide), List.forall_mem_cons.mpr ⟨cl_virtual (y := y_Sy_compileValue_at_k9) (ci := 11) rfl rfl ⟨_, _, rfl⟩ (by decide +kernel) h_Sy_compileValue_at_k9 wm_2274 wm_23 wm_2271 wm_2273 wv_11_6 ⟨by decide, by decide, by decide +kernel⟩ (by decide), List.forall_mem_nil _⟩⟩⟩⟩, List.forall_mem_nil _, List.forall_mem_nil _, GG_pl⟩ (by decide +kernel)
def n_Sy_compileSetting_an : List an_T := []
def t_Sy_compileSetting_ct : ct_L := [(1, 69, e_Sy_advance), (1, 118, e_Sy_fail), (1, 128, e_Sy_emit), (25, 114, e_Sy_wordIn_at_s5012), (145, 137, e_Sy_compileSum_at_k0), (1000000, 135, en_ro [] (2, 0, 0, [5012]))]
set_option maxRecDepth 100000 in
theorem c_Sy_compileSetting {l : Launch} {D : va_G} {kA : Nat → ClassId} (h_Sy_advance : ct_ok l D kA GG y_Sy_advance z_Sy_advance e_Sy_advance) (h_Sy_compileSum_at_k0 : ct_ok l D kA GG y_Sy_compileSum_at_k0 z_Sy_compileSum_at_k0 e_Sy_compileSum_at_k0) (h_Sy_emit : ct_ok l D kA GG y_Sy_emit z_Sy_emit e_Sy_emit) (h_Sy_fail : ct_ok l D kA GG y_Sy_fail z_Sy_fail e_Sy_fail) (h_Sy_wordIn_at_s5012 : ct_ok l D kA GG y_Sy_wordIn_at_s5012 z_Sy_wordIn_at_s5012 e_Sy_wordIn_at_s5012) : ct_ok l D kA GG y_Sy_compileSetting z_Sy_compileSetting e_Sy_compileSetting := chk_all_ok (FT := [(31, 11, 6)]) (PT := []) (CT := t_Sy_compileSetting_ct) (KT := []) (NT := []) (AN := n_Sy_compileSetting_an) (OT := []) 0 200 (List.forall_mem_nil _) (by decide +kernel) ⟨List.forall_mem_cons.mpr ⟨gf_Sy_31, List.forall_mem_nil _⟩, List.forall_mem_nil _, List.forall_mem_cons.mpr ⟨cl_virtual (y := y_Sy_advance) (ci := 11) rfl rfl ⟨_, _, rfl⟩ (by decide +kernel) h_Sy_advance wm_2158 wm_23 wm_2155 wm_2157 wv_10_10 ⟨by decide, by decide, by decide +kernel⟩ (by decide), List.forall_mem_cons.mpr ⟨cl_virtual (y := y_Sy_fail) (ci := 11) rfl rfl ⟨_, _, rfl⟩ (by decide +kernel) h_Sy_fail wm_2239 wm_23 wm_2236 wm_2238 wv_10_14 ⟨by decide, by decide, by decide +kernel⟩ (by decide), List.forall_mem_cons.mpr ⟨cl_virtual (y := y_Sy_emit) (ci := 11) rfl rfl ⟨_, _, rfl⟩ (by decide +kernel) h_Sy_emit wm_2258 wm_23 wm_2255 wm_2257 wv_11_2 ⟨by decide, by decide, by decide +kernel⟩ (by decide), List.forall_mem_cons.mpr ⟨cl_virtual (y := y_Sy_wordIn_at_s5012) (ci := 11) rfl rfl ⟨_, _, rfl⟩ (by decide +kernel) h_Sy_wordIn_at_s5012 wm_2229 wm_23 wm_2226 wm_2228 wv_10_12 ⟨by decide, by decide, by decide +kernel⟩ (by decide), List.forall_mem_cons.mpr ⟨cl_virtual (y := y_Sy_compileSum_at_k0) (ci := 11) rfl rfl ⟨_, _, rfl⟩ (by decide +kernel) h_Sy_compileSum_at_k0 wm_2266 wm_23 wm_2263 wm_2265 wv_11_4 ⟨by decide, by decide, by decide +kernel⟩ (by decide), List.forall_mem_cons.mpr ⟨cl_ldc (own := "DrawingHouse$Styler") (idx := 135) (i := 12) (tx := "color width form ") (by decide +kernel) (by decide +kernel) (by decide +kernel), List.forall_mem_nil _⟩⟩⟩⟩⟩⟩, List.forall_mem_nil _, List.forall_mem_nil _, GG_pl⟩ (by decide +kernel)
def n_Sy_compileSum_at_k0_an : List an_T := [(12, [(0, (2, 0, 0, [11])), (1, (0, 0, 0, [])), (2, (0, 0, 2000, []))], [], (0, 0), [(0, 0, 99988), (1, 2, 2000), (0, 0, 100000)], [], [((0, 3), (2, 0, 0, [109]))], [], 0, [], [])]
def t_Sy_compileSum_at_k0_ct : ct_L := [(1, 69, e_Sy_advance), (1, 128, e_Sy_emit), (10, 155, e_Sy_compileProduct_at_k0), (178, 155, e_Sy_compileProduct_at_k0)]
set_option maxRecDepth 100000 in
theorem c_Sy_compileSum_at_k0 {l : Launch} {D : va_G} {kA : Nat → ClassId} (h_Sy_advance : ct_ok l D kA GG y_Sy_advance z_Sy_advance e_Sy_advance) (h_Sy_compileProduct_at_k0 : ct_ok l D kA GG y_Sy_compileProduct_at_k0 z_Sy_compileProduct_at_k0 e_Sy_compileProduct_at_k0) (h_Sy_emit : ct_ok l D kA GG y_Sy_emit z_Sy_emit e_Sy_emit) : ct_ok l D kA GG y_Sy_compileSum_at_k0 z_Sy_compileSum_at_k0 e_Sy_compileSum_at_k0 := chk_all_ok (FT := [(31, 11, 6)]) (PT := []) (CT := t_Sy_compileSum_at_k0_ct) (KT := []) (NT := []) (AN := n_Sy_compileSum_at_k0_an) (OT := []) 3 256 (List.forall_mem_nil _) (by decide +kernel) ⟨List.forall_mem_cons.mpr ⟨gf_Sy_31, List.forall_mem_nil _⟩, List.forall_mem_nil _, List.forall_mem_cons.mpr ⟨cl_virtual (y := y_Sy_advance) (ci := 11) rfl rfl ⟨_, _, rfl⟩ (by decide +kernel) h_Sy_advance wm_2158 wm_23 wm_2155 wm_2157 wv_10_10 ⟨by decide, by decide, by decide +kernel⟩ (by decide), List.forall_mem_cons.mpr ⟨cl_virtual (y := y_Sy_emit) (ci := 11) rfl rfl ⟨_, _, rfl⟩ (by decide +kernel) h_Sy_emit wm_2258 wm_23 wm_2255 wm_2257 wv_11_2 ⟨by decide, by decide, by decide +kernel⟩ (by decide), List.forall_mem_cons.mpr ⟨cl_virtual (y := y_Sy_compileProduct_at_k0) (ci := 11) rfl rfl ⟨_, _, rfl⟩ (by decide +kernel) h_Sy_compileProduct_at_k0 wm_2270 wm_23 wm_2267 wm_2269 wv_11_5 ⟨by decide, by decide, by decide +kernel⟩ (by decide), List.forall_mem_cons.mpr ⟨cl_virtual (y := y_Sy_compileProduct_at_k0) (ci := 11) rfl rfl ⟨_, _, rfl⟩ (by decide +kernel) h_Sy_compileProduct_at_k0 wm_2270 wm_23 wm_2267 wm_2269 wv_11_5 ⟨by decide, by decide, by decide +kernel⟩ (by decide), List.forall_mem_nil _⟩⟩⟩⟩, List.forall_mem_nil _, List.forall_mem_nil _, GG_pl⟩ (by decide +kernel)
def n_Sy_compileSum_at_k1_an : List an_T := [(12, [(0, (2, 0, 0, [11])), (1, (0, 1, 1, [])), (2, (0, 0, 2000, []))], [], (0, 0), [(0, 0, 99988), (1, 2, 2000), (0, 0, 100000)], [], [((0, 3), (2, 0, 0, [109]))], [], 0, [], [])]
def t_Sy_compileSum_at_k1_ct : ct_L := [(1, 69, e_Sy_advance), (1, 128, e_Sy_emit), (10, 155, e_Sy_compileProduct_at_k1), (178, 155, e_Sy_compileProduct_at_k1)]
set_option maxRecDepth 100000 in
theorem c_Sy_compileSum_at_k1 {l : Launch} {D : va_G} {kA : Nat → ClassId} (h_Sy_advance : ct_ok l D kA GG y_Sy_advance z_Sy_advance e_Sy_advance) (h_Sy_compileProduct_at_k1 : ct_ok l D kA GG y_Sy_compileProduct_at_k1 z_Sy_compileProduct_at_k1 e_Sy_compileProduct_at_k1) (h_Sy_emit : ct_ok l D kA GG y_Sy_emit z_Sy_emit e_Sy_emit) : ct_ok l D kA GG y_Sy_compileSum_at_k1 z_Sy_compileSum_at_k1 e_Sy_compileSum_at_k1 := chk_all_ok (FT := [(31, 11, 6)]) (PT := []) (CT := t_Sy_compileSum_at_k1_ct) (KT := []) (NT := []) (AN := n_Sy_compileSum_at_k1_an) (OT := []) 3 256 (List.forall_mem_nil _) (by decide +kernel) ⟨List.forall_mem_cons.mpr ⟨gf_Sy_31, List.forall_mem_nil _⟩, List.forall_mem_nil _, List.forall_mem_cons.mpr ⟨cl_virtual (y := y_Sy_advance) (ci := 11) rfl rfl ⟨_, _, rfl⟩ (by decide +kernel) h_Sy_advance wm_2158 wm_23 wm_2155 wm_2157 wv_10_10 ⟨by decide, by decide, by decide +kernel⟩ (by decide), List.forall_mem_cons.mpr ⟨cl_virtual (y := y_Sy_emit) (ci := 11) rfl rfl ⟨_, _, rfl⟩ (by decide +kernel) h_Sy_emit wm_2258 wm_23 wm_2255 wm_2257 wv_11_2 ⟨by decide, by decide, by decide +kernel⟩ (by decide), List.forall_mem_cons.mpr ⟨cl_virtual (y := y_Sy_compileProduct_at_k1) (ci := 11) rfl rfl ⟨_, _, rfl⟩ (by decide +kernel) h_Sy_compileProduct_at_k1 wm_2270 wm_23 wm_2267 wm_2269 wv_11_5 ⟨by decide, by decide, by decide +kernel⟩ (by decide), List.forall_mem_cons.mpr ⟨cl_virtual (y := y_Sy_compileProduct_at_k1) (ci := 11) rfl rfl ⟨_, _, rfl⟩ (by decide +kernel) h_Sy_compileProduct_at_k1 wm_2270 wm_23 wm_2267 wm_2269 wv_11_5 ⟨by decide, by decide, by decide +kernel⟩ (by decide), List.forall_mem_nil _⟩⟩⟩⟩, List.forall_mem_nil _, List.forall_mem_nil _, GG_pl⟩ (by decide +kernel)
def n_Sy_compileSum_at_k10_an : List an_T := [(12, [(0, (2, 0, 0, [11])), (1, (0, 10, 10, [])), (2, (0, 0, 2000, []))], [], (0, 0), [(0, 0, 99988), (1, 2, 2000), (0, 0, 100000)], [], [((0, 3), (2, 0, 0, [109]))], [], 0, [], [])]
def t_Sy_compileSum_at_k10_ct : ct_L := [(1, 69, e_Sy_advance), (1, 128, e_Sy_emit), (10, 155, e_Sy_compileProduct_at_k10), (178, 155, e_Sy_compileProduct_at_k10)]
set_option maxRecDepth 100000 in
theorem c_Sy_compileSum_at_k10 {l : Launch} {D : va_G} {kA : Nat → ClassId} (h_Sy_advance : ct_ok l D kA GG y_Sy_advance z_Sy_advance e_Sy_advance) (h_Sy_compileProduct_at_k10 : ct_ok l D kA GG y_Sy_compileProduct_at_k10 z_Sy_compileProduct_at_k10 e_Sy_compileProduct_at_k10) (h_Sy_emit : ct_ok l D kA GG y_Sy_emit z_Sy_emit e_Sy_emit) : ct_ok l D kA GG y_Sy_compileSum_at_k10 z_Sy_compileSum_at_k10 e_Sy_compileSum_at_k10 := chk_all_ok (FT := [(31, 11, 6)]) (PT := []) (CT := t_Sy_compileSum_at_k10_ct) (KT := []) (NT := []) (AN := n_Sy_compileSum_at_k10_an) (OT := []) 3 256 (List.forall_mem_nil _) (by decide +kernel) ⟨List.forall_mem_cons.mpr ⟨gf_Sy_31, List.forall_mem_nil _⟩, List.forall_mem_nil _, List.forall_mem_cons.mpr ⟨cl_virtual (y := y_Sy_advance) (ci := 11) rfl rfl ⟨_, _, rfl⟩ (by decide +kernel) h_Sy_advance wm_2158 wm_23 wm_2155 wm_2157 wv_10_10 ⟨by decide, by decide, by decide +kernel⟩ (by decide), List.forall_mem_cons.mpr ⟨cl_virtual (y := y_Sy_emit) (ci := 11) rfl rfl ⟨_, _, rfl⟩ (by decide +kernel) h_Sy_emit wm_2258 wm_23 wm_2255 wm_2257 wv_11_2 ⟨by decide, by decide, by decide +kernel⟩ (by decide), List.forall_mem_cons.mpr ⟨cl_virtual (y := y_Sy_compileProduct_at_k10) (ci := 11) rfl rfl ⟨_, _, rfl⟩ (by decide +kernel) h_Sy_compileProduct_at_k10 wm_2270 wm_23 wm_2267 wm_2269 wv_11_5 ⟨by decide, by decide, by decide +kernel⟩ (by decide), List.forall_mem_cons.mpr ⟨cl_virtual (y := y_Sy_compileProduct_at_k10) (ci := 11) rfl rfl ⟨_, _, rfl⟩ (by decide +kernel) h_Sy_compileProduct_at_k10 wm_2270 wm_23 wm_2267 wm_2269 wv_11_5 ⟨by decide, by decide, by decide +kernel⟩ (by decide), List.forall_mem_nil _⟩⟩⟩⟩, List.forall_mem_nil _, List.forall_mem_nil _, GG_pl⟩ (by decide +kernel)
def n_Sy_compileSum_at_k11_an : List an_T := [(12, [(0, (2, 0, 0, [11])), (1, (0, 11, 11, [])), (2, (0, 0, 2000, []))], [], (0, 0), [(0, 0, 99988), (1, 2, 2000), (0, 0, 100000)], [], [((0, 3), (2, 0, 0, [109]))], [], 0, [], [])]
def t_Sy_compileSum_at_k11_ct : ct_L := [(1, 69, e_Sy_advance), (1, 128, e_Sy_emit), (10, 155, e_Sy_compileProduct_at_k11), (178, 155, e_Sy_compileProduct_at_k11)]
set_option maxRecDepth 100000 in
theorem c_Sy_compileSum_at_k11 {l : Launch} {D : va_G} {kA : Nat → ClassId} (h_Sy_advance : ct_ok l D kA GG y_Sy_advance z_Sy_advance e_Sy_advance) (h_Sy_compileProduct_at_k11 : ct_ok l D kA GG y_Sy_compileProduct_at_k11 z_Sy_compileProduct_at_k11 e_Sy_compileProduct_at_k11) (h_Sy_emit : ct_ok l D kA GG y_Sy_emit z_Sy_emit e_Sy_emit) : ct_ok l D kA GG y_Sy_compileSum_at_k11 z_Sy_compileSum_at_k11 e_Sy_compileSum_at_k11 := chk_all_ok (FT := [(31, 11, 6)]) (PT := []) (CT := t_Sy_compileSum_at_k11_ct) (KT := []) (NT := []) (AN := n_Sy_compileSum_at_k11_an) (OT := []) 3 256 (List.forall_mem_nil _) (by decide +kernel) ⟨List.forall_mem_cons.mpr ⟨gf_Sy_31, List.forall_mem_nil _⟩, List.forall_mem_nil _, List.forall_mem_cons.mpr ⟨cl_virtual (y := y_Sy_advance) (ci := 11) rfl rfl ⟨_, _, rfl⟩ (by decide +kernel) h_Sy_advance wm_2158 wm_23 wm_2155 wm_2157 wv_10_10 ⟨by decide, by decide, by decide +kernel⟩ (by decide), List.forall_mem_cons.mpr ⟨cl_virtual (y := y_Sy_emit) (ci := 11) rfl rfl ⟨_, _, rfl⟩ (by decide +kernel) h_Sy_emit wm_2258 wm_23 wm_2255 wm_2257 wv_11_2 ⟨by decide, by decide, by decide +kernel⟩ (by decide), List.forall_mem_cons.mpr ⟨cl_virtual (y := y_Sy_compileProduct_at_k11) (ci := 11) rfl rfl ⟨_, _, rfl⟩ (by decide +kernel) h_Sy_compileProduct_at_k11 wm_2270 wm_23 wm_2267 wm_2269 wv_11_5 ⟨by decide, by decide, by decide +kernel⟩ (by decide), List.forall_mem_cons.mpr ⟨cl_virtual (y := y_Sy_compileProduct_at_k11) (ci := 11) rfl rfl ⟨_, _, rfl⟩ (by decide +kernel) h_Sy_compileProduct_at_k11 wm_2270 wm_23 wm_2267 wm_2269 wv_11_5 ⟨by decide, by decide, by decide +kernel⟩ (by decide), List.forall_mem_nil _⟩⟩⟩⟩, List.forall_mem_nil _, List.forall_mem_nil _, GG_pl⟩ (by decide +kernel)
def n_Sy_compileSum_at_k12_an : List an_T := [(12, [(0, (2, 0, 0, [11])), (1, (0, 12, 12, [])), (2, (0, 0, 2000, []))], [], (0, 0), [(0, 0, 99988), (1, 2, 2000), (0, 0, 100000)], [], [((0, 3), (2, 0, 0, [109]))], [], 0, [], [])]
def t_Sy_compileSum_at_k12_ct : ct_L := [(1, 69, e_Sy_advance), (1, 128, e_Sy_emit), (10, 155, e_Sy_compileProduct_at_k12), (178, 155, e_Sy_compileProduct_at_k12)]
set_option maxRecDepth 100000 in
theorem c_Sy_compileSum_at_k12 {l : Launch} {D : va_G} {kA : Nat → ClassId} (h_Sy_advance : ct_ok l D kA GG y_Sy_advance z_Sy_advance e_Sy_advance) (h_Sy_compileProduct_at_k12 : ct_ok l D kA GG y_Sy_compileProduct_at_k12 z_Sy_compileProduct_at_k12 e_Sy_compileProduct_at_k12) (h_Sy_emit : ct_ok l D kA GG y_Sy_emit z_Sy_emit e_Sy_emit) : ct_ok l D kA GG y_Sy_compileSum_at_k12 z_Sy_compileSum_at_k12 e_Sy_compileSum_at_k12 := chk_all_ok (FT := [(31, 11, 6)]) (PT := []) (CT := t_Sy_compileSum_at_k12_ct) (KT := []) (NT := []) (AN := n_Sy_compileSum_at_k12_an) (OT := []) 3 256 (List.forall_mem_nil _) (by decide +kernel) ⟨List.forall_mem_cons.mpr ⟨gf_Sy_31, List.forall_mem_nil _⟩, List.forall_mem_nil _, List.forall_mem_cons.mpr ⟨cl_virtual (y := y_Sy_advance) (ci := 11) rfl rfl ⟨_, _, rfl⟩ (by decide +kernel) h_Sy_advance wm_2158 wm_23 wm_2155 wm_2157 wv_10_10 ⟨by decide, by decide, by decide +kernel⟩ (by decide), List.forall_mem_cons.mpr ⟨cl_virtual (y := y_Sy_emit) (ci := 11) rfl rfl ⟨_, _, rfl⟩ (by decide +kernel) h_Sy_emit wm_2258 wm_23 wm_2255 wm_2257 wv_11_2 ⟨by decide, by decide, by decide +kernel⟩ (by decide), List.forall_mem_cons.mpr ⟨cl_virtual (y := y_Sy_compileProduct_at_k12) (ci := 11) rfl rfl ⟨_, _, rfl⟩ (by decide +kernel) h_Sy_compileProduct_at_k12 wm_2270 wm_23 wm_2267 wm_2269 wv_11_5 ⟨by decide, by decide, by decide +kernel⟩ (by decide), List.forall_mem_cons.mpr ⟨cl_virtual (y := y_Sy_compileProduct_at_k12) (ci := 11) rfl rfl ⟨_, _, rfl⟩ (by decide +kernel) h_Sy_compileProduct_at_k12 wm_2270 wm_23 wm_2267 wm_2269 wv_11_5 ⟨by decide, by decide, by decide +kernel⟩ (by decide), List.forall_mem_nil _⟩⟩⟩⟩, List.forall_mem_nil _, List.forall_mem_nil _, GG_pl⟩ (by decide +kernel)
def n_Sy_compileSum_at_k2_an : List an_T := [(12, [(0, (2, 0, 0, [11])), (1, (0, 2, 2, [])), (2, (0, 0, 2000, []))], [], (0, 0), [(0, 0, 99988), (1, 2, 2000), (0, 0, 100000)], [], [((0, 3), (2, 0, 0, [109]))], [], 0, [], [])]
def t_Sy_compileSum_at_k2_ct : ct_L := [(1, 69, e_Sy_advance), (1, 128, e_Sy_emit), (10, 155, e_Sy_compileProduct_at_k2), (178, 155, e_Sy_compileProduct_at_k2)]
set_option maxRecDepth 100000 in
theorem c_Sy_compileSum_at_k2 {l : Launch} {D : va_G} {kA : Nat → ClassId} (h_Sy_advance : ct_ok l D kA GG y_Sy_advance z_Sy_advance e_Sy_advance) (h_Sy_compileProduct_at_k2 : ct_ok l D kA GG y_Sy_compileProduct_at_k2 z_Sy_compileProduct_at_k2 e_Sy_compileProduct_at_k2) (h_Sy_emit : ct_ok l D kA GG y_Sy_emit z_Sy_emit e_Sy_emit) : ct_ok l D kA GG y_Sy_compileSum_at_k2 z_Sy_compileSum_at_k2 e_Sy_compileSum_at_k2 := chk_all_ok (FT := [(31, 11, 6)]) (PT := []) (CT := t_Sy_compileSum_at_k2_ct) (KT := []) (NT := []) (AN := n_Sy_compileSum_at_k2_an) (OT := []) 3 256 (List.forall_mem_nil _) (by decide +kernel) ⟨List.forall_mem_cons.mpr ⟨gf_Sy_31, List.forall_mem_nil _⟩, List.forall_mem_nil _, List.forall_mem_cons.mpr ⟨cl_virtual (y := y_Sy_advance) (ci := 11) rfl rfl ⟨_, _, rfl⟩ (by decide +kernel) h_Sy_advance wm_2158 wm_23 wm_2155 wm_2157 wv_10_10 ⟨by decide, by decide, by decide +kernel⟩ (by decide), List.forall_mem_cons.mpr ⟨cl_virtual (y := y_Sy_emit) (ci := 11) rfl rfl ⟨_, _, rfl⟩ (by decide +kernel) h_Sy_emit wm_2258 wm_23 wm_2255 wm_2257 wv_11_2 ⟨by decide, by decide, by decide +kernel⟩ (by decide), List.forall_mem_cons.mpr ⟨cl_virtual (y := y_Sy_compileProduct_at_k2) (ci := 11) rfl rfl ⟨_, _, rfl⟩ (by decide +kernel) h_Sy_compileProduct_at_k2 wm_2270 wm_23 wm_2267 wm_2269 wv_11_5 ⟨by decide, by decide, by decide +kernel⟩ (by decide), List.forall_mem_cons.mpr ⟨cl_virtual (y := y_Sy_compileProduct_at_k2) (ci := 11) rfl rfl ⟨_, _, rfl⟩ (by decide +kernel) h_Sy_compileProduct_at_k2 wm_2270 wm_23 wm_2267 wm_2269 wv_11_5 ⟨by decide, by decide, by decide +kernel⟩ (by decide), List.forall_mem_nil _⟩⟩⟩⟩, List.forall_mem_nil _, List.forall_mem_nil _, GG_pl⟩ (by decide +kernel)
def n_Sy_compileSum_at_k3_an : List an_T := [(12, [(0, (2, 0, 0, [11])), (1, (0, 3, 3, [])), (2, (0, 0, 2000, []))], [], (0, 0), [(0, 0, 99988), (1, 2, 2000), (0, 0, 100000)], [], [((0, 3), (2, 0, 0, [109]))], [], 0, [], [])]
def t_Sy_compileSum_at_k3_ct : ct_L := [(1, 69, e_Sy_advance), (1, 128, e_Sy_emit), (10, 155, e_Sy_compileProduct_at_k3), (178, 155, e_Sy_compileProduct_at_k3)]
set_option maxRecDepth 100000 in
theorem c_Sy_compileSum_at_k3 {l : Launch} {D : va_G} {kA : Nat → ClassId} (h_Sy_advance : ct_ok l D kA GG y_Sy_advance z_Sy_advance e_Sy_advance) (h_Sy_compileProduct_at_k3 : ct_ok l D kA GG y_Sy_compileProduct_at_k3 z_Sy_compileProduct_at_k3 e_Sy_compileProduct_at_k3) (h_Sy_emit : ct_ok l D kA GG y_Sy_emit z_Sy_emit e_Sy_emit) : ct_ok l D kA GG y_Sy_compileSum_at_k3 z_Sy_compileSum_at_k3 e_Sy_compileSum_at_k3 := chk_all_ok (FT := [(31, 11, 6)]) (PT := []) (CT := t_Sy_compileSum_at_k3_ct) (KT := []) (NT := []) (AN := n_Sy_compileSum_at_k3_an) (OT := []) 3 256 (List.forall_mem_nil _) (by decide +kernel) ⟨List.forall_mem_cons.mpr ⟨gf_Sy_31, List.forall_mem_nil _⟩, List.forall_mem_nil _, List.forall_mem_cons.mpr ⟨cl_virtual (y := y_Sy_advance) (ci := 11) rfl rfl ⟨_, _, rfl⟩ (by decide +kernel) h_Sy_advance wm_2158 wm_23 wm_2155 wm_2157 wv_10_10 ⟨by decide, by decide, by decide +kernel⟩ (by decide), List.forall_mem_cons.mpr ⟨cl_virtual (y := y_Sy_emit) (ci := 11) rfl rfl ⟨_, _, rfl⟩ (by decide +kernel) h_Sy_emit wm_2258 wm_23 wm_2255 wm_2257 wv_11_2 ⟨by decide, by decide, by decide +kernel⟩ (by decide), List.forall_mem_cons.mpr ⟨cl_virtual (y := y_Sy_compileProduct_at_k3) (ci := 11) rfl rfl ⟨_, _, rfl⟩ (by decide +kernel) h_Sy_compileProduct_at_k3 wm_2270 wm_23 wm_2267 wm_2269 wv_11_5 ⟨by decide, by decide, by decide +kernel⟩ (by decide), List.forall_mem_cons.mpr ⟨cl_virtual (y := y_Sy_compileProduct_at_k3) (ci := 11) rfl rfl ⟨_, _, rfl⟩ (by decide +kernel) h_Sy_compileProduct_at_k3 wm_2270 wm_23 wm_2267 wm_2269 wv_11_5 ⟨by decide, by decide, by decide +kernel⟩ (by decide), List.forall_mem_nil _⟩⟩⟩⟩, List.forall_mem_nil _, List.forall_mem_nil _, GG_pl⟩ (by decide +kernel)
def n_Sy_compileSum_at_k4_an : List an_T := [(12, [(0, (2, 0, 0, [11])), (1, (0, 4, 4, [])), (2, (0, 0, 2000, []))], [], (0, 0), [(0, 0, 99988), (1, 2, 2000), (0, 0, 100000)], [], [((0, 3), (2, 0, 0, [109]))], [], 0, [], [])]
def t_Sy_compileSum_at_k4_ct : ct_L := [(1, 69, e_Sy_advance), (1, 128, e_Sy_emit), (10, 155, e_Sy_compileProduct_at_k4), (178, 155, e_Sy_compileProduct_at_k4)]
set_option maxRecDepth 100000 in
theorem c_Sy_compileSum_at_k4 {l : Launch} {D : va_G} {kA : Nat → ClassId} (h_Sy_advance : ct_ok l D kA GG y_Sy_advance z_Sy_advance e_Sy_advance) (h_Sy_compileProduct_at_k4 : ct_ok l D kA GG y_Sy_compileProduct_at_k4 z_Sy_compileProduct_at_k4 e_Sy_compileProduct_at_k4) (h_Sy_emit : ct_ok l D kA GG y_Sy_emit z_Sy_emit e_Sy_emit) : ct_ok l D kA GG y_Sy_compileSum_at_k4 z_Sy_compileSum_at_k4 e_Sy_compileSum_at_k4 := chk_all_ok (FT := [(31, 11, 6)]) (PT := []) (CT := t_Sy_compileSum_at_k4_ct) (KT := []) (NT := []) (AN := n_Sy_compileSum_at_k4_an) (OT := []) 3 256 (List.forall_mem_nil _) (by decide +kernel) ⟨List.forall_mem_cons.mpr ⟨gf_Sy_31, List.forall_mem_nil _⟩, List.forall_mem_nil _, List.forall_mem_cons.mpr ⟨cl_virtual (y := y_Sy_advance) (ci := 11) rfl rfl ⟨_, _, rfl⟩ (by decide +kernel) h_Sy_advance wm_2158 wm_23 wm_2155 wm_2157 wv_10_10 ⟨by decide, by decide, by decide +kernel⟩ (by decide), List.forall_mem_cons.mpr ⟨cl_virtual (y := y_Sy_emit) (ci := 11) rfl rfl ⟨_, _, rfl⟩ (by decide +kernel) h_Sy_emit wm_2258 wm_23 wm_2255 wm_2257 wv_11_2 ⟨by decide, by decide, by decide +kernel⟩ (by decide), List.forall_mem_cons.mpr ⟨cl_virtual (y := y_Sy_compileProduct_at_k4) (ci := 11) rfl rfl ⟨_, _, rfl⟩ (by decide +kernel) h_Sy_compileProduct_at_k4 wm_2270 wm_23 wm_2267 wm_2269 wv_11_5 ⟨by decide, by decide, by decide +kernel⟩ (by decide), List.forall_mem_cons.mpr ⟨cl_virtual (y := y_Sy_compileProduct_at_k4) (ci := 11) rfl rfl ⟨_, _, rfl⟩ (by decide +kernel) h_Sy_compileProduct_at_k4 wm_2270 wm_23 wm_2267 wm_2269 wv_11_5 ⟨by decide, by decide, by decide +kernel⟩ (by decide), List.forall_mem_nil _⟩⟩⟩⟩, List.forall_mem_nil _, List.forall_mem_nil _, GG_pl⟩ (by decide +kernel)
def n_Sy_compileSum_at_k5_an : List an_T := [(12, [(0, (2, 0, 0, [11])), (1, (0, 5, 5, [])), (2, (0, 0, 2000, []))], [], (0, 0), [(0, 0, 99988), (1, 2, 2000), (0, 0, 100000)], [], [((0, 3), (2, 0, 0, [109]))], [], 0, [], [])]
def t_Sy_compileSum_at_k5_ct : ct_L := [(1, 69, e_Sy_advance), (1, 128, e_Sy_emit), (10, 155, e_Sy_compileProduct_at_k5), (178, 155, e_Sy_compileProduct_at_k5)]
set_option maxRecDepth 100000 in
theorem c_Sy_compileSum_at_k5 {l : Launch} {D : va_G} {kA : Nat → ClassId} (h_Sy_advance : ct_ok l D kA GG y_Sy_advance z_Sy_advance e_Sy_advance) (h_Sy_compileProduct_at_k5 : ct_ok l D kA GG y_Sy_compileProduct_at_k5 z_Sy_compileProduct_at_k5 e_Sy_compileProduct_at_k5) (h_Sy_emit : ct_ok l D kA GG y_Sy_emit z_Sy_emit e_Sy_emit) : ct_ok l D kA GG y_Sy_compileSum_at_k5 z_Sy_compileSum_at_k5 e_Sy_compileSum_at_k5 := chk_all_ok (FT := [(31, 11, 6)]) (PT := []) (CT := t_Sy_compileSum_at_k5_ct) (KT := []) (NT := []) (AN := n_Sy_compileSum_at_k5_an) (OT := []) 3 256 (List.forall_mem_nil _) (by decide +kernel) ⟨List.forall_mem_cons.mpr ⟨gf_Sy_31, List.forall_mem_nil _⟩, List.forall_mem_nil _, List.forall_mem_cons.mpr ⟨cl_virtual (y := y_Sy_advance) (ci := 11) rfl rfl ⟨_, _, rfl⟩ (by decide +kernel) h_Sy_advance wm_2158 wm_23 wm_2155 wm_2157 wv_10_10 ⟨by decide, by decide, by decide +kernel⟩ (by decide), List.forall_mem_cons.mpr ⟨cl_virtual (y := y_Sy_emit) (ci := 11) rfl rfl ⟨_, _, rfl⟩ (by decide +kernel) h_Sy_emit wm_2258 wm_23 wm_2255 wm_2257 wv_11_2 ⟨by decide, by decide, by decide +kernel⟩ (by decide), List.forall_mem_cons.mpr ⟨cl_virtual (y := y_Sy_compileProduct_at_k5) (ci := 11) rfl rfl ⟨_, _, rfl⟩ (by decide +kernel) h_Sy_compileProduct_at_k5 wm_2270 wm_23 wm_2267 wm_2269 wv_11_5 ⟨by decide, by decide, by decide +kernel⟩ (by decide), List.forall_mem_cons.mpr ⟨cl_virtual (y := y_Sy_compileProduct_at_k5) (ci := 11) rfl rfl ⟨_, _, rfl⟩ (by decide +kernel) h_Sy_compileProduct_at_k5 wm_2270 wm_23 wm_2267 wm_2269 wv_11_5 ⟨by decide, by decide, by decide +kernel⟩ (by decide), List.forall_mem_nil _⟩⟩⟩⟩, List.forall_mem_nil _, List.forall_mem_nil _, GG_pl⟩ (by decide +kernel)
def n_Sy_compileSum_at_k6_an : List an_T := [(12, [(0, (2, 0, 0, [11])), (1, (0, 6, 6, [])), (2, (0, 0, 2000, []))], [], (0, 0), [(0, 0, 99988), (1, 2, 2000), (0, 0, 100000)], [], [((0, 3), (2, 0, 0, [109]))], [], 0, [], [])]
def t_Sy_compileSum_at_k6_ct : ct_L := [(1, 69, e_Sy_advance), (1, 128, e_Sy_emit), (10, 155, e_Sy_compileProduct_at_k6), (178, 155, e_Sy_compileProduct_at_k6)]
set_option maxRecDepth 100000 in
theorem c_Sy_compileSum_at_k6 {l : Launch} {D : va_G} {kA : Nat → ClassId} (h_Sy_advance : ct_ok l D kA GG y_Sy_advance z_Sy_advance e_Sy_advance) (h_Sy_compileProduct_at_k6 : ct_ok l D kA GG y_Sy_compileProduct_at_k6 z_Sy_compileProduct_at_k6 e_Sy_compileProduct_at_k6) (h_Sy_emit : ct_ok l D kA GG y_Sy_emit z_Sy_emit e_Sy_emit) : ct_ok l D kA GG y_Sy_compileSum_at_k6 z_Sy_compileSum_at_k6 e_Sy_compileSum_at_k6 := chk_all_ok (FT := [(31, 11, 6)]) (PT := []) (CT := t_Sy_compileSum_at_k6_ct) (KT := []) (NT := []) (AN := n_Sy_compileSum_at_k6_an) (OT := []) 3 256 (List.forall_mem_nil _) (by decide +kernel) ⟨List.forall_mem_cons.mpr ⟨gf_Sy_31, List.forall_mem_nil _⟩, List.forall_mem_nil _, List.forall_mem_cons.mpr ⟨cl_virtual (y := y_Sy_advance) (ci := 11) rfl rfl ⟨_, _, rfl⟩ (by decide +kernel) h_Sy_advance wm_2158 wm_23 wm_2155 wm_2157 wv_10_10 ⟨by decide, by decide, by decide +kernel⟩ (by decide), List.forall_mem_cons.mpr ⟨cl_virtual (y := y_Sy_emit) (ci := 11) rfl rfl ⟨_, _, rfl⟩ (by decide +kernel) h_Sy_emit wm_2258 wm_23 wm_2255 wm_2257 wv_11_2 ⟨by decide, by decide, by decide +kernel⟩ (by decide), List.forall_mem_cons.mpr ⟨cl_virtual (y := y_Sy_compileProduct_at_k6) (ci := 11) rfl rfl ⟨_, _, rfl⟩ (by decide +kernel) h_Sy_compileProduct_at_k6 wm_2270 wm_23 wm_2267 wm_2269 wv_11_5 ⟨by decide, by decide, by decide +kernel⟩ (by decide), List.forall_mem_cons.mpr ⟨cl_virtual (y := y_Sy_compileProduct_at_k6) (ci := 11) rfl rfl ⟨_, _, rfl⟩ (by decide +kernel) h_Sy_compileProduct_at_k6 wm_2270 wm_23 wm_2267 wm_2269 wv_11_5 ⟨by decide, by decide, by decide +kernel⟩ (by decide), List.forall_mem_nil _⟩⟩⟩⟩, List.forall_mem_nil _, List.forall_mem_nil _, GG_pl⟩ (by decide +kernel)
def n_Sy_compileSum_at_k7_an : List an_T := [(12, [(0, (2, 0, 0, [11])), (1, (0, 7, 7, [])), (2, (0, 0, 2000, []))], [], (0, 0), [(0, 0, 99988), (1, 2, 2000), (0, 0, 100000)], [], [((0, 3), (2, 0, 0, [109]))], [], 0, [], [])]
def t_Sy_compileSum_at_k7_ct : ct_L := [(1, 69, e_Sy_advance), (1, 128, e_Sy_emit), (10, 155, e_Sy_compileProduct_at_k7), (178, 155, e_Sy_compileProduct_at_k7)]
set_option maxRecDepth 100000 in
theorem c_Sy_compileSum_at_k7 {l : Launch} {D : va_G} {kA : Nat → ClassId} (h_Sy_advance : ct_ok l D kA GG y_Sy_advance z_Sy_advance e_Sy_advance) (h_Sy_compileProduct_at_k7 : ct_ok l D kA GG y_Sy_compileProduct_at_k7 z_Sy_compileProduct_at_k7 e_Sy_compileProduct_at_k7) (h_Sy_emit : ct_ok l D kA GG y_Sy_emit z_Sy_emit e_Sy_emit) : ct_ok l D kA GG y_Sy_compileSum_at_k7 z_Sy_compileSum_at_k7 e_Sy_compileSum_at_k7 := chk_all_ok (FT := [(31, 11, 6)]) (PT := []) (CT := t_Sy_compileSum_at_k7_ct) (KT := []) (NT := []) (AN := n_Sy_compileSum_at_k7_an) (OT := []) 3 256 (List.forall_mem_nil _) (by decide +kernel) ⟨List.forall_mem_cons.mpr ⟨gf_Sy_31, List.forall_mem_nil _⟩, List.forall_mem_nil _, List.forall_mem_cons.mpr ⟨cl_virtual (y := y_Sy_advance) (ci := 11) rfl rfl ⟨_, _, rfl⟩ (by decide +kernel) h_Sy_advance wm_2158 wm_23 wm_2155 wm_2157 wv_10_10 ⟨by decide, by decide, by decide +kernel⟩ (by decide), List.forall_mem_cons.mpr ⟨cl_virtual (y := y_Sy_emit) (ci := 11) rfl rfl ⟨_, _, rfl⟩ (by decide +kernel) h_Sy_emit wm_2258 wm_23 wm_2255 wm_2257 wv_11_2 ⟨by decide, by decide, by decide +kernel⟩ (by decide), List.forall_mem_cons.mpr ⟨cl_virtual (y := y_Sy_compileProduct_at_k7) (ci := 11) rfl rfl ⟨_, _, rfl⟩ (by decide +kernel) h_Sy_compileProduct_at_k7 wm_2270 wm_23 wm_2267 wm_2269 wv_11_5 ⟨by decide, by decide, by decide +kernel⟩ (by decide), List.forall_mem_cons.mpr ⟨cl_virtual (y := y_Sy_compileProduct_at_k7) (ci := 11) rfl rfl ⟨_, _, rfl⟩ (by decide +kernel) h_Sy_compileProduct_at_k7 wm_2270 wm_23 wm_2267 wm_2269 wv_11_5 ⟨by decide, by decide, by decide +kernel⟩ (by decide), List.forall_mem_nil _⟩⟩⟩⟩, List.forall_mem_nil _, List.forall_mem_nil _, GG_pl⟩ (by decide +kernel)
def n_Sy_compileSum_at_k8_an : List an_T := [(12, [(0, (2, 0, 0, [11])), (1, (0, 8, 8, [])), (2, (0, 0, 2000, []))], [], (0, 0), [(0, 0, 99988), (1, 2, 2000), (0, 0, 100000)], [], [((0, 3), (2, 0, 0, [109]))], [], 0, [], [])]
def t_Sy_compileSum_at_k8_ct : ct_L := [(1, 69, e_Sy_advance), (1, 128, e_Sy_emit), (10, 155, e_Sy_compileProduct_at_k8), (178, 155, e_Sy_compileProduct_at_k8)]
set_option maxRecDepth 100000 in
theorem c_Sy_compileSum_at_k8 {l : Launch} {D : va_G} {kA : Nat → ClassId} (h_Sy_advance : ct_ok l D kA GG y_Sy_advance z_Sy_advance e_Sy_advance) (h_Sy_compileProduct_at_k8 : ct_ok l D kA GG y_Sy_compileProduct_at_k8 z_Sy_compileProduct_at_k8 e_Sy_compileProduct_at_k8) (h_Sy_emit : ct_ok l D kA GG y_Sy_emit z_Sy_emit e_Sy_emit) : ct_ok l D kA GG y_Sy_compileSum_at_k8 z_Sy_compileSum_at_k8 e_Sy_compileSum_at_k8 := chk_all_ok (FT := [(31, 11, 6)]) (PT := []) (CT := t_Sy_compileSum_at_k8_ct) (KT := []) (NT := []) (AN := n_Sy_compileSum_at_k8_an) (OT := []) 3 256 (List.forall_mem_nil _) (by decide +kernel) ⟨List.forall_mem_cons.mpr ⟨gf_Sy_31, List.forall_mem_nil _⟩, List.forall_mem_nil _, List.forall_mem_cons.mpr ⟨cl_virtual (y := y_Sy_advance) (ci := 11) rfl rfl ⟨_, _, rfl⟩ (by decide +kernel) h_Sy_advance wm_2158 wm_23 wm_2155 wm_2157 wv_10_10 ⟨by decide, by decide, by decide +kernel⟩ (by decide), List.forall_mem_cons.mpr ⟨cl_virtual (y := y_Sy_emit) (ci := 11) rfl rfl ⟨_, _, rfl⟩ (by decide +kernel) h_Sy_emit wm_2258 wm_23 wm_2255 wm_2257 wv_11_2 ⟨by decide, by decide, by decide +kernel⟩ (by decide), List.forall_mem_cons.mpr ⟨cl_virtual (y := y_Sy_compileProduct_at_k8) (ci := 11) rfl rfl ⟨_, _, rfl⟩ (by decide +kernel) h_Sy_compileProduct_at_k8 wm_2270 wm_23 wm_2267 wm_2269 wv_11_5 ⟨by decide, by decide, by decide +kernel⟩ (by decide), List.forall_mem_cons.mpr ⟨cl_virtual (y := y_Sy_compileProduct_at_k8) (ci := 11) rfl rfl ⟨_, _, rfl⟩ (by decide +kernel) h_Sy_compileProduct_at_k8 wm_2270 wm_23 wm_2267 wm_2269 wv_11_5 ⟨by decide, by decide, by decide +kernel⟩ (by decide), List.forall_mem_nil _⟩⟩⟩⟩, List.forall_mem_nil _, List.forall_mem_nil _, GG_pl⟩ (by decide +kernel)
